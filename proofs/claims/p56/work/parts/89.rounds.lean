/-! THE LAW'S ROUNDS. -/
theorem kwG167 {L B f : Nat} {x4 x5 : Int32} {mi : mMi} {rs : mRs} : H245_167 L B (f + 1) 167 x4 x5 mi rs = mckO (rs.2.1.1 B) (mifO (decide (x4 ≤ (N 0))) (bN 20 (N 1) mi rs (fun n2 m2 r2 => mckO (r2.2.1.1 B) (mckO (mIsArr (r2.2.1.2.1 n2) 20 (N 0)) (bI (H238 n2 (N 0) (mset m2 9 n2 0 0 (N 13)) r2) (fun v4 m4 r4 => mckO (r4.2.1.1 B) (mifO (decide (v4 ≠ (N 3))) (mckO (mZ (N 0) || false) (some (.inl (some (mI (N 0))), m4, r4))) (bN 20 (N 1) m4 r4 (fun n6 m6 r6 => mckO (r6.2.1.1 B) (mckO (mIsArr (r6.2.1.2.1 n6) 20 (N 0)) (bI (H238 n6 (N 1) (mset m6 9 n6 0 0 (N 6)) r6) (fun v8 m8 r8 => mckO (r8.2.1.1 B) (mifO (decide (v8 ≠ (N 3))) (mckO (mZ (N 0) || false) (some (.inl (some (mI (N 0))), m8, r8))) (bN 20 (N 1) m8 r8 (fun n10 m10 r10 => mckO (r10.2.1.1 B) (mckO (mIsArr (r10.2.1.2.1 n10) 20 (N 0)) (bI (H238 n10 (N 19) (mset m10 9 n10 0 0 (N 0)) r10) (fun v12 m12 r12 => mckO (r12.2.1.1 B) (mifO (decide (v12 ≠ (N 3))) (mckO (mZ (N 0) || false) (some (.inl (some (mI (N 0))), m12, r12))) (mckO (mZ (N 1) || false) (some (.inl (some (mI (N 1))), m12, r12))))))))))))))))))))) (H245_167 L B f 175 x4 (N 0) mi rs)) := rfl
theorem kwG175 {L B f : Nat} {x4 x5 : Int32} {mi : mMi} {rs : mRs} : H245_167 L B (f + 1) 175 x4 x5 mi rs = mckO (rs.2.1.1 B) (mifO (decide ((N 3) ≤ x5)) (bI (H240 B mi rs) (fun v15 m15 r15 => mckO (r15.2.1.1 B) (mifO (decide (v15 = (N 0))) (some (.inl (some (mI (N 0))), m15, r15)) (bI (H242 B m15 r15) (fun v17 m17 r17 => mckO (r17.2.1.1 B) (mifO (decide (v17 = (N 0))) (some (.inl (some (mI (N 0))), m17, r17)) (bI (H244 L B m17 r17) (fun v19 m19 r19 => mckO (r19.2.1.1 B) (mifO (decide (v19 ≠ (N 0))) (H245_167 L B f 167 (x4 + (I (-1))) (N 0) m19 r19) (some (.inl (some (mI (N 0))), m19, r19))))))))))) (bI (H241 L B mi rs) (fun v21 m21 r21 => mckO (r21.2.1.1 B) (mifO (decide (v21 ≠ (N 0))) (H245_167 L B f 175 x4 (x5 + (N 1)) m21 r21) (some (.inl (some (mI (N 0))), m21, r21)))))) := rfl
/-- the room that is used -/
def kwCt (k s : Nat) (r R : mRs) : Prop := R.2.2.2.1 ≤ r.2.2.2.1 + k ∧ R.2.2.2.2 ≤ r.2.2.2.2 + s
theorem kwCt_s {k s : Nat} {r R : mRs} (h : kwRs k s r R) : kwCt k s r R := ⟨h.2.2.2.1, h.2.2.2.2.1⟩
theorem kwCt_u {n₀ k s : Nat} {r R : mRs} (h : kwRu n₀ k s r R) : kwCt k s r R := ⟨h.2.2.2.1, h.2.2.2.2.1⟩
theorem kwCt_trans {k s k₁ s₁ : Nat} {r r₁ r₂ : mRs} (h₁ : kwCt k s r r₁) (h₂ : kwCt k₁ s₁ r₁ r₂) : kwCt (k + k₁) (s + s₁) r r₂ := by
  obtain ⟨a₁, a₂⟩ := h₁
  obtain ⟨b₁, b₂⟩ := h₂
  exact ⟨by omega, by omega⟩
theorem kwCt_le {k s k₁ s₁ : Nat} {r r₁ : mRs} (h₁ : kwCt k s r r₁) (h₂ : k ≤ k₁) (h₃ : s ≤ s₁) : kwCt k₁ s₁ r r₁ := by
  obtain ⟨a₁, a₂⟩ := h₁
  exact ⟨by omega, by omega⟩
theorem kwRo_s {B k s : Nat} {r R : mRs} (h : kwRo B r) (h₁ : kwRs k s r R) : kwRo B R := by
  obtain ⟨a₁, a₂, a₃⟩ := h
  obtain ⟨b₁, _, b₃, _⟩ := h₁
  exact ⟨by rw [b₁]; omega, by omega, by omega⟩
/-- what stays in every round -/
def kwKn (m : mMi) (n : Nat) : Prop := kwNms m n ∧ kwDg m
theorem kwKn_f {m M : mMi} {n : Nat} (h : kwKn m n) (h₁ : ∀ f a j p, f = 1 ∨ f = 3 → a < 10 → M f a j p = m f a j p) : kwKn M n := ⟨⟨h.1.1, fun k y => by rw [h₁ 1 0 2 k (Or.inl rfl) (by omega)]; exact h.1.2 k y⟩, fun k y => by
  rw [h₁ 3 4 0 k (Or.inr rfl) (by omega), h₁ 3 5 0 k (Or.inr rfl) (by omega)]
  exact h.2 k y⟩
/-- one change -/
theorem kwActs {m : mMi} {r : mRs} {L B w l n lm dp cl bd T Z D : Nat} {β : Nat → Int32} {W : Nat → Nat} (q : kwI m r B w l n lm dp cl bd β W T Z D) (ro : kwRo B r) (kn : kwKn m n) (bT : T ≤ 800000000) (hL : L < 2147483648) (bD : D < 800000) (bZ : Z + 6 ≤ 9999) : ∃ M R, kwI M R B w l n lm dp cl bd β W (T + 192) (Z + 6) (D + 6) ∧ kwRo B R ∧ kwKn M n ∧ kwCt 9 66 r R ∧ ∀ f x4 j, j < 3 → H245_167 L B (f + 1) 175 x4 (N j) m r = H245_167 L B f 175 x4 (N (j + 1)) M R := by
  obtain ⟨M, R, k₁, q₁, f₁, o₁⟩ := kwAct (L := L) q bT hL bD bZ
  have hB := q.2.2.2.2
  refine ⟨M, R, q₁, kwRo_s ro f₁, kwKn_f kn (fun f a j p g₁ g₂ => o₁ f a j p (by omega) (by omega) (by omega) (by omega) (by omega) (by omega)), kwCt_s f₁, fun f x4 j hj => ?_⟩
  have e₁ : ¬ N 3 ≤ N j := by rw [N_le (by omega) (by omega)]; omega
  rw [kwG175, hB, ccMckT, ccIte, if_neg e₁, k₁, ccBi, q₁.2.2.2.2, ccMckT, ccIf1, N_add]
/-- one round: three changes, and all is looked at -/
theorem kwRound {m : mMi} {r : mRs} {L B w l n lm dp cl bd T Z D : Nat} {β : Nat → Int32} {W : Nat → Nat} (q : kwI m r B w l n lm dp cl bd β W T Z D) (ro : kwRo B r) (kn : kwKn m n) (bT : T ≤ 799000000) (hL : L < 2147483648) (bD : D < 799000) (bZ : Z + 18 ≤ 9999) : ∃ M R, kwI M R B w l n lm dp cl bd β W (T + 576) (Z + 18) (D + 18) ∧ kwRo B R ∧ kwKn M n ∧ kwCt 11582 348534 r R ∧ ∀ f d x, d < 1000 → H245_167 L B (f + 5) 167 (N (d + 1)) x m r = H245_167 L B f 167 (N d) (N 0) M R := by
  have hB := q.2.2.2.2
  obtain ⟨m₁, r₁, q₁, ro₁, kn₁, f₁, k₁⟩ := kwActs (L := L) q ro kn (by omega) hL (by omega) (by omega)
  obtain ⟨m₂, r₂, q₂, ro₂, kn₂, f₂, k₂⟩ := kwActs (L := L) q₁ ro₁ kn₁ (by omega) hL (by omega) (by omega)
  obtain ⟨m₃, r₃, q₃, ro₃, kn₃, f₃, k₃⟩ := kwActs (L := L) q₂ ro₂ kn₂ (by omega) hL (by omega) (by omega)
  obtain ⟨m₄, r₄, q₄, f₄, o₄, k₄⟩ := kwLike q₃ (by omega)
  have ro₄ := kwRo_s ro₃ f₄
  have kn₄ : kwKn m₄ n := kwKn_f kn₃ (fun f a j p g₁ g₂ => o₄ f a j p (by omega) (by omega))
  obtain ⟨m₅, r₅, q₅, ro₅, o₅, f₅, k₅⟩ := kwLooks q₄ ro₄ (by omega) kn₄.1 kn₄.2
  have h₄ := ro₄.2.2
  have kn₅ : kwKn m₅ n := kwKn_f kn₄ (fun f a j p g₁ g₂ => o₅ f a j p (by omega) (by omega) (by omega))
  obtain ⟨M, R, q₆, ro₆, o₆, f₆, k₆⟩ := kwFalls (L := L) q₅ ro₅ (by omega) kn₅.2
  have h₅ := ro₅.2.2
  have kn₆ : kwKn M n := kwKn_f kn₅ (fun f a j p g₁ g₂ => o₆ f a j p (by omega) (by omega) (by omega))
  have eT : T + 192 + 192 + 192 = T + 576 := by omega
  have eZ : Z + 6 + 6 + 6 = Z + 18 := by omega
  have eD : D + 6 + 6 + 6 = D + 18 := by omega
  rw [eT, eZ, eD] at q₆
  refine ⟨M, R, q₆, ro₆, kn₆, kwCt_le (kwCt_trans f₁ (kwCt_trans f₂ (kwCt_trans f₃ (kwCt_trans (kwCt_s f₄) (kwCt_trans (kwCt_u f₅) (kwCt_u f₆)))))) (by omega) (by omega), fun f d x hd => ?_⟩
  have e₁ : ¬ N (d + 1) ≤ N 0 := by rw [N_le (by omega) (by omega)]; omega
  have e₂ : f + 5 = f + 4 + 1 := rfl
  have e₃ : f + 4 = f + 3 + 1 := rfl
  have e₄ : f + 3 = f + 2 + 1 := rfl
  have e₅ : f + 2 = f + 1 + 1 := rfl
  have e₆ : N 3 ≤ N 3 := by decide
  have n₁ : ¬ N 1 = N 0 := by decide
  have e₇ : N (d + 1) + I (-1) = N d := N_dec (by omega)
  rw [e₂, kwG167, hB, ccMckT, ccIte, if_neg e₁, e₃, k₁ _ _ 0 (by omega), e₄, k₂ _ _ 1 (by omega), e₅, k₃ _ _ 2 (by omega), kwG175, q₃.2.2.2.2, ccMckT, ccIte, if_pos e₆, k₄, ccBi, q₄.2.2.2.2, ccMckT, ccIte, if_neg n₁, k₅, ccBi, q₅.2.2.2.2, ccMckT, ccIte, if_neg n₁, k₆, ccBi, q₆.2.2.2.2, ccMckT, ccIf1, e₇]
theorem kwN116 {m : mMi} {r : mRs} (h₀ : m 2 0 0 10 = N 1) : F116 (N 13) m r = rX 3 m (rsT r) := by
  unfold F116
  rw [kwE114 h₀, ccBv, ccE117 (by omega) (by omega) (by omega), if_neg (by omega), ccBvX]
theorem kwN118 {m : mMi} {r : mRs} (h₀ : m 2 0 0 10 = N 1) : F118 (N 6) m r = rX 3 m (rsT r) := by
  unfold F118
  rw [kwE114 h₀, ccBv, ccE117 (by omega) (by omega) (by omega), if_neg (by omega), ccBvX]
/-- the end of the law -/
theorem kwLawE {m : mMi} {r : mRs} {L B w l n lm dp cl bd T Z D : Nat} {β : Nat → Int32} {W : Nat → Nat} (q : kwI m r B w l n lm dp cl bd β W T Z D) : ∃ M R, kwCt 9 66 r R ∧ ∀ f x, H245_167 L B (f + 1) 167 (N 0) x m r = rI (N 1) M R := by
  have hB := q.2.2.2.2
  obtain ⟨m₁, r₁, f₁, g₁, c₁⟩ := kwK0 (B := B) (m := m) (r := r) (E := 3) (x₁ := N 13) q.2.2.2.1 hB (by omega) (fun M R y => kwN116 (kwI_M q y).1)
  have q₁ := kwI_9 q g₁ f₁
  have hB₁ := q₁.2.2.2.2
  obtain ⟨m₂, r₂, f₂, g₂, c₂⟩ := kwK1 (B := B) (m := m₁) (r := r₁) (E := 3) (x₁ := N 6) q₁.2.2.2.1 hB₁ (by omega) (fun M R y => kwN118 (kwI_M q₁ y).1)
  have q₂ := kwI_9 q₁ g₂ f₂
  have hB₂ := q₂.2.2.2.2
  obtain ⟨m₃, r₃, f₃, g₃, c₃⟩ := kwX19 (m := m₂) (r := r₂) (E := 3) (x₁ := N 0) q₂.2.2.2.1 (by omega) (fun M R y => kwN164 (kwI_M q₂ y).1 (fun ⟨a, y₁, y₂, y₃⟩ => by
    have z := ccNinj y₁ (by omega) (by omega)
    omega))
  have q₃ := kwI_9 q₂ g₃ f₃
  refine ⟨m₃, r₃, kwCt_le (kwCt_trans (kwCt_s f₁) (kwCt_trans (kwCt_s f₂) (kwCt_s f₃))) (by omega) (by omega), fun f x => ?_⟩
  have e₁ : N 0 ≤ N 0 := by decide
  rw [kwG167, hB, ccMckT, ccIte, if_pos e₁, c₁, hB₁, ccMckT, kwEq3, c₂, hB₂, ccMckT, kwEq3, kwBn q₂.2.2.2.1 (by omega)]
  simp (disch := omega) only [kwAl, hB₂, kwIsA, ccMckT, ccBi, c₃]
  rw [q₃.2.2.2.2, ccMckT, kwEnd3]
/-- all rounds -/
theorem kwRounds {L B w l n lm dp cl bd : Nat} {β : Nat → Int32} {W : Nat → Nat} (hL : L < 2147483648) : ∀ d m r T Z D, d ≤ 12 → kwI m r B w l n lm dp cl bd β W T Z D → kwRo B r → kwKn m n → T + 576 * d ≤ 790000000 → D + 18 * d ≤ 790000 → Z + 18 * d ≤ 9999 → ∃ M R, kwCt (11582 * d + 9) (348534 * d + 66) r R ∧ ∀ f x, H245_167 L B (f + 5 * d + 1) 167 (N d) x m r = rI (N 1) M R := by
  intro d
  induction d with
  | zero =>
    intro m r T Z D _ q ro kn _ _ _
    obtain ⟨M, R, f₁, k₁⟩ := kwLawE (L := L) q
    exact ⟨M, R, kwCt_le f₁ (by omega) (by omega), fun f x => k₁ f x⟩
  | succ d i₁ =>
    intro m r T Z D hd q ro kn bT bD bZ
    obtain ⟨m₁, r₁, q₁, ro₁, kn₁, f₁, k₁⟩ := kwRound (L := L) q ro kn (by omega) hL (by omega) (by omega)
    obtain ⟨M, R, f₂, k₂⟩ := i₁ m₁ r₁ (T + 576) (Z + 18) (D + 18) (by omega) q₁ ro₁ kn₁ (by omega) (by omega) (by omega)
    refine ⟨M, R, kwCt_le (kwCt_trans f₁ f₂) (by omega) (by omega), fun f x => ?_⟩
    have e₁ : f + 5 * (d + 1) + 1 = (f + 5 * d + 1) + 5 := by omega
    rw [e₁, k₁ _ d x (by omega), k₂]
