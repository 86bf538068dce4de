/-! LOOKS: the rows of a World are emptied; they are copied. -/
theorem kwH173a {f B : Nat} {x1 x2 : Int32} {mi : mMi} {rs : mRs} : H173_2 B (f + 1) 2 x1 x2 mi rs = mckO (rs.2.1.1 B) (mifO (decide ((N 10) ≤ x1)) (some (.inl none, mi, rs)) (H173_2 B f 10 x1 (N 0) mi rs)) := rfl
theorem kwH173b {f B : Nat} {x1 x2 : Int32} {mi : mMi} {rs : mRs} : H173_2 B (f + 1) 10 x1 x2 mi rs = mckO (rs.2.1.1 B) (mifO (decide ((N 14) ≤ x2)) (H173_2 B f 2 (x1 + (N 1)) (N 0) mi rs) (mckO (mIn x1 10) (mckO (mIn x2 14) (mckO (mIn x1 10) (mckO (mIn x2 14) (H173_2 B f 10 x1 (x2 + (N 1)) (mset (mset mi 20 B (mix x1) (mix x2) (I (-1))) 24 B (mix x1) (mix x2) (I (-1))) rs)))))) := rfl
theorem kwL173 {C L : Nat} {rs : mRs} (hC : rs.2.1.1 C = true) (hL : L < 10) : ∀ d c f m, c + d = 14 → ∃ M, H173_2 C (f + d + 1) 10 (N L) (N c) m rs = H173_2 C f 2 (N (L + 1)) (N 0) M rs ∧ (∀ k, c ≤ k → k < 14 → M 20 C L k = I (-1) ∧ M 24 C L k = I (-1)) ∧ ∀ f i j p, ¬ ((f = 20 ∨ f = 24) ∧ i = C ∧ j = L ∧ c ≤ p) → M f i j p = m f i j p := by
  intro d
  induction d with
  | zero =>
    intro c f m y
    have e₁ : c = 14 := by omega
    subst e₁
    have e₂ : N 14 ≤ N 14 := by rw [N_le (by omega) (by omega)]; omega
    refine ⟨m, ?_, fun k y₁ y₂ => by omega, fun _ _ _ _ _ => rfl⟩
    rw [kwH173b, hC, ccMckT, ccIte, if_pos e₂, N_add]
  | succ d i₁ =>
    intro c f m y
    have e₀ : f + (d + 1) + 1 = f + d + 1 + 1 := by omega
    have e₂ : ¬ N 14 ≤ N c := by rw [N_le (by omega) (by omega)]; omega
    obtain ⟨m₁, hm₁⟩ : ∃ M, M = mset (mset m 20 C L c (I (-1))) 24 C L c (I (-1)) := ⟨_, rfl⟩
    obtain ⟨M, k₁, k₂, k₃⟩ := i₁ (c + 1) f m₁ (by omega)
    refine ⟨M, ?_, fun k y₁ y₂ => ?_, fun f i j p z => ?_⟩
    · rw [e₀, kwH173b, hC, ccMckT, ccIte, if_neg e₂, ccMckIn (by omega : L < 10) (by omega), ccMckIn (by omega : c < 14) (by omega), ccMckIn (by omega : L < 10) (by omega), ccMckIn (by omega : c < 14) (by omega), mix_N (by omega), mix_N (by omega), ← hm₁, N_add]
      exact k₁
    · by_cases g : k = c
      · subst g
        rw [k₃ 20 C L k (by omega), k₃ 24 C L k (by omega), hm₁]
        exact ⟨by rw [ccRd, if_neg (by omega), ccRd, if_pos ⟨rfl, rfl, rfl, rfl⟩], by rw [ccRd, if_pos ⟨rfl, rfl, rfl, rfl⟩]⟩
      · exact k₂ k (by omega) y₂
    · rw [k₃ f i j p (by omega), hm₁, ccRd, if_neg (by omega), ccRd, if_neg (by omega)]
theorem kwM173 {C : Nat} {rs : mRs} (hC : rs.2.1.1 C = true) : ∀ d L f m x, L + d = 10 → ∃ M, H173_2 C (f + 16 * d + 1) 2 (N L) x m rs = rV M rs ∧ (∀ j k, L ≤ j → j < 10 → k < 14 → M 20 C j k = I (-1) ∧ M 24 C j k = I (-1)) ∧ ∀ f i j p, ¬ ((f = 20 ∨ f = 24) ∧ i = C ∧ L ≤ j) → M f i j p = m f i j p := by
  intro d
  induction d with
  | zero =>
    intro L f m x y
    have e₁ : L = 10 := by omega
    subst e₁
    have e₂ : N 10 ≤ N 10 := by rw [N_le (by omega) (by omega)]; omega
    refine ⟨m, ?_, fun j k y₁ y₂ _ => by omega, fun _ _ _ _ _ => rfl⟩
    rw [kwH173a, hC, ccMckT, ccIte, if_pos e₂]
  | succ d i₁ =>
    intro L f m x y
    have e₀ : f + 16 * (d + 1) + 1 = ((f + 16 * d + 1) + 14 + 1) + 1 := by omega
    have e₂ : ¬ N 10 ≤ N L := by rw [N_le (by omega) (by omega)]; omega
    obtain ⟨m₁, a₁, a₂, a₃⟩ := kwL173 hC (by omega : L < 10) 14 0 (f + 16 * d + 1) m (by omega)
    obtain ⟨M, k₁, k₂, k₃⟩ := i₁ (L + 1) f m₁ (N 0) (by omega)
    refine ⟨M, ?_, fun j k y₁ y₂ y₃ => ?_, fun f i j p z => ?_⟩
    · rw [e₀, kwH173a, hC, ccMckT, ccIte, if_neg e₂, a₁]
      exact k₁
    · by_cases g : j = L
      · subst g
        rw [k₃ 20 C j k (by omega), k₃ 24 C j k (by omega)]
        exact a₂ k (by omega) y₃
      · exact k₂ j k (by omega) y₂ y₃
    · rw [k₃ f i j p (by omega), a₃ f i j p (by omega)]
theorem kwE173 {C : Nat} {rs : mRs} {m : mMi} (hC : rs.2.1.1 C = true) : ∃ M, H173 C m rs = rV M rs ∧ (∀ j k, j < 10 → k < 14 → M 20 C j k = I (-1) ∧ M 24 C j k = I (-1)) ∧ ∀ f i j p, ¬ ((f = 20 ∨ f = 24) ∧ i = C) → M f i j p = m f i j p := by
  obtain ⟨g, hg⟩ := ccFU (k := 16 * 10) (by omega)
  obtain ⟨M, k₁, k₂, k₃⟩ := kwM173 hC 10 0 g m (N 0) (by omega)
  refine ⟨M, ?_, fun j k y₁ y₂ => k₂ j k (by omega) y₁ y₂, fun f i j p z => k₃ f i j p (by omega)⟩
  unfold H173
  rw [hC, ccMckT, hg]
  exact k₁
theorem kwH198 {f B C : Nat} {x2 : Int32} {mi : mMi} {rs : mRs} : H198_263 B C (f + 1) x2 mi rs = mckO (rs.2.1.1 C) (mckO (rs.2.1.1 B) (mifO (decide ((N 10) ≤ x2)) (some (.inl none, (mset (mset (mset mi 6 C 0 17 (mi 6 B 0 17)) 6 C 0 19 ((mset mi 6 C 0 17 (mi 6 B 0 17)) 6 B 0 19)) 6 C 0 20 ((mset (mset mi 6 C 0 17 (mi 6 B 0 17)) 6 C 0 19 ((mset mi 6 C 0 17 (mi 6 B 0 17)) 6 B 0 19)) 6 B 0 20)), rs)) (mckO (mIn x2 10) (mckO (mIn x2 10) (mckO (mIn x2 10) (mckO (mIn x2 10) (mckO (mIn x2 10) (mckO (mIn x2 10) (mckO (mIn x2 10) (mckO (mIn x2 10) (mckO (mIn x2 10) (mckO (mIn x2 10) (H198_263 B C f (x2 + (N 1)) (mcopy (mcopy (mcopy (mcopy (mcopy mi 20 B (mix x2) 0 20 C (mix x2) 0 14) 21 B (mix x2) 0 21 C (mix x2) 0 14) 22 B (mix x2) 0 22 C (mix x2) 0 14) 23 B (mix x2) 0 23 C (mix x2) 0 14) 24 B (mix x2) 0 24 C (mix x2) 0 14) rs))))))))))))) := rfl
/-- five rows of a layer -/
theorem kwCp5 {m : mMi} {B C L : Nat} (hBC : B ≠ C) : ∃ M, M = mcopy (mcopy (mcopy (mcopy (mcopy m 20 B L 0 20 C L 0 14) 21 B L 0 21 C L 0 14) 22 B L 0 22 C L 0 14) 23 B L 0 23 C L 0 14) 24 B L 0 24 C L 0 14 ∧ (∀ f p, 20 ≤ f → f ≤ 24 → p < 14 → M f C L p = m f B L p) ∧ ∀ f i j p, ¬ (20 ≤ f ∧ f ≤ 24 ∧ i = C ∧ j = L) → M f i j p = m f i j p := by
  refine ⟨_, rfl, fun f p h₁ h₂ h₃ => ?_, fun f i j p h => ?_⟩
  · have g : f = 20 ∨ f = 21 ∨ f = 22 ∨ f = 23 ∨ f = 24 := by omega
    rcases g with rfl | rfl | rfl | rfl | rfl
    · rw [ccCopy, if_neg (by omega), ccCopy, if_neg (by omega), ccCopy, if_neg (by omega), ccCopy, if_neg (by omega), ccCopy, if_pos ⟨rfl, rfl, rfl, h₃⟩]
    · rw [ccCopy, if_neg (by omega), ccCopy, if_neg (by omega), ccCopy, if_neg (by omega), ccCopy, if_pos ⟨rfl, rfl, rfl, h₃⟩, ccCopy, if_neg (by omega)]
    · rw [ccCopy, if_neg (by omega), ccCopy, if_neg (by omega), ccCopy, if_pos ⟨rfl, rfl, rfl, h₃⟩, ccCopy, if_neg (by omega), ccCopy, if_neg (by omega)]
    · rw [ccCopy, if_neg (by omega), ccCopy, if_pos ⟨rfl, rfl, rfl, h₃⟩, ccCopy, if_neg (by omega), ccCopy, if_neg (by omega), ccCopy, if_neg (by omega)]
    · rw [ccCopy, if_pos ⟨rfl, rfl, rfl, h₃⟩, ccCopy, if_neg (by omega), ccCopy, if_neg (by omega), ccCopy, if_neg (by omega), ccCopy, if_neg (by omega)]
  · rw [ccCopy, if_neg (by omega), ccCopy, if_neg (by omega), ccCopy, if_neg (by omega), ccCopy, if_neg (by omega), ccCopy, if_neg (by omega)]
def kwFin3 (m : mMi) (B C : Nat) : mMi := mset (mset (mset m 6 C 0 17 (m 6 B 0 17)) 6 C 0 19 (m 6 B 0 19)) 6 C 0 20 (m 6 B 0 20)
theorem kwL198 {B C : Nat} {rs : mRs} (hC : rs.2.1.1 C = true) (hB : rs.2.1.1 B = true) (hBC : B ≠ C) : ∀ d L f m, L + d = 10 → ∃ M, H198_263 B C (f + d + 1) (N L) m rs = rV (kwFin3 M B C) rs ∧ (∀ f j p, 20 ≤ f → f ≤ 24 → L ≤ j → j < 10 → p < 14 → M f C j p = m f B j p) ∧ ∀ f i j p, ¬ (20 ≤ f ∧ f ≤ 24 ∧ i = C ∧ L ≤ j) → M f i j p = m f i j p := by
  intro d
  induction d with
  | zero =>
    intro L f m y
    have e₁ : L = 10 := by omega
    subst e₁
    have e₂ : N 10 ≤ N 10 := by rw [N_le (by omega) (by omega)]; omega
    refine ⟨m, ?_, fun f j p _ _ y₁ y₂ _ => by omega, fun _ _ _ _ _ => rfl⟩
    have s₁ : mset m 6 C 0 17 (m 6 B 0 17) 6 B 0 19 = m 6 B 0 19 := by rw [ccRd, if_neg (by omega)]
    have s₂ : mset (mset m 6 C 0 17 (m 6 B 0 17)) 6 C 0 19 (m 6 B 0 19) 6 B 0 20 = m 6 B 0 20 := by rw [ccRd, if_neg (by omega), ccRd, if_neg (by omega)]
    rw [kwH198, hC, ccMckT, hB, ccMckT, ccIte, if_pos e₂, s₁, s₂]
    rfl
  | succ d i₁ =>
    intro L f m y
    have e₀ : f + (d + 1) + 1 = f + d + 1 + 1 := by omega
    have e₂ : ¬ N 10 ≤ N L := by rw [N_le (by omega) (by omega)]; omega
    obtain ⟨m₁, hm₁, a₁, a₂⟩ := kwCp5 (m := m) (L := L) hBC
    obtain ⟨M, k₁, k₂, k₃⟩ := i₁ (L + 1) f m₁ (by omega)
    refine ⟨M, ?_, fun f j p y₁ y₂ y₃ y₄ y₅ => ?_, fun f i j p z => ?_⟩
    · rw [e₀, kwH198, hC, ccMckT, hB, ccMckT, ccIte, if_neg e₂]
      simp (disch := omega) only [ccMckIn, mix_N, ← hm₁, N_add]
      exact k₁
    · by_cases g : j = L
      · subst g
        rw [k₃ f C j p (by omega)]
        exact a₁ f p y₁ y₂ y₅
      · rw [k₂ f j p y₁ y₂ (by omega) y₄ y₅]
        exact a₂ f B j p (by omega)
    · rw [k₃ f i j p (by omega), a₂ f i j p (by omega)]
theorem kwCp6 {m : mMi} {B C : Nat} (hBC : B ≠ C) : ∃ M, M = mcopy (mcopy (mcopy (mcopy (mcopy (mcopy m 6 B 1 0 6 C 1 0 6) 6 B 2 0 6 C 2 0 40) 6 B 3 0 6 C 3 0 40) 6 B 4 0 6 C 4 0 40) 6 B 5 0 6 C 5 0 40) 6 B 6 0 6 C 6 0 40 ∧ (∀ p, p < 6 → M 6 C 1 p = m 6 B 1 p) ∧ (∀ j p, 2 ≤ j → j ≤ 6 → p < 40 → M 6 C j p = m 6 B j p) ∧ ∀ f i j p, ¬ (f = 6 ∧ i = C ∧ 1 ≤ j ∧ j ≤ 6) → M f i j p = m f i j p := by
  refine ⟨_, rfl, fun p h₃ => ?_, fun j p h₁ h₂ h₃ => ?_, fun f i j p h => ?_⟩
  · rw [ccCopy, if_neg (by omega), ccCopy, if_neg (by omega), ccCopy, if_neg (by omega), ccCopy, if_neg (by omega), ccCopy, if_neg (by omega), ccCopy, if_pos ⟨rfl, rfl, rfl, h₃⟩]
  · have g : j = 2 ∨ j = 3 ∨ j = 4 ∨ j = 5 ∨ j = 6 := by omega
    rcases g with rfl | rfl | rfl | rfl | rfl
    · rw [ccCopy, if_neg (by omega), ccCopy, if_neg (by omega), ccCopy, if_neg (by omega), ccCopy, if_neg (by omega), ccCopy, if_pos ⟨rfl, rfl, rfl, h₃⟩, ccCopy, if_neg (by omega)]
    · rw [ccCopy, if_neg (by omega), ccCopy, if_neg (by omega), ccCopy, if_neg (by omega), ccCopy, if_pos ⟨rfl, rfl, rfl, h₃⟩, ccCopy, if_neg (by omega), ccCopy, if_neg (by omega)]
    · rw [ccCopy, if_neg (by omega), ccCopy, if_neg (by omega), ccCopy, if_pos ⟨rfl, rfl, rfl, h₃⟩, ccCopy, if_neg (by omega), ccCopy, if_neg (by omega), ccCopy, if_neg (by omega)]
    · rw [ccCopy, if_neg (by omega), ccCopy, if_pos ⟨rfl, rfl, rfl, h₃⟩, ccCopy, if_neg (by omega), ccCopy, if_neg (by omega), ccCopy, if_neg (by omega), ccCopy, if_neg (by omega)]
    · rw [ccCopy, if_pos ⟨rfl, rfl, rfl, h₃⟩, ccCopy, if_neg (by omega), ccCopy, if_neg (by omega), ccCopy, if_neg (by omega), ccCopy, if_neg (by omega), ccCopy, if_neg (by omega)]
  · rw [ccCopy, if_neg (by omega), ccCopy, if_neg (by omega), ccCopy, if_neg (by omega), ccCopy, if_neg (by omega), ccCopy, if_neg (by omega), ccCopy, if_neg (by omega)]
/-- the World C becomes a copy of B -/
theorem kwE198 {B C : Nat} {rs : mRs} {m : mMi} (hC : rs.2.1.1 C = true) (hB : rs.2.1.1 B = true) (hBC : B ≠ C) : ∃ M, H198 C B m rs = rV M rs ∧ (∀ f j p, 20 ≤ f → f ≤ 24 → j < 10 → p < 14 → M f C j p = m f B j p) ∧ (∀ p, p < 6 → M 6 C 1 p = m 6 B 1 p) ∧ (∀ j p, 2 ≤ j → j ≤ 6 → p < 40 → M 6 C j p = m 6 B j p) ∧ (M 6 C 0 17 = m 6 B 0 17 ∧ M 6 C 0 18 = m 6 C 0 18 ∧ M 6 C 0 20 = m 6 B 0 20) ∧ ∀ f i j p, i ≠ C → M f i j p = m f i j p := by
  obtain ⟨m₁, a₁, _, a₃⟩ := kwE173 (m := m) hC
  obtain ⟨m₂, hm₂, b₁, b₂, b₃⟩ := kwCp6 (m := m₁) hBC
  obtain ⟨g, hg⟩ := ccFU (k := 10) (by omega)
  obtain ⟨M, c₁, c₂, c₃⟩ := kwL198 hC hB hBC 10 0 g m₂ (by omega)
  have o₁ : ∀ f j p, m₂ f B j p = m f B j p := fun f j p => by rw [b₃ f B j p (by omega), a₃ f B j p (by omega)]
  have o₂ : ∀ f j p, M f B j p = m f B j p := fun f j p => by rw [c₃ f B j p (by omega), o₁]
  refine ⟨kwFin3 M B C, ?_, fun f j p y₁ y₂ y₃ y₄ => ?_, fun p y => ?_, fun j p y₁ y₂ y₃ => ?_, ⟨?_, ?_, ?_⟩, fun f i j p y => ?_⟩
  · unfold H198
    rw [hC, ccMckT, hB, ccMckT, a₁, ccBv, hC, ccMckT, hB, ccMckT, ← hm₂, hg]
    exact c₁
  · unfold kwFin3
    rw [ccRd, if_neg (by omega), ccRd, if_neg (by omega), ccRd, if_neg (by omega), c₂ f j p y₁ y₂ (by omega) y₃ y₄, o₁]
  · unfold kwFin3
    rw [ccRd, if_neg (by omega), ccRd, if_neg (by omega), ccRd, if_neg (by omega), c₃ 6 C 1 p (by omega), b₁ p y, a₃ 6 B 1 p (by omega)]
  · unfold kwFin3
    rw [ccRd, if_neg (by omega), ccRd, if_neg (by omega), ccRd, if_neg (by omega), c₃ 6 C j p (by omega), b₂ j p y₁ y₂ y₃, a₃ 6 B j p (by omega)]
  · unfold kwFin3
    rw [ccRd, if_neg (by omega), ccRd, if_neg (by omega), ccRd, if_pos ⟨rfl, rfl, rfl, rfl⟩, o₂]
  · unfold kwFin3
    rw [ccRd, if_neg (by omega), ccRd, if_neg (by omega), ccRd, if_neg (by omega), c₃ 6 C 0 18 (by omega), b₃ 6 C 0 18 (by omega), a₃ 6 C 0 18 (by omega)]
  · unfold kwFin3
    rw [ccRd, if_pos ⟨rfl, rfl, rfl, rfl⟩, o₂]
  · unfold kwFin3
    rw [ccRd, if_neg (by omega), ccRd, if_neg (by omega), ccRd, if_neg (by omega), c₃ f i j p (by omega), b₃ f i j p (by omega), a₃ f i j p (by omega)]
