/-! THE LAW COMPARES the places: the row of seven numbers. -/
def kwF9 (r : mRs) (m M : mMi) : Prop := ∀ f i j p, ¬ (f = 9 ∧ r.2.2.1 ≤ i) → M f i j p = m f i j p
theorem kwF9_s {r : mRs} {m M : mMi} {k : Nat} {v : Int32} (h : kwF9 r m M) : kwF9 r m (mset M 9 r.2.2.1 0 k v) := fun f i j p y => by
  rw [ccRd, if_neg (fun z => y ⟨z.1, by omega⟩)]
  exact h f i j p y
theorem kwF9_f {r : mRs} {m : mMi} {k : Nat} : kwF9 r m (mfill m 9 r.2.2.1 0 k 0) := fun f i j p y => by
  rw [mfill_ne (fun z => y ⟨z.1, by omega⟩)]
theorem kwF9_0 {r : mRs} {m M : mMi} (h : kwF9 r m M) : M 0 0 = m 0 0 := by
  funext j p
  exact h 0 0 j p (by omega)
/-- the row holds what the class says -/
def kwRow7 (m : mMi) (a w l L c : Nat) (W : Nat → Nat) : Prop := ∀ e, e < 7 → m 9 a 0 e = kwV121 W (m 0 0) w l L c e
theorem kwR178 {m : mMi} {r : mRs} {B a w l n lm dp cl bd T Z D L c : Nat} {β : Nat → Int32} {W : Nat → Nat} {x2 x3 x4 x7 x8 x10 : Int32} (q : kwI m r B w l n lm dp cl bd β W T Z D) (h₁ : L < l) (h₂ : L + c < w) : ∃ M, kwF9 r m M ∧ kwRow7 M r.2.2.1 w l L c W ∧ ∀ f, H240_164 B a (f + 1) 178 x2 x3 x4 (N L) (N c) x7 x8 x10 m r = H240_164 B r.2.2.1 f 348 x2 x3 x4 (N L) (N c) (ccT (ccHP (m 0 0) w l L c)) (ccT (ccHF (m 0 0) w l L c)) (N 0) M (rsA r 20 7 7) := by
  obtain ⟨h₀, qr⟩ := kwI_0 q
  have b₁ : w ≤ 12 := qr.2.2.2.2.1
  have b₂ : l ≤ 8 := qr.2.2.2.2.2.2.1
  obtain ⟨s, g, kk, cd, _⟩ := kwI_U q
  have hB := q.2.2.2.2
  have nx := q.2.2.2.1
  have n₁ : ¬ N 1 = N 0 := by decide
  have e₁ : m 6 B 1 0 = N w := s.1
  have e₂ : ¬ N (w - L) ≤ N c := by rw [N_le (by omega) (by omega)]; omega
  obtain ⟨M, hM⟩ : ∃ M, M = mfill m 9 r.2.2.1 0 7 0 := ⟨_, rfl⟩
  have o : kwF9 r m M := by rw [hM]; exact kwF9_f
  cases g₁ : ccHP (m 0 0) w l L c
  · refine ⟨mset (mset (mset (mset (mset (mset (mset M 9 r.2.2.1 0 0 (I (-1))) 9 r.2.2.1 0 1 (I (-1))) 9 r.2.2.1 0 2 (I (-1))) 9 r.2.2.1 0 3 (I (-1))) 9 r.2.2.1 0 4 (I (-1))) 9 r.2.2.1 0 5 (I (-1))) 9 r.2.2.1 0 6 (I (-1)), kwF9_s (kwF9_s (kwF9_s (kwF9_s (kwF9_s (kwF9_s (kwF9_s o)))))), fun e y => ?_, fun f => ?_⟩
    · rw [kwF9_0 (kwF9_s (kwF9_s (kwF9_s (kwF9_s (kwF9_s (kwF9_s (kwF9_s o)))))))]
      unfold kwV121
      rw [g₁, if_neg (by intro z; cases z)]
      have g' : e = 0 ∨ e = 1 ∨ e = 2 ∨ e = 3 ∨ e = 4 ∨ e = 5 ∨ e = 6 := by omega
      rcases g' with rfl | rfl | rfl | rfl | rfl | rfl | rfl <;> simp (disch := omega) only [ccRd, if_neg, if_pos, Nat.reduceEqDiff, eq_self, true_and, and_true, false_and, and_false, if_true, if_false]
    · rw [kwH178, hB, ccMckT, ccMckIn (by omega : 0 < 6) (by omega), e₁, N_sub (by omega), ccIte, if_neg e₂, kwE178 hB s g cd (by omega) (by omega), g₁, ccBi, hB, ccMckT, kwE179 hB s g cd (by omega) (by omega), ccBi, hB, ccMckT, ccT_f, ccIte, if_pos rfl, kwBn nx (by omega), ← hM]
      simp (disch := omega) only [kwAl, hB, kwIsAx, ccMckT]
  · obtain ⟨_, _, g₀⟩ := ccHP_t g₁
    obtain ⟨g₂₀, _, g₃⟩ := g L c (by omega) (by omega)
    obtain ⟨g₂₁, g₂₂, g₂₃⟩ := g₃ g₀
    obtain ⟨M₄, hM₄⟩ : ∃ M₄, M₄ = mset (mset (mset (mset M 9 r.2.2.1 0 0 (m 0 0 2 (12 * L + c))) 9 r.2.2.1 0 1 (m 0 0 3 (12 * L + c))) 9 r.2.2.1 0 2 (m 0 0 4 (12 * L + c))) 9 r.2.2.1 0 3 (m 0 0 5 (12 * L + c)) := ⟨_, rfl⟩
    have o₄ : kwF9 r m M₄ := by rw [hM₄]; exact kwF9_s (kwF9_s (kwF9_s (kwF9_s o)))
    obtain ⟨M₅, hM₅⟩ : ∃ M₅, M₅ = mset M₄ 9 r.2.2.1 0 4 (ccStp (m 0 0) (12 * L + c)) := ⟨_, rfl⟩
    have o₅ : kwF9 r m M₅ := by rw [hM₅]; exact kwF9_s o₄
    obtain ⟨M₆, hM₆⟩ : ∃ M₆, M₆ = mset M₅ 9 r.2.2.1 0 5 (N (ccPL W (m 0 0) w l (7 - L) L c)) := ⟨_, rfl⟩
    have o₆ : kwF9 r m M₆ := by rw [hM₆]; exact kwF9_s o₅
    obtain ⟨M₇, hM₇⟩ : ∃ M₇, M₇ = mset M₆ 9 r.2.2.1 0 6 (ccRv W (m 0 0) w l (12 * L + c)) := ⟨_, rfl⟩
    have o₇ : kwF9 r m M₇ := by rw [hM₇]; exact kwF9_s o₆
    have q₄ := kwI_9 q o₄ (kwRs_A (kd := 20) (n := 7) (s := 7))
    have q₅ := kwI_9 q o₅ (kwRs_A (kd := 20) (n := 7) (s := 7))
    have q₆ := kwI_9 q o₆ (kwRs_A (kd := 20) (n := 7) (s := 7))
    obtain ⟨s₄, y₄, z₄, c₄, _⟩ := kwI_U q₄
    obtain ⟨s₅, y₅, z₅, c₅, _⟩ := kwI_U q₅
    obtain ⟨s₆, y₆, z₆, c₆, _⟩ := kwI_U q₆
    rw [kwF9_0 o₄] at y₄ z₄ c₄
    rw [kwF9_0 o₅] at y₅ z₅ c₅
    rw [kwF9_0 o₆] at y₆ z₆ c₆
    have k₄ := kwE188 q₄.2.2.2.2 s₄ y₄ z₄ c₄ (by omega : L < 8) (by omega : c < 12) g₀
    have k₅ := kwE189 q₅.2.2.2.2 s₅ y₅ c₅ (kwI_P q₅).2.1 (kwI_P q₅).2.2 (by omega : L < 8) (by omega : c < 12)
    have k₆ := kwE187 q₆.2.2.2.2 s₆ y₆ z₆ c₆ (kwI_P q₆).2.1 (kwI_P q₆).2.2 (by omega : L < 8) (by omega : c < 12) g₀
    refine ⟨M₇, o₇, fun e y => ?_, fun f => ?_⟩
    · rw [kwF9_0 o₇]
      unfold kwV121
      rw [g₁, if_pos rfl, hM₇, hM₆, hM₅, hM₄]
      have g' : e = 0 ∨ e = 1 ∨ e = 2 ∨ e = 3 ∨ e = 4 ∨ e = 5 ∨ e = 6 := by omega
      rcases g' with rfl | rfl | rfl | rfl | rfl | rfl | rfl <;> unfold kwV7 <;> simp (disch := omega) only [ccRd, if_neg, if_pos, Nat.reduceEqDiff, eq_self, true_and, and_true, false_and, and_false, if_true, if_false]
    · have v₂₀ : M 20 B L c = m 0 0 2 (12 * L + c) := by rw [o 20 B L c (by omega)]; exact g₂₀
      have v₂₁ : M 21 B L c = m 0 0 3 (12 * L + c) := by rw [o 21 B L c (by omega)]; exact g₂₁
      have v₂₂ : M 22 B L c = m 0 0 4 (12 * L + c) := by rw [o 22 B L c (by omega)]; exact g₂₂
      have v₂₃ : M 23 B L c = m 0 0 5 (12 * L + c) := by rw [o 23 B L c (by omega)]; exact g₂₃
      rw [kwH178, hB, ccMckT, ccMckIn (by omega : 0 < 6) (by omega), e₁, N_sub (by omega), ccIte, if_neg e₂, kwE178 hB s g cd (by omega) (by omega), g₁, ccBi, hB, ccMckT, kwE179 hB s g cd (by omega) (by omega), ccBi, hB, ccMckT, ccT_t, ccIte, if_neg n₁, kwBn nx (by omega), ← hM]
      simp (disch := omega) only [kwAl, hB, kwIsAx, ccMckT, ccMckIn, mix_N, v₂₀, v₂₁, v₂₂, v₂₃, ccRd, if_neg, ← hM₄, k₄, ccBi, ← hM₅, k₅, ← hM₆, k₆, ← hM₇]
/-- one place of the law's comparison -/
theorem kwPlace {m : mMi} {r : mRs} {B a w l n lm dp cl bd T Z D L c : Nat} {β : Nat → Int32} {W : Nat → Nat} {x2 x3 x4 x7 x8 x10 : Int32} (q : kwI m r B w l n lm dp cl bd β W T Z D) (h₁ : L < l) (h₂ : L + c < w) : ∃ M, kwI M (rsA r 20 7 7) B w l n lm dp cl bd β W T Z D ∧ (∀ f i j p, ¬ (f = 9 ∧ r.2.2.1 ≤ i) → ¬ (f = 2 ∧ i = 2) → M f i j p = m f i j p) ∧ ∀ f, H240_164 B a (f + 9) 178 x2 x3 x4 (N L) (N c) x7 x8 x10 m r = H240_164 B 0 f 178 (x2 + ccT (ccHP (m 0 0) w l L c)) (x3 + ccT (ccHF (m 0 0) w l L c)) (x4 + N 1) (N L) (N (c + 1)) (N 0) (N 0) (N 0) M (rsA r 20 7 7) := by
  obtain ⟨M₁, o₁, r₁, k₁⟩ := kwR178 (a := a) (x2 := x2) (x3 := x3) (x4 := x4) (x7 := x7) (x8 := x8) (x10 := x10) q h₁ h₂
  have q₁ := kwI_9 q o₁ (kwRs_A (kd := 20) (n := 7) (s := 7))
  obtain ⟨M₂, o₂, k₂⟩ := kwL348 (x2 := x2) (x3 := x3) (x4 := x4) (x7 := ccT (ccHP (m 0 0) w l L c)) (x8 := ccT (ccHF (m 0 0) w l L c)) h₁ h₂ kwA_kd 7 0 (by omega) M₁ q₁ r₁
  have q₂ := kwI_sc q₁ o₂
  have e₀ : M₂ 0 0 = m 0 0 := Eq.trans (ccFs_0 o₂) (kwF9_0 o₁)
  have hx : ccT (ccHP (m 0 0) w l L c) = N 0 ∨ ccT (ccHP (m 0 0) w l L c) = N 1 := by
    cases ccHP (m 0 0) w l L c
    · exact Or.inl rfl
    · exact Or.inr rfl
  obtain ⟨M₃, o₃, k₃⟩ := kwEnd7 (a9 := r.2.2.1) (x2 := x2) (x3 := x3) (x4 := x4) q₂ h₁ h₂ hx
  rw [e₀] at k₃
  refine ⟨M₃, kwI_sc q₂ o₃, fun f i j p y z => ?_, fun f => ?_⟩
  · rw [o₃ f i j p z, o₂ f i j p z, o₁ f i j p y]
  · have e₁ : f + 9 = (f + 7 + 1) + 1 := by omega
    rw [e₁, k₁, k₂, k₃, N_add]
