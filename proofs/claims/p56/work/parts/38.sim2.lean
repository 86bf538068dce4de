/-! A FALL, with all that falls by it. -/
def ccPcs (C : Nat → Nat → Int32) : Nat := ccCnt (ccP C) 96 + ccCnt (ccF C) 96
/-- a flat card without both pairs; a pair without its flat card -/
def ccVf (C : Nat → Nat → Int32) (p : Nat) : Prop := C 6 p ≠ I (-1) ∧ (C 2 (p - 12) = I (-1) ∨ C 2 (p - 11) = I (-1))
def ccVp (C : Nat → Nat → Int32) (p : Nat) : Prop := C 2 p ≠ I (-1) ∧ C 6 p = I (-1)
/-- things only leave the grid, each noted -/
def ccG (C D : Nat → Nat → Int32) (t u : Nat) : Prop := (∀ p, (D 2 p = C 2 p ∨ D 2 p = I (-1)) ∧ (D 6 p = C 6 p ∨ D 6 p = I (-1)) ∧ D 3 p = C 3 p ∧ D 4 p = C 4 p ∧ D 5 p = C 5 p) ∧ u + ccPcs D = t + ccPcs C
def ccGv (C D : Nat → Nat → Int32) : Prop := ∀ p, 12 ≤ p → p < 96 → (ccVf D p → ccVf C p) ∧ (ccVp D p → ccVp C p)
def ccPlc (w l : Nat) (C : Nat → Nat → Int32) : Prop := ∀ p, p < 96 → (C 2 p ≠ I (-1) → p / 12 < l ∧ p / 12 + p % 12 < w) ∧ (C 6 p ≠ I (-1) → 12 ≤ p ∧ p / 12 < l ∧ p / 12 + p % 12 < w)
theorem ccG_rfl {C : Nat → Nat → Int32} {t : Nat} : ccG C C t t := ⟨fun _ => ⟨Or.inl rfl, Or.inl rfl, rfl, rfl, rfl⟩, rfl⟩
theorem ccG_trans {C D E : Nat → Nat → Int32} {t u v : Nat} (h₁ : ccG C D t u) (h₂ : ccG D E u v) : ccG C E t v := by
  refine ⟨fun p => ?_, by rw [h₂.2, h₁.2]⟩
  obtain ⟨a₁, a₂, a₃, a₄, a₅⟩ := h₁.1 p
  obtain ⟨e₁, e₂, e₃, e₄, e₅⟩ := h₂.1 p
  refine ⟨?_, ?_, by rw [e₃, a₃], by rw [e₄, a₄], by rw [e₅, a₅]⟩
  · rcases e₁ with e₁ | e₁
    · rw [e₁]; exact a₁
    · exact Or.inr e₁
  · rcases e₂ with e₂ | e₂
    · rw [e₂]; exact a₂
    · exact Or.inr e₂
theorem ccGv_rfl {C : Nat → Nat → Int32} : ccGv C C := fun _ _ _ => ⟨id, id⟩
theorem ccGv_trans {C D E : Nat → Nat → Int32} (h₁ : ccGv C D) (h₂ : ccGv D E) : ccGv C E := fun p g₁ g₂ => ⟨fun q₁ => (h₁ p g₁ g₂).1 ((h₂ p g₁ g₂).1 q₁), fun q₁ => (h₁ p g₁ g₂).2 ((h₂ p g₁ g₂).2 q₁)⟩
theorem ccPlc_go {w l t u : Nat} {C D : Nat → Nat → Int32} (h₁ : ccPlc w l C) (h₂ : ccG C D t u) : ccPlc w l D := fun p g₁ => by
  obtain ⟨a₁, a₂, _⟩ := h₂.1 p
  obtain ⟨e₁, e₂⟩ := h₁ p g₁
  refine ⟨fun q₁ => ?_, fun q₁ => ?_⟩
  · rcases a₁ with a₁ | a₁
    · rw [a₁] at q₁; exact e₁ q₁
    · exact absurd a₁ q₁
  · rcases a₂ with a₂ | a₂
    · rw [a₂] at q₁; exact e₂ q₁
    · exact absurd a₂ q₁
def ccInv (mc mm : mMi) (i w l n bd : Nat) (β wt : Nat → Int32) (h t : Nat) : Prop := ccRu mc (RO i) w l n ∧ mc 1 (RO i) 1 5 = N bd ∧ ccMo mm w l n ∧ mm 4 0 0 7 = N bd ∧ bd ≤ 8 ∧ ccR ccX0 n β wt h t (mc 0 i) (mm 4 0 3) ∧ ccPlc w l (mc 0 i) ∧ t + ccPcs (mc 0 i) < 1000000000
theorem ccInv_go {mc mm m₁ m₂ : mMi} {i w l n bd h t u v : Nat} {β wt : Nat → Int32} (q₁ : ccInv mc mm i w l n bd β wt h t) (h₁ : ccFr i mc m₁) (h₂ : ccFq mm m₂) (h₃ : ccR ccX0 n β wt u v (m₁ 0 i) (m₂ 4 0 3)) (h₄ : ccG (mc 0 i) (m₁ 0 i) t v) : ccInv m₁ m₂ i w l n bd β wt u v := by
  obtain ⟨e₁, e₂, e₃, e₄, e₅, e₆, e₇, e₈⟩ := q₁
  refine ⟨ccRu_fr h₁ e₁, by rw [h₁ 1 (RO i) 1 5 (by omega) (by omega)]; exact e₂, ccMo_fq h₂ e₃, by rw [h₂ 4 0 0 7 (by omega) (by omega)]; exact e₄, e₅, h₃, ccPlc_go e₇ h₄, by rw [h₄.2]; exact e₈⟩
/-- what is said of both sides behind a fall: k things wait -/
def ccOut (mc mm m₁ m₂ : mMi) (i w l n bd : Nat) (β wt : Nat → Int32) (t k : Nat) : Prop := (∃ u v, ccInv m₁ m₂ i w l n bd β wt u v ∧ ccG (mc 0 i) (m₁ 0 i) t v) ∧ ccFr i mc m₁ ∧ ccFq mm m₂ ∧ m₂ 4 0 0 34 = N k ∧ (∀ j, j < k → m₂ 4 0 14 j = mm 4 0 14 j) ∧ ccGv (mc 0 i) (m₁ 0 i)
theorem ccHF_eq {w l L c : Nat} {C : Nat → Nat → Int32} {s : Nat → Int32} (h₁ : ccRA C s) (h₂ : w ≤ 12) (h₃ : l ≤ 8) : ccHFm s w l L c = ccHF C w l L c := by
  unfold ccHFm ccHF
  cases h₄ : ccPl w l L c
  · rfl
  · simp only [ccPl, Bool.and_eq_true, decide_eq_true_eq] at h₄
    unfold ccFm ccF
    rw [(h₁ (12 * L + c) (by omega)).2.1]
theorem ccHP_eq {w l L c : Nat} {C : Nat → Nat → Int32} {s : Nat → Int32} (h₁ : ccRA C s) (h₂ : w ≤ 12) (h₃ : l ≤ 8) : ccHPm s w l L c = ccHP C w l L c := by
  unfold ccHPm ccHP
  cases h₄ : ccPl w l L c
  · rfl
  · simp only [ccPl, Bool.and_eq_true, decide_eq_true_eq] at h₄
    unfold ccPm ccP
    rw [(h₁ (12 * L + c) (by omega)).1]
theorem ccHF_off {w l L c t u : Nat} {C D : Nat → Nat → Int32} (h₁ : ccG C D t u) (h₂ : ccHF C w l L c = false) : ccHF D w l L c = false := by
  unfold ccHF at h₂ ⊢
  cases h₃ : ccPl w l L c
  · rfl
  · rw [h₃] at h₂
    unfold ccF at h₂ ⊢
    rcases (h₁.1 (12 * L + c)).2.1 with g₁ | g₁
    · rw [g₁]; exact h₂
    · rw [g₁]; rfl
theorem ccHP_off {w l L c t u : Nat} {C D : Nat → Nat → Int32} (h₁ : ccG C D t u) (h₂ : ccHP C w l L c = false) : ccHP D w l L c = false := by
  unfold ccHP at h₂ ⊢
  cases h₃ : ccPl w l L c
  · rfl
  · rw [h₃] at h₂
    unfold ccP at h₂ ⊢
    rcases (h₁.1 (12 * L + c)).1 with g₁ | g₁
    · rw [g₁]; exact h₂
    · rw [g₁]; rfl
/-- nothing is there: nothing falls -/
theorem ccNoF {mc : mMi} {rs : mRs} {i w l n L c f : Nat} {x y : Int32} (q₁ : ccRu mc (RO i) w l n) (h₁ : L < 1000) (h₂ : c < 1000) (h₃ : ccHF (mc 0 i) w l L c = false) : FR (f + 1) 28 i (N L) (N c) x y mc rs = rV mc rs := by
  have b₁ : w ≤ 12 := q₁.2.2.2.2.1
  have b₂ : l ≤ 8 := q₁.2.2.2.2.2.2.1
  simp (disch := omega) only [ccFR28, ccE81 q₁ h₁ h₂, ccE52s b₁ b₂, h₃, true_and, and_true, false_and, and_false, if_true, if_false, ccIte, ccBi, ccBiX, ccBv, ccBvX, ccZ0, ccZ1, ccTZ, ccT0, ccT1, Bool.or_false, ccMckT, ccMckIn, ne_eq, not_true_eq_false, not_false_eq_true, if_pos, if_neg, reduceIte, eq_self, Bool.false_eq_true, Bool.true_eq_false, mix_N, N_add, N_mul, N_sub, N_div, ccMod, N_lt, N_le, N_eq, ccNm, ccMN, ccNm2, ccM2N, ccMM2, ccM2M, ccMlt, ccMle, ccNltM, ccNleM, ccM2lt, ccM2le, ccNlt2, ccNle2, Nat.reduceAdd, Nat.reduceMul, Nat.reduceSub, Nat.reduceLT, Nat.reduceLeDiff, Nat.reduceEqDiff, Nat.reduceDiv, Nat.reduceMod]
theorem ccNoFm {mc : mMi} {rs : mRs} {i f : Nat} {x y z : Int32} : FR (f + 1) 28 i z (I (-1)) x y mc rs = rV mc rs := by
  simp (disch := omega) only [ccFR28, ccE81m, ccE52m, true_and, and_true, false_and, and_false, if_true, if_false, ccIte, ccBi, ccBiX, ccBv, ccBvX, ccZ0, ccZ1, ccTZ, ccT0, ccT1, Bool.or_false, ccMckT, ccMckIn, ne_eq, not_true_eq_false, not_false_eq_true, if_pos, if_neg, reduceIte, eq_self, Bool.false_eq_true, Bool.true_eq_false, mix_N, N_add, N_mul, N_sub, N_div, ccMod, N_lt, N_le, N_eq, ccNm, ccMN, ccNm2, ccM2N, ccMM2, ccM2M, ccMlt, ccMle, ccNltM, ccNleM, ccM2lt, ccM2le, ccNlt2, ccNle2, Nat.reduceAdd, Nat.reduceMul, Nat.reduceSub, Nat.reduceLT, Nat.reduceLeDiff, Nat.reduceEqDiff, Nat.reduceDiv, Nat.reduceMod]
theorem ccNoP {mc : mMi} {rs : mRs} {i w l n L c f : Nat} {x y : Int32} (q₁ : ccRu mc (RO i) w l n) (h₁ : L < 1000) (h₂ : c < 1000) (h₃ : ccHP (mc 0 i) w l L c = false) : FR (f + 1) 26 i (N L) (N c) x y mc rs = rV mc rs := by
  have b₁ : w ≤ 12 := q₁.2.2.2.2.1
  have b₂ : l ≤ 8 := q₁.2.2.2.2.2.2.1
  simp (disch := omega) only [ccFR26, ccE81 q₁ h₁ h₂, ccE51s b₁ b₂, h₃, true_and, and_true, false_and, and_false, if_true, if_false, ccIte, ccBi, ccBiX, ccBv, ccBvX, ccZ0, ccZ1, ccTZ, ccT0, ccT1, Bool.or_false, ccMckT, ccMckIn, ne_eq, not_true_eq_false, not_false_eq_true, if_pos, if_neg, reduceIte, eq_self, Bool.false_eq_true, Bool.true_eq_false, mix_N, N_add, N_mul, N_sub, N_div, ccMod, N_lt, N_le, N_eq, ccNm, ccMN, ccNm2, ccM2N, ccMM2, ccM2M, ccMlt, ccMle, ccNltM, ccNleM, ccM2lt, ccM2le, ccNlt2, ccNle2, Nat.reduceAdd, Nat.reduceMul, Nat.reduceSub, Nat.reduceLT, Nat.reduceLeDiff, Nat.reduceEqDiff, Nat.reduceDiv, Nat.reduceMod]
theorem ccPush_s {m : mMi} {k v : Nat} {b : Bool} : ccPush m k v b 4 0 3 = m 4 0 3 := by
  unfold ccPush
  cases b
  · rfl
  · funext q₁
    simp (disch := omega) only [ccRd, if_neg, Nat.reduceEqDiff, eq_self, true_and, and_true, false_and, and_false, if_true, if_false]
theorem ccPush_q {m m₂ : mMi} {k v : Nat} {b : Bool} (h₁ : ccFq m m₂) : ccFq m (ccPush m₂ k v b) := by
  unfold ccPush
  cases b
  · exact h₁
  · exact ccFq_w (ccFq_set h₁ (by omega))
theorem ccPush_k {m : mMi} {k v : Nat} {b : Bool} (h₁ : m 4 0 0 34 = N k) : ccPush m k v b 4 0 0 34 = N (if b = true then k + 1 else k) := by
  unfold ccPush
  cases b
  · exact h₁
  · simp (disch := omega) only [ccRd, if_pos, Nat.reduceEqDiff, eq_self, true_and, and_true, false_and, and_false, if_true, if_false]
theorem ccPush_j {m : mMi} {k v j : Nat} {b : Bool} (h₁ : j < k) : ccPush m k v b 4 0 14 j = m 4 0 14 j := by
  unfold ccPush
  cases b
  · rfl
  · simp (disch := omega) only [ccRd, if_neg, if_true, Nat.reduceEqDiff, eq_self, true_and, and_true, false_and, and_false, if_true, if_false]
theorem ccPush_t {m : mMi} {k v : Nat} : ccPush m k v true 4 0 14 k = N v := by
  unfold ccPush
  simp (disch := omega) only [ccRd, if_neg, if_true, Nat.reduceEqDiff, eq_self, true_and, and_true, false_and, and_false, if_true, if_false]
/-- a thing that waits, if it does (b), is taken and falls -/
def ccPopF (d : Nat) : Prop := ∀ (mc mm : mMi) (i w l n bd : Nat) (β wt : Nat → Int32) (h t L c k : Nat) (b : Bool), ccInv mc mm i w l n bd β wt h t → L + d = 8 → c < 1000 → k ≤ 80 + L → (b = false → ccHF (mc 0 i) w l L c = false) → (b = true → L < l ∧ L + c < w ∧ mm 4 0 14 k = N (2 * (12 * L + c) + 1)) → mm 4 0 0 34 = N (if b = true then k + 1 else k) →
  ∃ m₁ m₂ T, (∀ f rs, 2 * d + 1 ≤ f → FR f 28 i (N L) (N c) (N 2) (I (-1)) mc rs = rV m₁ rs) ∧ (∀ g x1 x2 x3 x4 rs, F222_20 (g + T) x1 x2 x3 x4 mm rs = F222_20 g x1 x2 x3 x4 m₂ rs) ∧ T + 1 ≤ 4 ^ d + 1 ∧ ccOut mc mm m₁ m₂ i w l n bd β wt t k ∧ ccHF (m₁ 0 i) w l L c = false
def ccPopP (d : Nat) : Prop := ∀ (mc mm : mMi) (i w l n bd : Nat) (β wt : Nat → Int32) (h t L c k : Nat) (b : Bool), ccInv mc mm i w l n bd β wt h t → L + d = 8 → c < 1000 → k ≤ 80 + L → (b = false → ccHP (mc 0 i) w l L c = false) → (b = true → L < l ∧ L + c < w ∧ mm 4 0 14 k = N (2 * (12 * L + c) + 0)) → mm 4 0 0 34 = N (if b = true then k + 1 else k) →
  ∃ m₁ m₂ T, (∀ f rs, 2 * d ≤ f → 1 ≤ f → FR f 26 i (N L) (N c) (N 2) (I (-1)) mc rs = rV m₁ rs) ∧ (∀ g x1 x2 x3 x4 rs, F222_20 (g + T) x1 x2 x3 x4 mm rs = F222_20 g x1 x2 x3 x4 m₂ rs) ∧ T + 1 ≤ 4 ^ d ∧ ccOut mc mm m₁ m₂ i w l n bd β wt t k ∧ ccHP (m₁ 0 i) w l L c = false
