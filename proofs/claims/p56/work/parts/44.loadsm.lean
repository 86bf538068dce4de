/-! LOADS of the reference. -/
def ccFt (m₁ m₂ : mMi) : Prop := ∀ f a j p, ¬ (f = 4 ∧ a = 0 ∧ (j = 12 ∨ j = 13)) → m₂ f a j p = m₁ f a j p
theorem ccFt_rfl {m₁ : mMi} : ccFt m₁ m₁ := fun _ _ _ _ _ => rfl
theorem ccFt_trans {m₁ m₂ m₃ : mMi} (h₁ : ccFt m₁ m₂) (h₂ : ccFt m₂ m₃) : ccFt m₁ m₃ := fun f a j p g₁ => Eq.trans (h₂ f a j p g₁) (h₁ f a j p g₁)
theorem ccFt_set {j p : Nat} {v : Int32} {m₁ m₂ : mMi} (h₁ : ccFt m₁ m₂) (h₂ : j = 12 ∨ j = 13) : ccFt m₁ (mset m₂ 4 0 j p v) := fun f a j₁ p₁ g₁ => by
  rw [ccRd, if_neg (by omega)]
  exact h₁ f a j₁ p₁ g₁
theorem ccFt_fq {m₁ m₂ : mMi} (h₁ : ccFt m₁ m₂) : ccFq m₁ m₂ := fun f a j p g₁ _ => h₁ f a j p (by omega)
theorem ccFt_3 {m₁ m₂ : mMi} (h₁ : ccFt m₁ m₂) : m₂ 4 0 3 = m₁ 4 0 3 := by
  funext p
  exact h₁ 4 0 3 p (by omega)
def ccWm (m : mMi) (w l n : Nat) (W : Nat → Nat) (C : Nat → Nat → Int32) : Prop := ccMo m w l n ∧ ccRA C (m 4 0 3) ∧ ∀ k, k < n → m 4 0 2 k = N (W k)
theorem ccWm_ft {m m₁ : mMi} {w l n : Nat} {W : Nat → Nat} {C : Nat → Nat → Int32} (h₁ : ccWm m w l n W C) (h₂ : ccFt m m₁) : ccWm m₁ w l n W C := ⟨ccMo_fq (ccFt_fq h₂) h₁.1, by rw [ccFt_3 h₂]; exact h₁.2.1, fun k g₁ => by rw [h₂ 4 0 2 k (by omega)]; exact h₁.2.2 k g₁⟩
theorem ccE198' {m : mMi} {rs : mRs} {w l n L c : Nat} {W : Nat → Nat} {C : Nat → Nat → Int32} (q₁ : ccWm m w l n W C) (h₁ : L < 1000) (h₂ : c < 1000) : F198 (N L) (N c) m rs = rI (ccT (ccHP C w l L c)) m rs := by
  rw [ccE198 q₁.1 h₁ h₂, ccHP_eq q₁.2.1 q₁.1.2.2.2.2.1 q₁.1.2.2.2.2.2.2.1]
theorem ccE202' {m : mMi} {rs : mRs} {w l n L c : Nat} {W : Nat → Nat} {C : Nat → Nat → Int32} (q₁ : ccWm m w l n W C) (h₁ : L < 1000) (h₂ : c < 1000) : F202 (N L) (N c) m rs = rI (ccT (ccHF C w l L c)) m rs := by
  rw [ccE202 q₁.1 h₁ h₂, ccHF_eq q₁.2.1 q₁.1.2.2.2.2.1 q₁.1.2.2.2.2.2.2.1]
theorem ccE216 {m : mMi} {rs : mRs} {w l n p : Nat} {W : Nat → Nat} {C : Nat → Nat → Int32} (q₁ : ccWm m w l n W C) (q₂ : ccCd n C) (h₁ : p < 96) (h₂ : C 2 p ≠ I (-1)) : F216 (N p) m rs = rI (N (W (mix (C 2 p)) + W (mix (C 3 p)))) m rs := by
  have b₃ : n ≤ 40 := q₁.1.2.2.2.2.2.2.2
  obtain ⟨a, b, e₁, e₂, e₃, e₄⟩ := q₂.1 p h₁ h₂
  obtain ⟨f₁, f₂, f₃⟩ := q₁.2.1 p h₁
  unfold F216
  simp (disch := omega) only [ccE201a, ccE201b, f₁, (f₃ h₂).1, e₃, e₄, q₁.2.2 a e₁, q₁.2.2 b e₂, true_and, and_true, false_and, and_false, if_true, if_false, ccIte, ccBi, ccBiX, ccBv, ccBvX, ccZ0, ccZ1, ccTZ, ccT0, ccT1, Bool.or_false, ccMckT, ccMckIn, ne_eq, not_true_eq_false, not_false_eq_true, if_pos, if_neg, reduceIte, eq_self, Bool.false_eq_true, Bool.true_eq_false, mix_N, N_add, N_mul, N_sub, N_div, ccMod, N_lt, N_le, N_eq, ccNm, ccMN, ccNm2, ccM2N, ccMM2, ccM2M, ccMlt, ccMle, ccNltM, ccNleM, ccM2lt, ccM2le, ccNlt2, ccNle2, Nat.reduceAdd, Nat.reduceMul, Nat.reduceSub, Nat.reduceLT, Nat.reduceLeDiff, Nat.reduceEqDiff, Nat.reduceDiv, Nat.reduceMod]
theorem ccE215 {m : mMi} {rs : mRs} {a : Nat} (h₁ : a < 1000000) : F215 (N a) m rs = rI (N (a - a / 2)) m rs := by
  have e₁ : (a + 1) / 2 = a - a / 2 := by omega
  unfold F215
  simp (disch := omega) only [true_and, and_true, false_and, and_false, if_true, if_false, ccIte, ccBi, ccBiX, ccBv, ccBvX, ccZ0, ccZ1, ccTZ, ccT0, ccT1, Bool.or_false, ccMckT, ccMckIn, ne_eq, not_true_eq_false, not_false_eq_true, if_pos, if_neg, reduceIte, eq_self, Bool.false_eq_true, Bool.true_eq_false, mix_N, N_add, N_mul, N_sub, N_div, ccMod, N_lt, N_le, N_eq, ccNm, ccMN, ccNm2, ccM2N, ccMM2, ccM2M, ccMlt, ccMle, ccNltM, ccNleM, ccM2lt, ccM2le, ccNlt2, ccNle2, Nat.reduceAdd, Nat.reduceMul, Nat.reduceSub, Nat.reduceLT, Nat.reduceLeDiff, Nat.reduceEqDiff, Nat.reduceDiv, Nat.reduceMod, e₁]
theorem ccE214a {m : mMi} {rs : mRs} {w l n L c a b : Nat} {bl br : Bool} {W : Nat → Nat} {C : Nat → Nat → Int32} (q₁ : ccWm m w l n W C) (h₁ : L < 8) (h₂ : c < 12) (hl : ccHF C w l (L + 1) c = bl) (hr : ccHF C w l (L + 1) (c + 1) = br) (ha : a < 1000000) (hb : b < 1000000) (gl : bl = true → 12 * (L + 1) + c < 96 ∧ m 4 0 13 (12 * (L + 1) + c) = N a) (gr : br = true → 12 * (L + 1) + (c + 1) < 96 ∧ m 4 0 13 (12 * (L + 1) + (c + 1)) = N b) (ga : bl = false → a = 0) (gb : br = false → b = 0) : F214 (N L) (N (c + 1)) m rs = rI (N (a / 2 + (b - b / 2))) m rs := by
  have e₃ : N (c + 1) - N 1 = N c := by
    rw [N_sub (by omega), Nat.add_sub_cancel]
  unfold F214
  rw [e₃]
  cases bl
  · have a₀ := ga rfl
    subst a₀
    cases br
    · have b₀ := gb rfl
      subst b₀
      simp (disch := omega) only [ccE202' q₁, hl, hr, true_and, and_true, false_and, and_false, if_true, if_false, ccIte, ccBi, ccBiX, ccBv, ccBvX, ccZ0, ccZ1, ccTZ, ccT0, ccT1, Bool.or_false, ccMckT, ccMckIn, ne_eq, not_true_eq_false, not_false_eq_true, if_pos, if_neg, reduceIte, eq_self, Bool.false_eq_true, Bool.true_eq_false, mix_N, N_add, N_mul, N_sub, N_div, ccMod, N_lt, N_le, N_eq, ccNm, ccMN, ccNm2, ccM2N, ccMM2, ccM2M, ccMlt, ccMle, ccNltM, ccNleM, ccM2lt, ccM2le, ccNlt2, ccNle2, Nat.reduceAdd, Nat.reduceMul, Nat.reduceSub, Nat.reduceLT, Nat.reduceLeDiff, Nat.reduceEqDiff, Nat.reduceDiv, Nat.reduceMod]
    · obtain ⟨s₁, s₂⟩ := gr rfl
      have e₄ : 0 / 2 + (b - b / 2) = 0 + (b - b / 2) := by omega
      rw [e₄]
      simp (disch := omega) only [ccE202' q₁, hl, hr, ccE200, s₂, ccE215, true_and, and_true, false_and, and_false, if_true, if_false, ccIte, ccBi, ccBiX, ccBv, ccBvX, ccZ0, ccZ1, ccTZ, ccT0, ccT1, Bool.or_false, ccMckT, ccMckIn, ne_eq, not_true_eq_false, not_false_eq_true, if_pos, if_neg, reduceIte, eq_self, Bool.false_eq_true, Bool.true_eq_false, mix_N, N_add, N_mul, N_sub, N_div, ccMod, N_lt, N_le, N_eq, ccNm, ccMN, ccNm2, ccM2N, ccMM2, ccM2M, ccMlt, ccMle, ccNltM, ccNleM, ccM2lt, ccM2le, ccNlt2, ccNle2, Nat.reduceAdd, Nat.reduceMul, Nat.reduceSub, Nat.reduceLT, Nat.reduceLeDiff, Nat.reduceEqDiff, Nat.reduceDiv, Nat.reduceMod]
  · obtain ⟨s₃, s₄⟩ := gl rfl
    have e₅ : a - (a - a / 2) = a / 2 := by omega
    cases br
    · have b₀ := gb rfl
      subst b₀
      have e₄ : a / 2 + (0 - 0 / 2) = 0 + a / 2 := by omega
      rw [e₄]
      simp (disch := omega) only [ccE202' q₁, hl, hr, ccE200, s₄, ccE215, e₅, true_and, and_true, false_and, and_false, if_true, if_false, ccIte, ccBi, ccBiX, ccBv, ccBvX, ccZ0, ccZ1, ccTZ, ccT0, ccT1, Bool.or_false, ccMckT, ccMckIn, ne_eq, not_true_eq_false, not_false_eq_true, if_pos, if_neg, reduceIte, eq_self, Bool.false_eq_true, Bool.true_eq_false, mix_N, N_add, N_mul, N_sub, N_div, ccMod, N_lt, N_le, N_eq, ccNm, ccMN, ccNm2, ccM2N, ccMM2, ccM2M, ccMlt, ccMle, ccNltM, ccNleM, ccM2lt, ccM2le, ccNlt2, ccNle2, Nat.reduceAdd, Nat.reduceMul, Nat.reduceSub, Nat.reduceLT, Nat.reduceLeDiff, Nat.reduceEqDiff, Nat.reduceDiv, Nat.reduceMod]
    · obtain ⟨s₁, s₂⟩ := gr rfl
      have e₄ : a / 2 + (b - b / 2) = 0 + a / 2 + (b - b / 2) := by omega
      rw [e₄]
      simp (disch := omega) only [ccE202' q₁, hl, hr, ccE200, s₂, s₄, ccE215, e₅, true_and, and_true, false_and, and_false, if_true, if_false, ccIte, ccBi, ccBiX, ccBv, ccBvX, ccZ0, ccZ1, ccTZ, ccT0, ccT1, Bool.or_false, ccMckT, ccMckIn, ne_eq, not_true_eq_false, not_false_eq_true, if_pos, if_neg, reduceIte, eq_self, Bool.false_eq_true, Bool.true_eq_false, mix_N, N_add, N_mul, N_sub, N_div, ccMod, N_lt, N_le, N_eq, ccNm, ccMN, ccNm2, ccM2N, ccMM2, ccM2M, ccMlt, ccMle, ccNltM, ccNleM, ccM2lt, ccM2le, ccNlt2, ccNle2, Nat.reduceAdd, Nat.reduceMul, Nat.reduceSub, Nat.reduceLT, Nat.reduceLeDiff, Nat.reduceEqDiff, Nat.reduceDiv, Nat.reduceMod]
theorem ccE202n {m : mMi} {rs : mRs} {w l n L : Nat} (q₁ : ccMo m w l n) (h₁ : L < 8) : F202 (N L + N 1) (N 0 - N 1) m rs = rI (ccT false) m rs := by
  have e₄ : N 0 - N 1 = I (-1) := rfl
  rw [e₄, N_add]
  exact ccE202m q₁ (by omega)
theorem ccE214c {m : mMi} {rs : mRs} {w l n L : Nat} {W : Nat → Nat} {C : Nat → Nat → Int32} (q₁ : ccWm m w l n W C) (h₁ : L < 8) (hr : ccHF C w l (L + 1) 0 = false) : F214 (N L) (N 0) m rs = rI (N 0) m rs := by
  have e₅ : ∀ r₁, F202 (N L + N 1) (N 0) m r₁ = rI (ccT false) m r₁ := fun r₁ => by
    rw [N_add, ccE202' q₁ (by omega) (by omega), hr]
  have e₆ : mifO (decide (ccT false = N 0)) = fun (x y : mRz) => x := by
    funext x y
    rw [ccIte, if_pos ((ccT0).mpr rfl)]
  unfold F214
  rw [ccE202n q₁.1 h₁, ccBi, e₆, e₅, ccBi, e₆]
theorem ccE214d {m : mMi} {rs : mRs} {w l n L b : Nat} {W : Nat → Nat} {C : Nat → Nat → Int32} (q₁ : ccWm m w l n W C) (h₁ : L < 8) (hr : ccHF C w l (L + 1) 0 = true) (hb : b < 1000000) (s₁ : 12 * (L + 1) + 0 < 96) (s₂ : m 4 0 13 (12 * (L + 1) + 0) = N b) : F214 (N L) (N 0) m rs = rI (N (0 + (b - b / 2))) m rs := by
  have e₅ : ∀ r₁, F202 (N L + N 1) (N 0) m r₁ = rI (ccT true) m r₁ := fun r₁ => by
    rw [N_add, ccE202' q₁ (by omega) (by omega), hr]
  have e₆ : mifO (decide (ccT false = N 0)) = fun (x y : mRz) => x := by
    funext x y
    rw [ccIte, if_pos ((ccT0).mpr rfl)]
  have e₇ : mifO (decide (ccT true = N 0)) = fun (x y : mRz) => y := by
    funext x y
    rw [ccIte, if_neg (fun q₁ => by rw [ccT0] at q₁; cases q₁)]
  unfold F214
  rw [ccE202n q₁.1 h₁, ccBi, e₆, e₅, ccBi, e₇, N_add, ccE200, ccBi, ccMckIn s₁ (by omega), mix_N (by omega), s₂, ccE215 hb, ccBi, N_add]
theorem ccE214b {m : mMi} {rs : mRs} {w l n L b : Nat} {br : Bool} {W : Nat → Nat} {C : Nat → Nat → Int32} (q₁ : ccWm m w l n W C) (h₁ : L < 8) (hr : ccHF C w l (L + 1) 0 = br) (hb : b < 1000000) (gr : br = true → 12 * (L + 1) + 0 < 96 ∧ m 4 0 13 (12 * (L + 1) + 0) = N b) (gb : br = false → b = 0) : F214 (N L) (N 0) m rs = rI (N (0 + (b - b / 2))) m rs := by
  cases br
  · have b₀ := gb rfl
    subst b₀
    exact ccE214c q₁ h₁ hr
  · obtain ⟨s₁, s₂⟩ := gr rfl
    exact ccE214d q₁ h₁ hr hb s₁ s₂
theorem ccE214 {m : mMi} {rs : mRs} {w l n d L c : Nat} {W : Nat → Nat} {C : Nat → Nat → Int32} (q₁ : ccWm m w l n W C) (q₂ : ccCd n C) (q₃ : ccWok n W) (h₁ : L + (d + 1) = 8) (h₂ : L < l) (h₃ : L + c < w) (h₄ : ∀ c₁, ccHF C w l (L + 1) c₁ = true → m 4 0 13 (12 * (L + 1) + c₁) = N (ccFL W C w l d (L + 1) c₁)) : F214 (N L) (N c) m rs = rI (N (ccPL W C w l d L c)) m rs := by
  have b₁ : w ≤ 12 := q₁.1.2.2.2.2.1
  have b₂ : l ≤ 8 := q₁.1.2.2.2.2.2.2.1
  have b₃ : n ≤ 40 := q₁.1.2.2.2.2.2.2.2
  have f₁ : ∀ c₁, ccFL W C w l d (L + 1) c₁ < 1000000 := fun c₁ => by
    have f₂ := ccFL_le q₂ q₃ b₁ b₂ b₃ d (L + 1) c₁
    omega
  have s₃ : ∀ c₁, ccHF C w l (L + 1) c₁ = true → 12 * (L + 1) + c₁ < 96 := fun c₁ g₁ => by
    obtain ⟨g₂, g₃, g₄⟩ := ccHF_t g₁
    omega
  cases c with
  | zero => exact ccE214b q₁ (by omega) rfl (f₁ 0) (fun y₁ => ⟨s₃ 0 y₁, h₄ 0 y₁⟩) (fun y₁ => ccFL_0 y₁)
  | succ c₁ => exact ccE214a q₁ (by omega) (by omega) rfl rfl (f₁ c₁) (f₁ (c₁ + 1)) (fun y₁ => ⟨s₃ c₁ y₁, h₄ c₁ y₁⟩) (fun y₁ => ⟨s₃ (c₁ + 1) y₁, h₄ (c₁ + 1) y₁⟩) (fun y₁ => ccFL_0 y₁) (fun y₁ => ccFL_0 y₁)
def ccOKm (m : mMi) (W : Nat → Nat) (C : Nat → Nat → Int32) (w l d L c : Nat) : Prop := (ccHP C w l L c = true → m 4 0 12 (12 * L + c) = N (ccPL W C w l d L c)) ∧ m 4 0 13 (12 * L + c) = N (ccFL W C w l (d + 1) L c)
def ccDonem (m : mMi) (W : Nat → Nat) (C : Nat → Nat → Int32) (w l k : Nat) : Prop := ∀ L c d, k ≤ L → L + (d + 1) = 8 → L < l → L + c < w → ccOKm m W C w l d L c
theorem ccL213st {w l n d L c : Nat} {m : mMi} {W : Nat → Nat} {C : Nat → Nat → Int32} (q₁ : ccWm m w l n W C) (q₂ : ccCd n C) (q₃ : ccWok n W) (h₁ : L + (d + 1) = 8) (h₂ : L < l) (h₃ : L + c < w) (h₄ : ∀ c₁, ccHF C w l (L + 1) c₁ = true → m 4 0 13 (12 * (L + 1) + c₁) = N (ccFL W C w l d (L + 1) c₁)) :
    ∃ m₁, (∀ f rs, F213_7 (f + 1) 13 (N L) (N c) m rs = F213_7 f 13 (N L) (N (c + 1)) m₁ rs) ∧ ccFt m m₁ ∧ ccOKm m₁ W C w l d L c ∧ ∀ j p, p ≠ 12 * L + c → m₁ 4 0 j p = m 4 0 j p := by
  have b₁ : w ≤ 12 := q₁.1.2.2.2.2.1
  have b₂ : l ≤ 8 := q₁.1.2.2.2.2.2.2.1
  have b₃ : n ≤ 40 := q₁.1.2.2.2.2.2.2.2
  have p₁ : 12 * L + c < 96 := by omega
  have q₄ : m 4 0 0 2 = N w := q₁.1.1
  have f₁ := ccPL_le (L := L) (c := c) (d := d) q₂ q₃ b₁ b₂ b₃
  have e₀ : ccFL W C w l (d + 1) L c = if ccHF C w l L c = true then W (mix (C 6 (12 * L + c))) + (if ccHP C w l L c = true then W (mix (C 2 (12 * L + c))) + W (mix (C 3 (12 * L + c))) + ccPL W C w l d L c else 0) else 0 := rfl
  obtain ⟨v, hv⟩ : ∃ v, v = if ccHP C w l L c = true then ccPL W C w l d L c else 0 := ⟨_, rfl⟩
  obtain ⟨m₁, hm₁⟩ : ∃ x, x = mset (mset m 4 0 12 (12 * L + c) (N v)) 4 0 13 (12 * L + c) (N 0) := ⟨_, rfl⟩
  have d₁ : ccFt m m₁ := by rw [hm₁]; exact ccFt_set (ccFt_set ccFt_rfl (by omega)) (by omega)
  have q₅ := ccWm_ft q₁ d₁
  have o₁ : ∀ j p, p ≠ 12 * L + c → m₁ 4 0 j p = m 4 0 j p := fun j p y₁ => by
    rw [hm₁]
    simp (disch := omega) only [ccRd, if_neg]
  have v₁ : m₁ 4 0 12 (12 * L + c) = N v := by
    rw [hm₁]
    simp (disch := omega) only [ccRd, if_pos, if_neg, Nat.reduceEqDiff, eq_self, true_and, and_true, false_and, and_false, if_true, if_false]
  have v₂ : m₁ 4 0 13 (12 * L + c) = N 0 := by
    rw [hm₁]
    simp (disch := omega) only [ccRd, if_pos, Nat.reduceEqDiff, eq_self, true_and, and_true, false_and, and_false, if_true, if_false]
  cases hf : ccHF C w l L c
  · refine ⟨m₁, fun f rs => ?_, d₁, ⟨fun y₁ => by rw [v₁, hv, if_pos y₁], by rw [v₂, e₀, hf]; rfl⟩, o₁⟩
    cases hp : ccHP C w l L c
    · rw [hp, if_neg (by decide)] at hv
      subst hv
      rw [ccL213_7_13]
      simp (disch := omega) only [q₄, ccE200, ccE198' q₁, hp, ← hm₁, ccE202' q₅, hf, true_and, and_true, false_and, and_false, if_true, if_false, ccIte, ccBi, ccBiX, ccBv, ccBvX, ccZ0, ccZ1, ccTZ, ccT0, ccT1, Bool.or_false, ccMckT, ccMckIn, ne_eq, not_true_eq_false, not_false_eq_true, if_pos, if_neg, reduceIte, eq_self, Bool.false_eq_true, Bool.true_eq_false, mix_N, N_add, N_mul, N_sub, N_div, ccMod, N_lt, N_le, N_eq, ccNm, ccMN, ccNm2, ccM2N, ccMM2, ccM2M, ccMlt, ccMle, ccNltM, ccNleM, ccM2lt, ccM2le, ccNlt2, ccNle2, Nat.reduceAdd, Nat.reduceMul, Nat.reduceSub, Nat.reduceLT, Nat.reduceLeDiff, Nat.reduceEqDiff, Nat.reduceDiv, Nat.reduceMod]
    · rw [hp, if_pos rfl] at hv
      subst hv
      rw [ccL213_7_13]
      simp (disch := omega) only [q₄, ccE200, ccE198' q₁, hp, ccE214 q₁ q₂ q₃ h₁ h₂ h₃ h₄, ← hm₁, ccE202' q₅, hf, true_and, and_true, false_and, and_false, if_true, if_false, ccIte, ccBi, ccBiX, ccBv, ccBvX, ccZ0, ccZ1, ccTZ, ccT0, ccT1, Bool.or_false, ccMckT, ccMckIn, ne_eq, not_true_eq_false, not_false_eq_true, if_pos, if_neg, reduceIte, eq_self, Bool.false_eq_true, Bool.true_eq_false, mix_N, N_add, N_mul, N_sub, N_div, ccMod, N_lt, N_le, N_eq, ccNm, ccMN, ccNm2, ccM2N, ccMM2, ccM2M, ccMlt, ccMle, ccNltM, ccNleM, ccM2lt, ccM2le, ccNlt2, ccNle2, Nat.reduceAdd, Nat.reduceMul, Nat.reduceSub, Nat.reduceLT, Nat.reduceLeDiff, Nat.reduceEqDiff, Nat.reduceDiv, Nat.reduceMod]
  · obtain ⟨_, _, g₃⟩ := ccHF_t hf
    obtain ⟨a, y₁, y₂⟩ := q₂.2 (12 * L + c) p₁ g₃
    have y₃ := (q₃ a y₁).2
    have y₄ : m₁ 4 0 3 (632 + (12 * L + c)) = N a := by rw [(q₅.2.1 (12 * L + c) p₁).2.1, y₂]
    have y₅ : m₁ 4 0 2 a = N (W a) := q₅.2.2 a y₁
    obtain ⟨m₂, hm₂⟩ : ∃ x, x = mset m₁ 4 0 13 (12 * L + c) (N (ccFL W C w l (d + 1) L c)) := ⟨_, rfl⟩
    have d₂ : ccFt m m₂ := by rw [hm₂]; exact ccFt_set d₁ (by omega)
    refine ⟨m₂, fun f rs => ?_, d₂, ⟨fun y₁ => ?_, ?_⟩, fun j p y₁ => ?_⟩
    · cases hp : ccHP C w l L c
      · rw [hp, if_neg (by decide)] at hv
        subst hv
        have y₆ : ccFL W C w l (d + 1) L c = W a + 0 := by
          rw [e₀, hf, hp, if_pos rfl, if_neg (by decide), y₂, mix_N (by omega)]
        rw [ccL213_7_13]
        rw [y₆] at hm₂
        simp (disch := omega) only [q₄, ccE200, ccE198' q₁, ccE198' q₅, hp, ← hm₁, ccE202' q₅, hf, y₄, y₅, ← hm₂, true_and, and_true, false_and, and_false, if_true, if_false, ccIte, ccBi, ccBiX, ccBv, ccBvX, ccZ0, ccZ1, ccTZ, ccT0, ccT1, Bool.or_false, ccMckT, ccMckIn, ne_eq, not_true_eq_false, not_false_eq_true, if_pos, if_neg, reduceIte, eq_self, Bool.false_eq_true, Bool.true_eq_false, mix_N, N_add, N_mul, N_sub, N_div, ccMod, N_lt, N_le, N_eq, ccNm, ccMN, ccNm2, ccM2N, ccMM2, ccM2M, ccMlt, ccMle, ccNltM, ccNleM, ccM2lt, ccM2le, ccNlt2, ccNle2, Nat.reduceAdd, Nat.reduceMul, Nat.reduceSub, Nat.reduceLT, Nat.reduceLeDiff, Nat.reduceEqDiff, Nat.reduceDiv, Nat.reduceMod]
      · rw [hp, if_pos rfl] at hv
        subst hv
        have y₆ : ccFL W C w l (d + 1) L c = W a + (W (mix (C 2 (12 * L + c))) + W (mix (C 3 (12 * L + c))) + ccPL W C w l d L c) := by
          rw [e₀, hf, hp, if_pos rfl, if_pos rfl, y₂, mix_N (by omega)]
        rw [ccL213_7_13]
        rw [y₆] at hm₂
        simp (disch := omega) only [q₄, ccE200, ccE198' q₁, ccE198' q₅, ccE214 q₁ q₂ q₃ h₁ h₂ h₃ h₄, hp, ← hm₁, ccE202' q₅, hf, y₄, y₅, v₁, ccE216 q₅ q₂ p₁ (ccHP_t hp).2.2, ← hm₂, true_and, and_true, false_and, and_false, if_true, if_false, ccIte, ccBi, ccBiX, ccBv, ccBvX, ccZ0, ccZ1, ccTZ, ccT0, ccT1, Bool.or_false, ccMckT, ccMckIn, ne_eq, not_true_eq_false, not_false_eq_true, if_pos, if_neg, reduceIte, eq_self, Bool.false_eq_true, Bool.true_eq_false, mix_N, N_add, N_mul, N_sub, N_div, ccMod, N_lt, N_le, N_eq, ccNm, ccMN, ccNm2, ccM2N, ccMM2, ccM2M, ccMlt, ccMle, ccNltM, ccNleM, ccM2lt, ccM2le, ccNlt2, ccNle2, Nat.reduceAdd, Nat.reduceMul, Nat.reduceSub, Nat.reduceLT, Nat.reduceLeDiff, Nat.reduceEqDiff, Nat.reduceDiv, Nat.reduceMod]
    · rw [hm₂]
      simp (disch := omega) only [ccRd, if_neg, Nat.reduceEqDiff, eq_self, true_and, and_true, false_and, and_false, if_true, if_false]
      rw [v₁, hv, if_pos y₁]
    · rw [hm₂]
      simp (disch := omega) only [ccRd, if_pos, Nat.reduceEqDiff, eq_self, true_and, and_true, false_and, and_false, if_true, if_false]
    · rw [hm₂, ccRd, if_neg (by omega)]
      exact o₁ j p y₁
