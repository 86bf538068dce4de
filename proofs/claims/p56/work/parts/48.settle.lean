/-! A CASTLE SETTLES, on both sides. -/
def ccStd (C : Nat → Nat → Int32) : Prop := ∀ p, 12 ≤ p → p < 96 → ¬ ccVf C p ∧ ¬ ccVp C p
def ccJ (mc mm : mMi) (i w l n bd : Nat) (β wt : Nat → Int32) (W : Nat → Nat) (h t : Nat) : Prop := ccInv mc mm i w l n bd β wt h t ∧ ccStd (mc 0 i) ∧ ccWt mc (RO i) n W ∧ (∀ k, k < n → mm 4 0 2 k = N (W k)) ∧ ccWok n W
theorem ccStd_sup {C : Nat → Nat → Int32} {w l : Nat} (h₁ : ccStd C) (h₂ : w ≤ 12) (h₃ : l ≤ 8) : ccSup C w l := by
  intro L c g₁ g₂ g₃
  have g₄ : C 2 (12 * L + c) = I (-1) := by
    by_cases g₅ : C 2 (12 * L + c) = I (-1)
    · exact g₅
    · rw [ccHP_i g₁ g₂ g₅] at g₃
      cases g₃
  refine ⟨?_, fun c₁ g₅ => ?_⟩
  · cases g₆ : ccHF C w l (L + 1) c
    · rfl
    · obtain ⟨y₁, y₂, y₃⟩ := ccHF_t g₆
      have y₄ := (h₁ (12 * (L + 1) + c) (by omega) (by omega)).1
      have y₅ : 12 * (L + 1) + c - 12 = 12 * L + c := by omega
      exact absurd ⟨y₃, Or.inl (by rw [y₅]; exact g₄)⟩ y₄
  · cases g₆ : ccHF C w l (L + 1) c₁
    · rfl
    · obtain ⟨y₁, y₂, y₃⟩ := ccHF_t g₆
      have y₄ := (h₁ (12 * (L + 1) + c₁) (by omega) (by omega)).1
      have y₅ : 12 * (L + 1) + c₁ - 11 = 12 * L + c := by omega
      exact absurd ⟨y₃, Or.inr (by rw [y₅]; exact g₄)⟩ y₄
theorem ccJ_sc {mc mm m₁ m₂ : mMi} {i w l n bd h t : Nat} {β wt : Nat → Int32} {W : Nat → Nat} (q : ccJ mc mm i w l n bd β wt W h t) (h₁ : ccFs mc m₁) (h₂ : ccFt mm m₂) : ccJ m₁ m₂ i w l n bd β wt W h t := by
  obtain ⟨⟨q₁, q₂, q₃, q₄, q₅, q₆, q₇, q₈⟩, a₁, a₂, a₃, a₄⟩ := q
  have e₁ : m₁ 0 i = mc 0 i := ccFs_0 h₁
  have e₂ : m₂ 4 0 3 = mm 4 0 3 := ccFt_3 h₂
  refine ⟨⟨ccRu_fr (ccFs_fr (i := i) h₁) q₁, by rw [h₁ 1 (RO i) 1 5 (by omega)]; exact q₂, ccMo_fq (ccFt_fq h₂) q₃, by rw [h₂ 4 0 0 7 (by omega)]; exact q₄, q₅, by rw [e₁, e₂]; exact q₆, by rw [e₁]; exact q₇, by rw [e₁]; exact q₈⟩, by rw [e₁]; exact a₁, fun k g₁ => by rw [h₁ 1 (RO i) 4 k (by omega)]; exact a₂ k g₁, fun k g₁ => by rw [h₂ 4 0 2 k (by omega)]; exact a₃ k g₁, a₄⟩
theorem ccJ_beh {mc mm m₁ m₂ : mMi} {i w l n bd h t : Nat} {β wt : Nat → Int32} {W : Nat → Nat} (q : ccJ mc mm i w l n bd β wt W h t) (h₁ : ccBeh mc mm m₁ m₂ i w l n bd β wt t) : ∃ u v, ccJ m₁ m₂ i w l n bd β wt W u v ∧ ccG (mc 0 i) (m₁ 0 i) t v := by
  obtain ⟨⟨u, v, y₁, y₂⟩, y₃, y₄, y₅⟩ := h₁
  obtain ⟨_, a₁, a₂, a₃, a₄⟩ := q
  refine ⟨u, v, ⟨y₁, fun p g₁ g₂ => ⟨fun g₃ => (a₁ p g₁ g₂).1 ((y₅ p g₁ g₂).1 g₃), fun g₃ => (a₁ p g₁ g₂).2 ((y₅ p g₁ g₂).2 g₃)⟩, fun k g₁ => by rw [y₃ 1 (RO i) 4 k (by omega) (by omega)]; exact a₂ k g₁, fun k g₁ => by rw [y₄ 4 0 2 k (by omega) (by omega)]; exact a₃ k g₁, a₄⟩, y₂⟩
theorem ccJ_wc {mc mm : mMi} {i w l n bd h t : Nat} {β wt : Nat → Int32} {W : Nat → Nat} (q : ccJ mc mm i w l n bd β wt W h t) : ccWc mc i w l n W (mc 0 i) := ⟨q.1.1, q.2.2.1, rfl⟩
theorem ccJ_wm {mc mm : mMi} {i w l n bd h t : Nat} {β wt : Nat → Int32} {W : Nat → Nat} (q : ccJ mc mm i w l n bd β wt W h t) : ccWm mm w l n W (mc 0 i) := ⟨q.1.2.2.1, q.1.2.2.2.2.2.1.1, q.2.2.2.1⟩
theorem ccCnt_mono {f g : Nat → Bool} (h₁ : ∀ k, f k = true → g k = true) : ∀ n, ccCnt f n ≤ ccCnt g n := by
  intro n
  induction n with
  | zero => exact Nat.le_refl 0
  | succ k i₁ =>
    unfold ccCnt
    by_cases h₂ : f k = true
    · rw [if_pos h₂, if_pos (h₁ k h₂)]; omega
    · rw [if_neg h₂]; omega
theorem ccCnt_less {f g : Nat → Bool} {p : Nat} (h₁ : ∀ k, f k = true → g k = true) (h₂ : f p = false) (h₃ : g p = true) : ∀ n, p < n → ccCnt f n < ccCnt g n := by
  intro n
  induction n with
  | zero => intro g₁; omega
  | succ k i₁ =>
    intro g₁
    unfold ccCnt
    by_cases g₂ : k = p
    · subst g₂
      have g₃ := ccCnt_mono h₁ k
      rw [h₂, h₃, if_pos rfl, if_neg (by decide)]
      omega
    · have g₃ := i₁ (by omega)
      by_cases h₄ : f k = true
      · rw [if_pos h₄, if_pos (h₁ k h₄)]; omega
      · rw [if_neg h₄]; omega
theorem ccG_P {C D : Nat → Nat → Int32} {t u : Nat} (h₁ : ccG C D t u) : ∀ k, ccP D k = true → ccP C k = true := fun k g₁ => by
  unfold ccP at g₁ ⊢
  rcases (h₁.1 k).1 with g₂ | g₂
  · rw [← g₂]; exact g₁
  · rw [g₂] at g₁; cases g₁
theorem ccG_F {C D : Nat → Nat → Int32} {t u : Nat} (h₁ : ccG C D t u) : ∀ k, ccF D k = true → ccF C k = true := fun k g₁ => by
  unfold ccF at g₁ ⊢
  rcases (h₁.1 k).2.1 with g₂ | g₂
  · rw [← g₂]; exact g₁
  · rw [g₂] at g₁; cases g₁
/-- a pair has left: more is noted, fewer pairs stand -/
theorem ccG_less {C D : Nat → Nat → Int32} {t u p : Nat} (h₁ : ccG C D t u) (h₂ : p < 96) (h₃ : C 2 p ≠ I (-1)) (h₄ : D 2 p = I (-1)) : t < u ∧ ccCnt (ccP D) 96 < ccCnt (ccP C) 96 := by
  have e₁ : ccP D p = false := by unfold ccP; rw [h₄]; rfl
  have e₂ : ccP C p = true := by unfold ccP; rw [decide_eq_false h₃]; rfl
  have e₃ := ccCnt_less (ccG_P h₁) e₁ e₂ 96 h₂
  have e₄ := ccCnt_mono (ccG_F h₁) 96
  have e₅ := h₁.2
  unfold ccPcs at e₅
  exact ⟨by omega, e₃⟩
theorem ccG_le {C D : Nat → Nat → Int32} {t u : Nat} (h₁ : ccG C D t u) : t ≤ u := by
  have e₃ := ccCnt_mono (ccG_P h₁) 96
  have e₄ := ccCnt_mono (ccG_F h₁) 96
  have e₅ := h₁.2
  unfold ccPcs at e₅
  omega
theorem ccE111 {m : mMi} {rs : mRs} {p : Nat} (h₁ : p < 1000) : F111 (N p) m rs = rI (N (p / 12)) m rs := by
  unfold F111
  simp (disch := omega) only [true_and, and_true, false_and, and_false, if_true, if_false, ccIte, ccBi, ccBiX, ccBv, ccBvX, ccZ0, ccZ1, ccTZ, ccT0, ccT1, Bool.or_false, ccMckT, ccMckIn, ne_eq, not_true_eq_false, not_false_eq_true, if_pos, if_neg, reduceIte, eq_self, Bool.false_eq_true, Bool.true_eq_false, mix_N, N_add, N_mul, N_sub, N_div, ccMod, N_lt, N_le, N_eq, ccNm, ccMN, ccNm2, ccM2N, ccMM2, ccM2M, ccMlt, ccMle, ccNltM, ccNleM, ccM2lt, ccM2le, ccNlt2, ccNle2, Nat.reduceAdd, Nat.reduceMul, Nat.reduceSub, Nat.reduceLT, Nat.reduceLeDiff, Nat.reduceEqDiff, Nat.reduceDiv, Nat.reduceMod]
theorem ccE112 {m : mMi} {rs : mRs} {p : Nat} (h₁ : p < 1000) : F112 (N p) m rs = rI (N (p % 12)) m rs := by
  unfold F112
  simp (disch := omega) only [true_and, and_true, false_and, and_false, if_true, if_false, ccIte, ccBi, ccBiX, ccBv, ccBvX, ccZ0, ccZ1, ccTZ, ccT0, ccT1, Bool.or_false, ccMckT, ccMckIn, ne_eq, not_true_eq_false, not_false_eq_true, if_pos, if_neg, reduceIte, eq_self, Bool.false_eq_true, Bool.true_eq_false, mix_N, N_add, N_mul, N_sub, N_div, ccMod, N_lt, N_le, N_eq, ccNm, ccMN, ccNm2, ccM2N, ccMM2, ccM2M, ccMlt, ccMle, ccNltM, ccNleM, ccM2lt, ccM2le, ccNlt2, ccNle2, Nat.reduceAdd, Nat.reduceMul, Nat.reduceSub, Nat.reduceLT, Nat.reduceLeDiff, Nat.reduceEqDiff, Nat.reduceDiv, Nat.reduceMod]
/-- a castle is quiet: no pair bears too much -/
def ccQt (W : Nat → Nat) (C : Nat → Nat → Int32) (w l : Nat) : Prop := ∀ p, p < 96 → ccBdl W C w l p = false
theorem ccSet {i w l n bd : Nat} {β wt : Nat → Int32} {W : Nat → Nat} : ∀ q r, r + q ≤ 96 → ∀ (mc mm : mMi) (h t : Nat), ccJ mc mm i w l n bd β wt W h t → ccCnt (ccP (mc 0 i)) 96 ≤ q →
    ∃ m₁ m₂ u v, (∀ f x rs, F19_10 i (f + q + 1) x (N r) mc rs = rI (m₁ 0 i 7 2 - x) m₁ rs) ∧ (∀ g rs, bV (F213 mm rs) (fun m r₁ => bI (F217 (N 0) m r₁) (fun v₁ m r₁ => F212_10 (g + q + 1) v₁ m r₁)) = rV m₂ rs) ∧ ccJ m₁ m₂ i w l n bd β wt W u v ∧ ccG (mc 0 i) (m₁ 0 i) t v ∧ ccFr i mc m₁ ∧ ccFq mm m₂ ∧ ccQt W (m₁ 0 i) w l ∧
      (ccQt W (mc 0 i) w l → m₁ 0 i = mc 0 i ∧ m₂ 4 0 3 = mm 4 0 3 ∧ v = t) ∧ ((∃ p, p < 96 ∧ ccBdl W (mc 0 i) w l p = true) → t < v) := by
  intro q
  induction q with
  | zero =>
    intro r h₁ mc mm h t q₀ h₂
    have b₁ : w ≤ 12 := q₀.1.1.2.2.2.2.1
    have b₂ : l ≤ 8 := q₀.1.1.2.2.2.2.2.2.1
    have b₃ : n ≤ 40 := q₀.1.1.2.2.2.2.2.2.2
    have cd : ccCd n (mc 0 i) := ccCd_of q₀.1.2.2.2.2.2.1.2.1
    have nop : ∀ p, p < 96 → ccP (mc 0 i) p = false := fun p g₁ => ccCnt_zero 96 (by omega) p g₁
    have qt : ccQt W (mc 0 i) w l := fun p g₁ => by unfold ccBdl; rw [nop p g₁]; rfl
    have fs : ccFst (ccBdl W (mc 0 i) w l) 96 0 = I (-1) := by
      have e₁ := ccFst_skip (f := ccBdl W (mc 0 i) w l) 96 0 0 (fun p _ g₂ => qt p (by omega))
      exact e₁
    obtain ⟨m₂, a₁, a₂, a₃⟩ := ccE213 cd q₀.2.2.2.2 (ccJ_wm q₀)
    have qm : ∀ g rs, bV (F213 mm rs) (fun m r₁ => bI (F217 (N 0) m r₁) (fun v₁ m r₁ => F212_10 (g + 0 + 1) v₁ m r₁)) = rV m₂ rs := fun g rs => by
      have j₂ := ccJ_sc q₀ ccFs_rfl a₂
      rw [a₁]
      show bI (F217 (N 0) m₂ rs) _ = _
      rw [ccE217l (ccJ_wm j₂) cd (ccSs_of j₂.1.2.2.2.2.2.1.2.2.1) a₃ q₀.1.2.2.2.2.2.2.1, fs]
      show F212_10 (g + 0 + 1) (I (-1)) m₂ rs = _
      rw [ccL212_10]
      simp (disch := omega) only [true_and, and_true, false_and, and_false, if_true, if_false, ccIte, ccBi, ccBiX, ccBv, ccBvX, ccZ0, ccZ1, ccTZ, ccT0, ccT1, Bool.or_false, ccMckT, ccMckIn, ne_eq, not_true_eq_false, not_false_eq_true, if_pos, if_neg, reduceIte, eq_self, Bool.false_eq_true, Bool.true_eq_false, mix_N, N_add, N_mul, N_sub, N_div, ccMod, N_lt, N_le, N_eq, ccNm, ccMN, ccNm2, ccM2N, ccMM2, ccM2M, ccMlt, ccMle, ccNltM, ccNleM, ccM2lt, ccM2le, ccNlt2, ccNle2, Nat.reduceAdd, Nat.reduceMul, Nat.reduceSub, Nat.reduceLT, Nat.reduceLeDiff, Nat.reduceEqDiff, Nat.reduceDiv, Nat.reduceMod]
    by_cases g₁ : r = 96
    · subst g₁
      refine ⟨mc, m₂, h, t, fun f x rs => ?_, qm, ccJ_sc q₀ ccFs_rfl a₂, ccG_rfl, ccFr_rfl, ccFt_fq a₂, qt, fun _ => ⟨rfl, ccFt_3 a₂, rfl⟩, fun ⟨p, y₁, y₂⟩ => by rw [qt p y₁] at y₂; cases y₂⟩
      rw [ccL19_10]
      simp (disch := omega) only [true_and, and_true, false_and, and_false, if_true, if_false, ccIte, ccBi, ccBiX, ccBv, ccBvX, ccZ0, ccZ1, ccTZ, ccT0, ccT1, Bool.or_false, ccMckT, ccMckIn, ne_eq, not_true_eq_false, not_false_eq_true, if_pos, if_neg, reduceIte, eq_self, Bool.false_eq_true, Bool.true_eq_false, mix_N, N_add, N_mul, N_sub, N_div, ccMod, N_lt, N_le, N_eq, ccNm, ccMN, ccNm2, ccM2N, ccMM2, ccM2M, ccMlt, ccMle, ccNltM, ccNleM, ccM2lt, ccM2le, ccNlt2, ccNle2, Nat.reduceAdd, Nat.reduceMul, Nat.reduceSub, Nat.reduceLT, Nat.reduceLeDiff, Nat.reduceEqDiff, Nat.reduceDiv, Nat.reduceMod]
    · obtain ⟨m₁, c₁, c₂, c₃⟩ := ccE85 (ccStd_sup q₀.2.1 b₁ b₂) cd q₀.2.2.2.2 (ccJ_wc q₀)
      refine ⟨m₁, m₂, h, t, fun f x rs => ?_, qm, ccJ_sc q₀ c₂ a₂, by rw [ccFs_0 c₂]; exact ccG_rfl, ccFs_fr c₂, ccFt_fq a₂, by rw [ccFs_0 c₂]; exact qt, fun _ => ⟨ccFs_0 c₂, ccFt_3 a₂, rfl⟩, fun ⟨p, y₁, y₂⟩ => by rw [qt p y₁] at y₂; cases y₂⟩
      have e₁ : F20 i mc rs = rI (I (-1)) m₁ rs := by
        obtain ⟨g, hg⟩ := ccFU (k := 96) (by omega)
        unfold F20
        rw [c₁]
        show F20_10 i FU (N 0) m₁ rs = _
        rw [hg, ccL20 (ccFs_0 c₂) cd b₃ c₃ q₀.1.2.2.2.2.2.2.1 96 0 g rs (by omega), fs]
      rw [ccL19_10, e₁]
      simp (disch := omega) only [true_and, and_true, false_and, and_false, if_true, if_false, ccIte, ccBi, ccBiX, ccBv, ccBvX, ccZ0, ccZ1, ccTZ, ccT0, ccT1, Bool.or_false, ccMckT, ccMckIn, ne_eq, not_true_eq_false, not_false_eq_true, if_pos, if_neg, reduceIte, eq_self, Bool.false_eq_true, Bool.true_eq_false, mix_N, N_add, N_mul, N_sub, N_div, ccMod, N_lt, N_le, N_eq, ccNm, ccMN, ccNm2, ccM2N, ccMM2, ccM2M, ccMlt, ccMle, ccNltM, ccNleM, ccM2lt, ccM2le, ccNlt2, ccNle2, Nat.reduceAdd, Nat.reduceMul, Nat.reduceSub, Nat.reduceLT, Nat.reduceLeDiff, Nat.reduceEqDiff, Nat.reduceDiv, Nat.reduceMod]
  | succ q i₁ =>
    intro r h₁ mc mm h t q₀ h₂
    have b₁ : w ≤ 12 := q₀.1.1.2.2.2.2.1
    have b₂ : l ≤ 8 := q₀.1.1.2.2.2.2.2.2.1
    have b₃ : n ≤ 40 := q₀.1.1.2.2.2.2.2.2.2
    have cd : ccCd n (mc 0 i) := ccCd_of q₀.1.2.2.2.2.2.1.2.1
    obtain ⟨m₂, a₁, a₂, a₃⟩ := ccE213 cd q₀.2.2.2.2 (ccJ_wm q₀)
    obtain ⟨m₁, c₁, c₂, c₃⟩ := ccE85 (ccStd_sup q₀.2.1 b₁ b₂) cd q₀.2.2.2.2 (ccJ_wc q₀)
    have j₂ := ccJ_sc q₀ c₂ a₂
    have e₁ : ∀ rs, F20 i mc rs = rI (ccFst (ccBdl W (mc 0 i) w l) 96 0) m₁ rs := fun rs => by
      obtain ⟨g, hg⟩ := ccFU (k := 96) (by omega)
      unfold F20
      rw [c₁]
      show F20_10 i FU (N 0) m₁ rs = _
      rw [hg, ccL20 (ccFs_0 c₂) cd b₃ c₃ q₀.1.2.2.2.2.2.2.1 96 0 g rs (by omega)]
    have e₂ : ∀ rs, F217 (N 0) m₂ rs = rI (ccFst (ccBdl W (mc 0 i) w l) 96 0) m₂ rs := fun rs => by
      have j₃ := ccJ_sc q₀ ccFs_rfl a₂
      exact ccE217l (ccJ_wm j₃) cd (ccSs_of j₃.1.2.2.2.2.2.1.2.2.1) a₃ q₀.1.2.2.2.2.2.2.1
    rcases ccFst_is (f := ccBdl W (mc 0 i) w l) 96 0 with fs | ⟨p, fs, p₁, p₂, p₃⟩
    · have qt : ccQt W (mc 0 i) w l := fun p g₁ => ccFst_no 96 0 fs (by omega) p (by omega) (by omega)
      refine ⟨m₁, m₂, h, t, fun f x rs => ?_, fun g rs => ?_, j₂, by rw [ccFs_0 c₂]; exact ccG_rfl, ccFs_fr c₂, ccFt_fq a₂, by rw [ccFs_0 c₂]; exact qt, fun _ => ⟨ccFs_0 c₂, ccFt_3 a₂, rfl⟩, fun ⟨p, y₁, y₂⟩ => by rw [qt p y₁] at y₂; cases y₂⟩
      · rw [ccL19_10, e₁, fs]
        simp (disch := omega) only [true_and, and_true, false_and, and_false, if_true, if_false, ccIte, ccBi, ccBiX, ccBv, ccBvX, ccZ0, ccZ1, ccTZ, ccT0, ccT1, Bool.or_false, ccMckT, ccMckIn, ne_eq, not_true_eq_false, not_false_eq_true, if_pos, if_neg, reduceIte, eq_self, Bool.false_eq_true, Bool.true_eq_false, mix_N, N_add, N_mul, N_sub, N_div, ccMod, N_lt, N_le, N_eq, ccNm, ccMN, ccNm2, ccM2N, ccMM2, ccM2M, ccMlt, ccMle, ccNltM, ccNleM, ccM2lt, ccM2le, ccNlt2, ccNle2, Nat.reduceAdd, Nat.reduceMul, Nat.reduceSub, Nat.reduceLT, Nat.reduceLeDiff, Nat.reduceEqDiff, Nat.reduceDiv, Nat.reduceMod]
      · rw [a₁]
        show bI (F217 (N 0) m₂ rs) _ = _
        rw [e₂, fs]
        show F212_10 (g + (q + 1) + 1) (I (-1)) m₂ rs = _
        rw [ccL212_10]
        simp (disch := omega) only [true_and, and_true, false_and, and_false, if_true, if_false, ccIte, ccBi, ccBiX, ccBv, ccBvX, ccZ0, ccZ1, ccTZ, ccT0, ccT1, Bool.or_false, ccMckT, ccMckIn, ne_eq, not_true_eq_false, not_false_eq_true, if_pos, if_neg, reduceIte, eq_self, Bool.false_eq_true, Bool.true_eq_false, mix_N, N_add, N_mul, N_sub, N_div, ccMod, N_lt, N_le, N_eq, ccNm, ccMN, ccNm2, ccM2N, ccMM2, ccM2M, ccMlt, ccMle, ccNltM, ccNleM, ccM2lt, ccM2le, ccNlt2, ccNle2, Nat.reduceAdd, Nat.reduceMul, Nat.reduceSub, Nat.reduceLT, Nat.reduceLeDiff, Nat.reduceEqDiff, Nat.reduceDiv, Nat.reduceMod]
    · have p₄ : mc 0 i 2 p ≠ I (-1) := by
        unfold ccBdl ccP at p₃
        simp only [Bool.and_eq_true, Bool.not_eq_true', decide_eq_false_iff_not] at p₃
        exact p₃.1
      obtain ⟨p₅, p₆⟩ := (q₀.1.2.2.2.2.2.2.1 p (by omega)).1 p₄
      have p₇ : 12 * (p / 12) + p % 12 = p := by omega
      obtain ⟨m₃, m₄, f₁, f₂, f₃, f₄⟩ := ccFallP (L := p / 12) (c := p % 12) (cs := 0) (x := I (-1)) j₂.1 p₅ p₆ (by rw [p₇, ccFs_0 c₂]; exact p₄) (by omega)
      rw [p₇] at f₂ f₄
      obtain ⟨u, v, j₃, g₃⟩ := ccJ_beh j₂ f₃
      rw [ccFs_0 c₂] at g₃
      obtain ⟨g₄, g₅⟩ := ccG_less g₃ (by omega) p₄ f₄
      obtain ⟨m₅, m₆, u₂, v₂, k₁, k₂, k₃, k₄, k₅, k₆, k₇, k₈, k₉⟩ := i₁ (r + 1) (by omega) m₃ m₄ u v j₃ (by omega)
      have g₆ := ccG_le k₄
      refine ⟨m₅, m₆, u₂, v₂, fun f x rs => ?_, fun g rs => ?_, k₃, ccG_trans g₃ k₄, ccFr_trans (ccFs_fr c₂) (ccFr_trans f₃.2.1 k₅), ccFq_trans (ccFt_fq a₂) (ccFq_trans f₃.2.2.1 k₆), k₇, fun y₁ => ?_, fun _ => by omega⟩
      · have e₃ : f + (q + 1) + 1 = f + q + 1 + 1 := by omega
        rw [e₃, ccL19_10, e₁, fs]
        simp (disch := omega) only [ccE111, ccE112, f₁, true_and, and_true, false_and, and_false, if_true, if_false, ccIte, ccBi, ccBiX, ccBv, ccBvX, ccZ0, ccZ1, ccTZ, ccT0, ccT1, Bool.or_false, ccMckT, ccMckIn, ne_eq, not_true_eq_false, not_false_eq_true, if_pos, if_neg, reduceIte, eq_self, Bool.false_eq_true, Bool.true_eq_false, mix_N, N_add, N_mul, N_sub, N_div, ccMod, N_lt, N_le, N_eq, ccNm, ccMN, ccNm2, ccM2N, ccMM2, ccM2M, ccMlt, ccMle, ccNltM, ccNleM, ccM2lt, ccM2le, ccNlt2, ccNle2, Nat.reduceAdd, Nat.reduceMul, Nat.reduceSub, Nat.reduceLT, Nat.reduceLeDiff, Nat.reduceEqDiff, Nat.reduceDiv, Nat.reduceMod]
        exact k₁ f x rs
      · have e₃ : g + (q + 1) + 1 = g + q + 1 + 1 := by omega
        rw [a₁]
        show bI (F217 (N 0) m₂ rs) _ = _
        rw [e₂, fs]
        show F212_10 (g + (q + 1) + 1) (N p) m₂ rs = _
        rw [e₃, ccL212_10]
        simp (disch := omega) only [f₂, true_and, and_true, false_and, and_false, if_true, if_false, ccIte, ccBi, ccBiX, ccBv, ccBvX, ccZ0, ccZ1, ccTZ, ccT0, ccT1, Bool.or_false, ccMckT, ccMckIn, ne_eq, not_true_eq_false, not_false_eq_true, if_pos, if_neg, reduceIte, eq_self, Bool.false_eq_true, Bool.true_eq_false, mix_N, N_add, N_mul, N_sub, N_div, ccMod, N_lt, N_le, N_eq, ccNm, ccMN, ccNm2, ccM2N, ccMM2, ccM2M, ccMlt, ccMle, ccNltM, ccNleM, ccM2lt, ccM2le, ccNlt2, ccNle2, Nat.reduceAdd, Nat.reduceMul, Nat.reduceSub, Nat.reduceLT, Nat.reduceLeDiff, Nat.reduceEqDiff, Nat.reduceDiv, Nat.reduceMod]
        exact k₂ g rs
      · rw [y₁ p (by omega)] at p₃
        cases p₃
