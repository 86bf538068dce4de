/-! A FALL of the class and one of the reference go together. -/
theorem ccRn_V {s : Nat → Int32} {t p kd cs q : Nat} {v : Int32} (h₁ : 7 < q) (h₂ : q < 768) (h₃ : cs < 4) : ccV (ccRn s t p kd cs) q v = ccRn (ccV s q v) t p kd cs := by
  funext q₁
  by_cases h₄ : q₁ = q
  · subst h₄
    simp (disch := omega) only [ccRn, ccV, if_pos, if_neg, Nat.reduceEqDiff, eq_self, true_and, and_true, false_and, and_false, if_true, if_false]
  · simp (disch := omega) only [ccRn, ccV, if_neg, Nat.reduceEqDiff, eq_self, true_and, and_true, false_and, and_false, if_true, if_false]
theorem ccRn_o {s : Nat → Int32} {t p kd cs q : Nat} (h₁ : 7 ≤ q) (h₂ : q < 768) (h₃ : cs < 4) : ccRn s t p kd cs q = s q := by
  simp (disch := omega) only [ccRn, ccV, if_neg, Nat.reduceEqDiff, eq_self, true_and, and_true, false_and, and_false, if_true, if_false]
theorem ccR_a {X : Nat → Bool} {n h t k : Nat} {β wt : Nat → Int32} {C : Nat → Nat → Int32} {s : Nat → Int32} (h₁ : ccR X n β wt h t C s) (h₂ : k < n) : ∃ z, C 11 k = N z ∧ s (8 + 6 * k) = N z ∧ 1 ≤ z ∧ z ≤ 9 := by
  obtain ⟨⟨e₁, e₂, z, y, e₃, e₄, e₅, e₆, e₇⟩, _⟩ := h₁.2.2.1 k h₂
  exact ⟨z, e₃, by rw [e₁, e₃], e₆, by omega⟩
theorem ccR_hh {X : Nat → Bool} {n h t : Nat} {β wt : Nat → Int32} {C : Nat → Nat → Int32} {s : Nat → Int32} (h₁ : ccR X n β wt h t C s) : C 10 5 = N h ∧ s 7 = N h := ⟨h₁.2.2.2.1.2.1, h₁.2.2.2.1.2.2.1⟩
theorem ccR_tt {X : Nat → Bool} {n h t : Nat} {β wt : Nat → Int32} {C : Nat → Nat → Int32} {s : Nat → Int32} (h₁ : ccR X n β wt h t C s) : C 7 2 = N t ∧ s 1 = N t := ⟨h₁.2.2.2.2.1.1, h₁.2.2.2.2.1.2.1⟩
/-- one card falls, on both sides -/
theorem ccDropSim {X Y : Nat → Bool} {mc mm : mMi} {i w l n bd h t L p k : Nat} {x : Int32} {β wt : Nat → Int32} (q₁ : mc 1 (RO i) 1 5 = N bd) (q₂ : mm 4 0 0 7 = N bd) (q₃ : bd ≤ 8) (q₄ : n ≤ 40) (h₁ : ccR X n β wt h t (mc 0 i) (mm 4 0 3)) (h₂ : L < 8) (h₃ : p < 96) (h₄ : p / 12 = L) (h₅ : k < n) (h₆ : X k = true) (h₇ : ∀ j, j ≠ k → X j = Y j) (h₈ : Y k = false) :
    ∃ m₁ m₂ u, (∀ rs, F27 i (N k) (N L) x mc rs = rV m₁ rs) ∧ (∀ rs, F226 (N k) (N p) x mm rs = rV m₂ rs) ∧ ccFr i mc m₁ ∧ ccFq mm m₂ ∧ m₂ 4 0 14 = mm 4 0 14 ∧ m₂ 4 0 0 = mm 4 0 0 ∧ ccR Y n β wt u t (m₁ 0 i) (m₂ 4 0 3) ∧ (∀ j p₁, j < 8 → m₁ 0 i j p₁ = mc 0 i j p₁) ∧ (∀ q, 247 < q → q < 728 → m₂ 4 0 3 q = mm 4 0 3 q) := by
  obtain ⟨z, e₁, e₂, e₃, e₄⟩ := ccR_a h₁ h₅
  obtain ⟨e₅, e₆⟩ := ccR_hh h₁
  have e₇ := ccR_hX h₁ h₅ h₆
  obtain ⟨u, r₁⟩ := ccR_d (bd := bd) (L := L) (g := decide (N k = x)) h₁ q₄ h₅ h₆ h₇ h₈ e₁ e₄
  refine ⟨ccDrop mc i bd L k h z (decide (N k = x)), ccDropM mm bd L k h z (decide (N k = x)), u, fun rs => ccE27 q₁ q₃ h₂ (by omega) e₅ (by omega) e₁ e₃ e₄, fun rs => ?_, ccDrop_fr, ccDropM_fq, ccDropM_w (by omega), ccDropM_w (by omega), ?_, fun j p₁ g₁ => ?_, fun q g₁ g₂ => ?_⟩
  · rw [ccE226 q₂ q₃ h₃ (by omega) e₆ (by omega) e₂ e₃ e₄, h₄]
  · rw [ccDrop_C, ccDropM_s]
    exact r₁
  · rw [ccDrop_C, ccKd_o (by omega) (by omega) (by omega) (by omega) (by omega)]
  · rw [ccDropM_s, ccSd_o (by omega) (by omega) (by omega) (by omega) (by omega) (by omega) (by omega)]
theorem ccStepP {mc mm : mMi} {i w l n bd h t L c cs : Nat} {x : Int32} {β wt : Nat → Int32} (q₁ : ccRu mc (RO i) w l n) (q₂ : mc 1 (RO i) 1 5 = N bd) (q₃ : ccMo mm w l n) (q₄ : mm 4 0 0 7 = N bd) (q₅ : bd ≤ 8) (q₆ : ccR ccX0 n β wt h t (mc 0 i) (mm 4 0 3)) (h₁ : t < 1000000000) (h₂ : L < l) (h₃ : L + c < w) (h₄ : mc 0 i 2 (12 * L + c) ≠ I (-1)) (h₅ : cs < 4) :
    ∃ m₁ m₂ u, (∀ f rs, FR (f + 1) 26 i (N L) (N c) (N cs) x mc rs = bV (FR f 28 i (N (L + 1)) (N c - N 1) (N 2) (I (-1)) m₁ rs) (fun m₃ r₃ => bV (FR f 28 i (N (L + 1)) (N c) (N 2) (I (-1)) m₃ r₃) (fun m₄ r₄ => rV m₄ r₄))) ∧
      (∀ (rs : mRs) (k : mMi → mRs → mRz), bV (F223 (N (12 * L + c)) (N 0) (N cs) mm rs) (fun m₃ r₃ => bV (F225 (N (12 * L + c)) (N 0) x m₃ r₃) k) = bV (F227 (N (L + 1)) (N c) (N 1) m₂ rs) (fun m₃ r₃ => bV (F227 (N (L + 1)) (N c - N 1) (N 1) m₃ r₃) k)) ∧
      ccFr i mc m₁ ∧ ccFq mm m₂ ∧ m₂ 4 0 14 = mm 4 0 14 ∧ m₂ 4 0 0 = mm 4 0 0 ∧ ccR ccX0 n β wt u (t + 1) (m₁ 0 i) (m₂ 4 0 3) ∧ (∀ j p, j < 8 → j ≠ 7 → m₁ 0 i j p = ccU (mc 0 i) 2 (12 * L + c) (I (-1)) j p) := by
  have b₁ : w ≤ 12 := q₁.2.2.2.2.1
  have b₂ : l ≤ 8 := q₁.2.2.2.2.2.2.1
  have b₃ : n ≤ 40 := q₁.2.2.2.2.2.2.2
  have b₄ : 12 * L + c < 96 := by omega
  have b₅ : (12 * L + c) / 12 = L := by omega
  have b₆ : (12 * L + c) % 12 = c := by omega
  have b₇ : 12 * L + c - L * 12 = c := by omega
  obtain ⟨a, b, f₁, f₂, f₃, f₄, f₅, f₆, f₇, r₁⟩ := ccR_p q₆ b₄ b₃ h₄
  have r₂ := ccR_n (L := L) (c := c) (kd := 0) r₁ b₃ h₅ (by omega) (by omega) (by omega) h₁
  obtain ⟨m₅, g₅⟩ : ∃ m, m = ccNote (mset mc 0 i 2 (12 * L + c) (I (-1))) i t (mc 0 i 0 5) L c 0 cs := ⟨_, rfl⟩
  have c₅ : m₅ 0 i = ccKn (ccU (mc 0 i) 2 (12 * L + c) (I (-1))) t L c 0 cs := by
    rw [g₅, ccNote_C (by rw [ccRd, if_neg (by omega)]), ccU_set]
  have d₅ : ccFr i mc m₅ := by rw [g₅]; exact ccFr_trans (ccFr_set ccFr_rfl) ccNote_fr
  obtain ⟨m₆, g₆⟩ : ∃ m, m = mset (ccNoteM mm t (12 * L + c) 0 cs) 4 0 3 (248 + 4 * (12 * L + c)) (I (-1)) := ⟨_, rfl⟩
  have c₆ : m₆ 4 0 3 = ccRn (ccV (mm 4 0 3) (248 + 4 * (12 * L + c)) (I (-1))) t (12 * L + c) 0 cs := by
    rw [g₆, ccV_set, ccNoteM_s, ccRn_V (by omega) (by omega) h₅]
  have d₆ : ccFq mm m₆ := by rw [g₆]; exact ccFq_set ccNoteM_fq (by omega)
  have w₆ : m₆ 4 0 14 = mm 4 0 14 := by
    rw [g₆]
    funext y₁
    rw [ccRd, if_neg (by omega), ccNoteM_w (by omega)]
  have v₆ : m₆ 4 0 0 = mm 4 0 0 := by
    rw [g₆]
    funext y₁
    rw [ccRd, if_neg (by omega), ccNoteM_w (by omega)]
  rw [← c₅, ← c₆] at r₂
  obtain ⟨m₇, m₈, u₁, s₁, s₂, d₇, d₈, w₈, v₈, r₃, o₇, o₈⟩ := ccDropSim (x := x) (Y := ccX1 b) (w := w) (l := l) (by rw [d₅ 1 (RO i) 1 5 (by omega) (by omega)]; exact q₂) (by rw [v₆]; exact q₄) q₅ b₃ r₂ (by omega) b₄ b₅ f₁ (by simp only [ccX2, decide_true, Bool.true_or]) (fun j y₁ => by simp only [ccX2, ccX1, y₁, decide_false, Bool.false_or]) (by simp only [ccX1]; exact decide_eq_false f₃)
  obtain ⟨m₉, m₀, u₂, s₃, s₄, d₉, d₀, w₀, v₀, r₄, o₉, o₀⟩ := ccDropSim (x := x) (Y := ccX0) (w := w) (l := l) (by rw [d₇ 1 (RO i) 1 5 (by omega) (by omega), d₅ 1 (RO i) 1 5 (by omega) (by omega)]; exact q₂) (by rw [v₈, v₆]; exact q₄) q₅ b₃ r₃ (by omega) b₄ b₅ f₂ (by simp only [ccX1, decide_true]) (fun j y₁ => by simp only [ccX1, ccX0, y₁, decide_false]) rfl
  refine ⟨m₉, m₀, u₂, fun f rs => ?_, fun rs k => ?_, ccFr_trans d₅ (ccFr_trans d₇ d₉), ccFq_trans d₆ (ccFq_trans d₈ d₀), by rw [w₀, w₈, w₆], by rw [v₀, v₈, v₆], r₄, fun j p y₁ y₂ => ?_⟩
  · have e₁ : ccP (mc 0 i) (12 * L + c) = true := by unfold ccP; rw [decide_eq_false h₄]; rfl
    have e₂ : ∀ r₁, F45 i (mc 0 i 0 5) (N L) (N c) (N 0) (N cs) (mset mc 0 i 2 (12 * L + c) (I (-1))) r₁ = rV m₅ r₁ := fun r₁ => by
      rw [g₅]
      exact ccE45 (by rw [ccRd, if_neg (by omega)]; exact (ccR_tt q₆).1) h₁ h₅
    have e₃ : ccSp w l L c = N (12 * L + c) := by unfold ccSp; rw [if_pos ⟨h₂, h₃⟩]
    simp (disch := omega) only [ccFR26, ccE81 q₁, e₃, ccE51, e₁, e₂, f₄, f₅, s₁, s₃, true_and, and_true, false_and, and_false, if_true, if_false, ccIte, ccBi, ccBiX, ccBv, ccBvX, ccZ0, ccZ1, ccTZ, ccT0, ccT1, Bool.or_false, ccMckT, ccMckIn, ne_eq, not_true_eq_false, not_false_eq_true, if_pos, if_neg, reduceIte, eq_self, Bool.false_eq_true, Bool.true_eq_false, mix_N, N_add, N_mul, N_sub, N_div, ccMod, N_lt, N_le, N_eq, ccNm, ccMN, ccNm2, ccM2N, ccMM2, ccM2M, ccMlt, ccMle, ccNltM, ccNleM, ccM2lt, ccM2le, ccNlt2, ccNle2, Nat.reduceAdd, Nat.reduceMul, Nat.reduceSub, Nat.reduceLT, Nat.reduceLeDiff, Nat.reduceEqDiff, Nat.reduceDiv, Nat.reduceMod]
  · have e₁ : ∀ r₁, F223 (N (12 * L + c)) (N 0) (N cs) mm r₁ = rV (ccNoteM mm t (12 * L + c) 0 cs) r₁ := fun r₁ => ccE223 (ccR_tt q₆).2 h₁ h₅ (by omega) b₄
    have e₂ : ccNoteM mm t (12 * L + c) 0 cs 4 0 3 (248 + 4 * (12 * L + c)) = N a := by rw [ccNoteM_s, ccRn_o (by omega) (by omega) h₅]; exact f₆
    have e₃ : ccNoteM mm t (12 * L + c) 0 cs 4 0 3 (249 + 4 * (12 * L + c)) = N b := by rw [ccNoteM_s, ccRn_o (by omega) (by omega) h₅]; exact f₇
    rw [e₁]
    show bV (F225 (N (12 * L + c)) (N 0) x (ccNoteM mm t (12 * L + c) 0 cs) rs) k = _
    unfold F225
    simp (disch := omega) only [ccE201a, ccE201b, e₂, e₃, ccE206a, ← g₆, s₂, s₄, ccBvA, b₅, b₆, b₇, true_and, and_true, false_and, and_false, if_true, if_false, ccIte, ccBi, ccBiX, ccBv, ccBvX, ccZ0, ccZ1, ccTZ, ccT0, ccT1, Bool.or_false, ccMckT, ccMckIn, ne_eq, not_true_eq_false, not_false_eq_true, if_pos, if_neg, reduceIte, eq_self, Bool.false_eq_true, Bool.true_eq_false, mix_N, N_add, N_mul, N_sub, N_div, ccMod, N_lt, N_le, N_eq, ccNm, ccMN, ccNm2, ccM2N, ccMM2, ccM2M, ccMlt, ccMle, ccNltM, ccNleM, ccM2lt, ccM2le, ccNlt2, ccNle2, Nat.reduceAdd, Nat.reduceMul, Nat.reduceSub, Nat.reduceLT, Nat.reduceLeDiff, Nat.reduceEqDiff, Nat.reduceDiv, Nat.reduceMod]
  · rw [o₉ j p y₁, o₇ j p y₁, c₅]
    simp (disch := omega) only [ccKn, ccU, if_neg, Nat.reduceEqDiff, eq_self, true_and, and_true, false_and, and_false, if_true, if_false]
theorem ccStepF {mc mm : mMi} {i w l n bd h t L c cs : Nat} {x : Int32} {β wt : Nat → Int32} (q₁ : ccRu mc (RO i) w l n) (q₂ : mc 1 (RO i) 1 5 = N bd) (q₃ : ccMo mm w l n) (q₄ : mm 4 0 0 7 = N bd) (q₅ : bd ≤ 8) (q₆ : ccR ccX0 n β wt h t (mc 0 i) (mm 4 0 3)) (h₁ : t < 1000000000) (h₂ : L < l) (h₃ : L + c < w) (h₄ : mc 0 i 6 (12 * L + c) ≠ I (-1)) (h₅ : cs < 4) :
    ∃ m₁ m₂ u, (∀ f rs, FR (f + 1) 28 i (N L) (N c) (N cs) x mc rs = bV (FR f 26 i (N L) (N c) (N 2) (I (-1)) m₁ rs) (fun m₄ r₄ => rV m₄ r₄)) ∧
      (∀ (rs : mRs) (k : mMi → mRs → mRz), bV (F223 (N (12 * L + c)) (N 1) (N cs) mm rs) (fun m₃ r₃ => bV (F225 (N (12 * L + c)) (N 1) x m₃ r₃) k) = bV (F227 (N L) (N c) (N 0) m₂ rs) k) ∧
      ccFr i mc m₁ ∧ ccFq mm m₂ ∧ m₂ 4 0 14 = mm 4 0 14 ∧ m₂ 4 0 0 = mm 4 0 0 ∧ ccR ccX0 n β wt u (t + 1) (m₁ 0 i) (m₂ 4 0 3) ∧ (∀ j p, j < 8 → j ≠ 7 → m₁ 0 i j p = ccU (mc 0 i) 6 (12 * L + c) (I (-1)) j p) := by
  have b₁ : w ≤ 12 := q₁.2.2.2.2.1
  have b₂ : l ≤ 8 := q₁.2.2.2.2.2.2.1
  have b₃ : n ≤ 40 := q₁.2.2.2.2.2.2.2
  have b₄ : 12 * L + c < 96 := by omega
  have b₅ : (12 * L + c) / 12 = L := by omega
  have b₆ : (12 * L + c) % 12 = c := by omega
  have b₇ : 12 * L + c - L * 12 = c := by omega
  obtain ⟨a, f₁, f₄, f₆, r₁⟩ := ccR_f q₆ b₄ b₃ h₄
  have r₂ := ccR_n (L := L) (c := c) (kd := 1) r₁ b₃ h₅ (by omega) (by omega) (by omega) h₁
  obtain ⟨m₅, g₅⟩ : ∃ m, m = ccNote (mset mc 0 i 6 (12 * L + c) (I (-1))) i t (mc 0 i 0 5) L c 1 cs := ⟨_, rfl⟩
  have c₅ : m₅ 0 i = ccKn (ccU (mc 0 i) 6 (12 * L + c) (I (-1))) t L c 1 cs := by
    rw [g₅, ccNote_C (by rw [ccRd, if_neg (by omega)]), ccU_set]
  have d₅ : ccFr i mc m₅ := by rw [g₅]; exact ccFr_trans (ccFr_set ccFr_rfl) ccNote_fr
  obtain ⟨m₆, g₆⟩ : ∃ m, m = mset (ccNoteM mm t (12 * L + c) 1 cs) 4 0 3 (632 + (12 * L + c)) (I (-1)) := ⟨_, rfl⟩
  have c₆ : m₆ 4 0 3 = ccRn (ccV (mm 4 0 3) (632 + (12 * L + c)) (I (-1))) t (12 * L + c) 1 cs := by
    rw [g₆, ccV_set, ccNoteM_s, ccRn_V (by omega) (by omega) h₅]
  have d₆ : ccFq mm m₆ := by rw [g₆]; exact ccFq_set ccNoteM_fq (by omega)
  have w₆ : m₆ 4 0 14 = mm 4 0 14 := by
    rw [g₆]
    funext y₁
    rw [ccRd, if_neg (by omega), ccNoteM_w (by omega)]
  have v₆ : m₆ 4 0 0 = mm 4 0 0 := by
    rw [g₆]
    funext y₁
    rw [ccRd, if_neg (by omega), ccNoteM_w (by omega)]
  rw [← c₅, ← c₆] at r₂
  obtain ⟨m₉, m₀, u₂, s₃, s₄, d₉, d₀, w₀, v₀, r₄, o₉, o₀⟩ := ccDropSim (x := x) (Y := ccX0) (w := w) (l := l) (by rw [d₅ 1 (RO i) 1 5 (by omega) (by omega)]; exact q₂) (by rw [v₆]; exact q₄) q₅ b₃ r₂ (by omega) b₄ b₅ f₁ (by simp only [ccX1, decide_true]) (fun j y₁ => by simp only [ccX1, ccX0, y₁, decide_false]) rfl
  refine ⟨m₉, m₀, u₂, fun f rs => ?_, fun rs k => ?_, ccFr_trans d₅ d₉, ccFq_trans d₆ d₀, by rw [w₀, w₆], by rw [v₀, v₆], r₄, fun j p y₁ y₂ => ?_⟩
  · have e₁ : ccF (mc 0 i) (12 * L + c) = true := by unfold ccF; rw [decide_eq_false h₄]; rfl
    have e₂ : ∀ r₁, F45 i (mc 0 i 0 5) (N L) (N c) (N 1) (N cs) (mset mc 0 i 6 (12 * L + c) (I (-1))) r₁ = rV m₅ r₁ := fun r₁ => by
      rw [g₅]
      exact ccE45 (by rw [ccRd, if_neg (by omega)]; exact (ccR_tt q₆).1) h₁ h₅
    have e₃ : ccSp w l L c = N (12 * L + c) := by unfold ccSp; rw [if_pos ⟨h₂, h₃⟩]
    simp (disch := omega) only [ccFR28, ccE81 q₁, e₃, ccE52, e₁, e₂, f₄, s₃, true_and, and_true, false_and, and_false, if_true, if_false, ccIte, ccBi, ccBiX, ccBv, ccBvX, ccZ0, ccZ1, ccTZ, ccT0, ccT1, Bool.or_false, ccMckT, ccMckIn, ne_eq, not_true_eq_false, not_false_eq_true, if_pos, if_neg, reduceIte, eq_self, Bool.false_eq_true, Bool.true_eq_false, mix_N, N_add, N_mul, N_sub, N_div, ccMod, N_lt, N_le, N_eq, ccNm, ccMN, ccNm2, ccM2N, ccMM2, ccM2M, ccMlt, ccMle, ccNltM, ccNleM, ccM2lt, ccM2le, ccNlt2, ccNle2, Nat.reduceAdd, Nat.reduceMul, Nat.reduceSub, Nat.reduceLT, Nat.reduceLeDiff, Nat.reduceEqDiff, Nat.reduceDiv, Nat.reduceMod]
  · have e₁ : ∀ r₁, F223 (N (12 * L + c)) (N 1) (N cs) mm r₁ = rV (ccNoteM mm t (12 * L + c) 1 cs) r₁ := fun r₁ => ccE223 (ccR_tt q₆).2 h₁ h₅ (by omega) b₄
    have e₂ : ccNoteM mm t (12 * L + c) 1 cs 4 0 3 (632 + (12 * L + c)) = N a := by rw [ccNoteM_s, ccRn_o (by omega) (by omega) h₅]; exact f₆
    rw [e₁]
    show bV (F225 (N (12 * L + c)) (N 1) x (ccNoteM mm t (12 * L + c) 1 cs) rs) k = _
    unfold F225
    simp (disch := omega) only [e₂, ← g₆, s₄, ccBvA, b₅, b₆, b₇, true_and, and_true, false_and, and_false, if_true, if_false, ccIte, ccBi, ccBiX, ccBv, ccBvX, ccZ0, ccZ1, ccTZ, ccT0, ccT1, Bool.or_false, ccMckT, ccMckIn, ne_eq, not_true_eq_false, not_false_eq_true, if_pos, if_neg, reduceIte, eq_self, Bool.false_eq_true, Bool.true_eq_false, mix_N, N_add, N_mul, N_sub, N_div, ccMod, N_lt, N_le, N_eq, ccNm, ccMN, ccNm2, ccM2N, ccMM2, ccM2M, ccMlt, ccMle, ccNltM, ccNleM, ccM2lt, ccM2le, ccNlt2, ccNle2, Nat.reduceAdd, Nat.reduceMul, Nat.reduceSub, Nat.reduceLT, Nat.reduceLeDiff, Nat.reduceEqDiff, Nat.reduceDiv, Nat.reduceMod]
  · rw [o₉ j p y₁, c₅]
    simp (disch := omega) only [ccKn, ccU, if_neg, Nat.reduceEqDiff, eq_self, true_and, and_true, false_and, and_false, if_true, if_false]
