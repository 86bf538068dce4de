/-! SETTLING as it is called; changes of angles, wobbles, time. -/
theorem ccE19 {i w l n bd h t : Nat} {β wt : Nat → Int32} {W : Nat → Nat} {mc mm : mMi} (q : ccJ mc mm i w l n bd β wt W h t) : ∃ m₁ m₂ u v, (∀ rs, F19 i mc rs = rI (N v - N t) m₁ rs) ∧ (∀ rs, F212 mm rs = rV m₂ rs) ∧ ccJ m₁ m₂ i w l n bd β wt W u v ∧ ccG (mc 0 i) (m₁ 0 i) t v ∧ ccFr i mc m₁ ∧ ccFq mm m₂ ∧ ccQt W (m₁ 0 i) w l ∧
      (ccQt W (mc 0 i) w l → m₁ 0 i = mc 0 i ∧ m₂ 4 0 3 = mm 4 0 3 ∧ v = t) ∧ ((∃ p, p < 96 ∧ ccBdl W (mc 0 i) w l p = true) → t < v) := by
  obtain ⟨m₁, m₂, u, v, k₁, k₂, k₃, k₄, k₅, k₆, k₇, k₈, k₉⟩ := ccSet 96 0 (by omega) mc mm h t q (ccCnt_le 96)
  refine ⟨m₁, m₂, u, v, fun rs => ?_, fun rs => ?_, k₃, k₄, k₅, k₆, k₇, k₈, k₉⟩
  · obtain ⟨g, hg⟩ := ccFU (k := 96) (by omega)
    have e₁ : m₁ 0 i 7 2 = N v := (ccR_tt k₃.1.2.2.2.2.2.1).1
    have e₂ : mc 0 i 7 2 = N t := (ccR_tt q.1.2.2.2.2.2.1).1
    unfold F19
    rw [hg, k₁, e₁, e₂]
  · obtain ⟨g, hg⟩ := ccFU (k := 96) (by omega)
    unfold F212
    rw [hg]
    exact k₂ g rs
theorem ccRE_ch {t : Nat} {C D : Nat → Nat → Int32} {s u : Nat → Int32} (h₁ : ccRE t C s) (c₁ : ∀ j p, j ≠ 4 → j ≠ 5 → ¬ (j = 0 ∧ (p = 5 ∨ p = 6)) → D j p = C j p) (c₂ : ∀ q, q ≠ 0 → q ≠ 6 → (∀ p, p < 96 → q ≠ 250 + 4 * p ∧ q ≠ 251 + 4 * p) → u q = s q) (c₄ : u 0 = D 0 5 ∧ u 6 = D 0 6 ∧ ∃ z, D 0 5 = N z ∧ z ≤ 9999) : ccRE t D u := by
  obtain ⟨e₁, e₂, e₃, e₄, e₅, e₆, e₇⟩ := h₁
  refine ⟨by rw [c₁ 7 2 (by omega) (by omega) (by omega)]; exact e₁, by rw [c₂ 1 (by omega) (by omega) (fun p _ => by omega)]; exact e₂, fun v g₁ g₂ => ⟨fun e g₃ => ?_, ?_⟩, fun v g₁ => ?_, c₄.1, c₄.2.1, c₄.2.2⟩
  · rw [c₁ 8 _ (by omega) (by omega) (by omega), c₂ _ (by omega) (by omega) (fun p _ => by omega)]
    exact (e₃ v g₁ g₂).1 e g₃
  · rw [c₁ 8 _ (by omega) (by omega) (by omega), c₁ 8 _ (by omega) (by omega) (by omega), c₁ 8 _ (by omega) (by omega) (by omega), c₁ 8 _ (by omega) (by omega) (by omega)]
    exact (e₃ v g₁ g₂).2
  · rw [c₁ 9 _ (by omega) (by omega) (by omega), c₂ _ (by omega) (by omega) (fun p _ => by omega)]
    exact e₄ v g₁
theorem ccR_ch {X : Nat → Bool} {n h t : Nat} {β wt : Nat → Int32} {C D : Nat → Nat → Int32} {s u : Nat → Int32} (h₁ : ccR X n β wt h t C s) (h₀ : n ≤ 40) (c₁ : ∀ j p, j ≠ 4 → j ≠ 5 → ¬ (j = 0 ∧ (p = 5 ∨ p = 6)) → D j p = C j p) (c₂ : ∀ q, q ≠ 0 → q ≠ 6 → (∀ p, p < 96 → q ≠ 250 + 4 * p ∧ q ≠ 251 + 4 * p) → u q = s q) (c₃ : ∀ p, p < 96 → C 2 p ≠ I (-1) → u (250 + 4 * p) = D 4 p ∧ u (251 + 4 * p) = D 5 p) (c₄ : u 0 = D 0 5 ∧ u 6 = D 0 6 ∧ ∃ z, D 0 5 = N z ∧ z ≤ 9999) : ccR X n β wt h t D u := by
  have g₁ := ccR_h h₁
  obtain ⟨r₁, r₂, r₃, r₄, r₅, r₆⟩ := h₁
  have e₂ : ∀ p, D 2 p = C 2 p := fun p => c₁ 2 p (by omega) (by omega) (by omega)
  have e₃ : ∀ p, D 3 p = C 3 p := fun p => c₁ 3 p (by omega) (by omega) (by omega)
  have e₆ : ∀ p, D 6 p = C 6 p := fun p => c₁ 6 p (by omega) (by omega) (by omega)
  have e₇ : ∀ p, D 13 p = C 13 p := fun p => c₁ 13 p (by omega) (by omega) (by omega)
  refine ⟨fun p y₁ => ?_, ⟨fun p y₁ y₂ => ?_, fun p y₁ y₂ => ?_⟩, fun k y₁ => ?_, ?_, ccRE_ch r₅ c₁ c₂ c₄, ?_⟩
  · obtain ⟨f₁, f₂, f₃⟩ := r₁ p y₁
    rw [e₂, e₆, e₃, c₂ (248 + 4 * p) (by omega) (by omega) (fun x _ => by omega), c₂ (632 + p) (by omega) (by omega) (fun x _ => by omega)]
    refine ⟨f₁, f₂, fun y₂ => ?_⟩
    rw [c₂ (249 + 4 * p) (by omega) (by omega) (fun x _ => by omega)]
    exact ⟨(f₃ y₂).1, c₃ p y₁ y₂⟩
  · rw [e₂] at y₂
    obtain ⟨a, b, f₁, f₂, f₃, f₄, f₅, f₆, f₇, f₈, f₉⟩ := r₂.1 p y₁ y₂
    refine ⟨a, b, f₁, f₂, f₃, by rw [e₂]; exact f₄, by rw [e₃]; exact f₅, by rw [e₇]; exact f₆, by rw [e₇]; exact f₇, ?_⟩
    rw [c₂ (9 + 6 * a) (by omega) (by omega) (fun x _ => by omega), c₂ (9 + 6 * b) (by omega) (by omega) (fun x _ => by omega)]
    exact ⟨f₈, f₉⟩
  · rw [e₆] at y₂
    obtain ⟨a, f₁, f₂, f₃, f₄⟩ := r₂.2 p y₁ y₂
    refine ⟨a, f₁, by rw [e₆]; exact f₂, by rw [e₇]; exact f₃, ?_⟩
    rw [c₂ (9 + 6 * a) (by omega) (by omega) (fun x _ => by omega)]
    exact f₄
  · have f₁ := r₃ k y₁
    rw [c₂ (8 + 6 * k) (by omega) (by omega) (fun x _ => by omega), c₂ (9 + 6 * k) (by omega) (by omega) (fun x _ => by omega), c₂ (10 + 6 * k) (by omega) (by omega) (fun x _ => by omega), c₂ (11 + 6 * k) (by omega) (by omega) (fun x _ => by omega), c₂ (12 + 6 * k) (by omega) (by omega) (fun x _ => by omega), c₁ 11 k (by omega) (by omega) (by omega), c₁ 12 k (by omega) (by omega) (by omega), e₇]
    simp only [e₂, e₃, e₆]
    exact f₁
  · obtain ⟨f₁, f₂, f₃, f₄, f₅⟩ := r₄
    refine ⟨?_, by rw [c₁ 10 5 (by omega) (by omega) (by omega)]; exact f₂, by rw [c₂ 7 (by omega) (by omega) (fun x _ => by omega)]; exact f₃, fun x y₁ => ?_, fun k y₁ => ?_⟩
    · simp only [e₇]
      exact f₁
    · rw [c₁ 14 x (by omega) (by omega) (by omega), c₂ (728 + x) (by omega) (by omega) (fun y _ => by omega)]
      exact f₄ x y₁
    · rw [e₇, ← f₅ k y₁]
      exact ccCnt_congr h fun x y₂ => by rw [c₁ 14 x (by omega) (by omega) (by omega)]
  · unfold ccRF at r₆ ⊢
    rw [ccSum_congr (g := ccW1 wt C) 96 (fun p _ => by unfold ccW1; rw [e₂, e₃, e₆]), ccSum_congr (f := ccW2 wt X u) (g := ccW2 wt X s) n (fun k y₁ => by unfold ccW2; rw [c₂ (9 + 6 * k) (by omega) (by omega) (fun x _ => by omega)])]
    exact r₆
theorem ccPcs_eq {C D : Nat → Nat → Int32} (h₁ : ∀ p, D 2 p = C 2 p) (h₂ : ∀ p, D 6 p = C 6 p) : ccPcs D = ccPcs C := by
  unfold ccPcs
  rw [ccCnt_congr (f := ccP D) (g := ccP C) 96 (fun p _ => by unfold ccP; rw [h₁]), ccCnt_congr (f := ccF D) (g := ccF C) 96 (fun p _ => by unfold ccF; rw [h₂])]
theorem ccJ_ch {mc mm m₁ m₂ : mMi} {i w l n bd h t : Nat} {β wt : Nat → Int32} {W : Nat → Nat} (q : ccJ mc mm i w l n bd β wt W h t) (h₁ : ccFr i mc m₁) (h₂ : ccFq mm m₂) (c₁ : ∀ j p, j ≠ 4 → j ≠ 5 → ¬ (j = 0 ∧ (p = 5 ∨ p = 6)) → m₁ 0 i j p = mc 0 i j p) (c₂ : ∀ q, q ≠ 0 → q ≠ 6 → (∀ p, p < 96 → q ≠ 250 + 4 * p ∧ q ≠ 251 + 4 * p) → m₂ 4 0 3 q = mm 4 0 3 q) (c₃ : ∀ p, p < 96 → mc 0 i 2 p ≠ I (-1) → m₂ 4 0 3 (250 + 4 * p) = m₁ 0 i 4 p ∧ m₂ 4 0 3 (251 + 4 * p) = m₁ 0 i 5 p) (c₄ : m₂ 4 0 3 0 = m₁ 0 i 0 5 ∧ m₂ 4 0 3 6 = m₁ 0 i 0 6 ∧ ∃ z, m₁ 0 i 0 5 = N z ∧ z ≤ 9999) : ccJ m₁ m₂ i w l n bd β wt W h t := by
  obtain ⟨⟨q₁, q₂, q₃, q₄, q₅, q₆, q₇, q₈⟩, a₁, a₂, a₃, a₄⟩ := q
  have b₃ : n ≤ 40 := q₁.2.2.2.2.2.2.2
  have e₂ : ∀ p, m₁ 0 i 2 p = mc 0 i 2 p := fun p => c₁ 2 p (by omega) (by omega) (by omega)
  have e₆ : ∀ p, m₁ 0 i 6 p = mc 0 i 6 p := fun p => c₁ 6 p (by omega) (by omega) (by omega)
  refine ⟨⟨ccRu_fr h₁ q₁, by rw [h₁ 1 (RO i) 1 5 (by omega) (by omega)]; exact q₂, ccMo_fq h₂ q₃, by rw [h₂ 4 0 0 7 (by omega) (by omega)]; exact q₄, q₅, ccR_ch q₆ b₃ c₁ c₂ c₃ c₄, fun p g₁ => by rw [e₂, e₆]; exact q₇ p g₁, by rw [ccPcs_eq e₂ e₆]; exact q₈⟩, fun p g₁ g₂ => ?_, fun k g₁ => by rw [h₁ 1 (RO i) 4 k (by omega) (by omega)]; exact a₂ k g₁, fun k g₁ => by rw [h₂ 4 0 2 k (by omega) (by omega)]; exact a₃ k g₁, a₄⟩
  have y₁ := a₁ p g₁ g₂
  unfold ccVf ccVp at y₁ ⊢
  simp only [e₂, e₆]
  exact y₁
/-! WOBBLING too much, on both sides. -/
def ccQw (x : Int32) (C : Nat → Nat → Int32) : Prop := ∀ p, p < 96 → ccBdw x C p = false
theorem ccSetW {i w l n bd : Nat} {β wt : Nat → Int32} {W : Nat → Nat} {x : Int32} : ∀ q r, r + q ≤ 96 → ∀ (mc mm : mMi) (h t : Nat), ccJ mc mm i w l n bd β wt W h t → mc 1 (RO i) 1 2 = x → mm 4 0 0 4 = x → ccCnt (ccP (mc 0 i)) 96 ≤ q →
    ∃ m₁ m₂ u v, (∀ f x1 x2 x3 rs, F35_70 i (f + q + 1) x1 x2 x3 (N r) mc rs = bI (F19 i m₁ rs) (fun v₁ m r₁ => rI (m 0 i 7 2 - x3) m r₁)) ∧ (∀ g x1 x2 x3 rs, bI (F217 (N 1) mm rs) (fun v₁ m r₁ => F269_85 (g + q + 1) x1 x2 x3 v₁ m r₁) = bV (F212 m₂ rs) (fun m r₁ => rI (m 4 0 3 1 - x3) m r₁)) ∧ ccJ m₁ m₂ i w l n bd β wt W u v ∧ ccG (mc 0 i) (m₁ 0 i) t v ∧ ccFr i mc m₁ ∧ ccFq mm m₂ ∧ ccQw x (m₁ 0 i) ∧
      (ccQw x (mc 0 i) → m₁ = mc ∧ m₂ = mm ∧ v = t) ∧ ((∃ p, p < 96 ∧ ccBdw x (mc 0 i) p = true) → t < v) := by
  intro q
  induction q with
  | zero =>
    intro r h₁ mc mm h t q₀ x₁ x₂ h₂
    have nop : ∀ p, p < 96 → ccP (mc 0 i) p = false := fun p g₁ => ccCnt_zero 96 (by omega) p g₁
    have qt : ccQw x (mc 0 i) := fun p g₁ => by unfold ccBdw; rw [nop p g₁]; rfl
    have fs : ccFst (ccBdw x (mc 0 i)) 96 0 = I (-1) := by
      have e₁ := ccFst_skip (f := ccBdw x (mc 0 i)) 96 0 0 (fun p _ g₂ => qt p (by omega))
      exact e₁
    refine ⟨mc, mm, h, t, fun f x1 x2 x3 rs => ?_, fun g x1 x2 x3 rs => ?_, q₀, ccG_rfl, ccFr_rfl, ccFq_rfl, qt, fun _ => ⟨rfl, rfl, rfl⟩, fun ⟨p, y₁, y₂⟩ => by rw [qt p y₁] at y₂; cases y₂⟩
    · rw [ccL35_70]
      by_cases g₁ : r = 96
      · subst g₁
        simp (disch := omega) only [true_and, and_true, false_and, and_false, if_true, if_false, ccIte, ccBi, ccBiX, ccBv, ccBvX, ccZ0, ccZ1, ccTZ, ccT0, ccT1, Bool.or_false, ccMckT, ccMckIn, ne_eq, not_true_eq_false, not_false_eq_true, if_pos, if_neg, reduceIte, eq_self, Bool.false_eq_true, Bool.true_eq_false, mix_N, N_add, N_mul, N_sub, N_div, ccMod, N_lt, N_le, N_eq, ccNm, ccMN, ccNm2, ccM2N, ccMM2, ccM2M, ccMlt, ccMle, ccNltM, ccNleM, ccM2lt, ccM2le, ccNlt2, ccNle2, Nat.reduceAdd, Nat.reduceMul, Nat.reduceSub, Nat.reduceLT, Nat.reduceLeDiff, Nat.reduceEqDiff, Nat.reduceDiv, Nat.reduceMod]
      · rw [x₁, ccE57 rfl, fs]
        simp (disch := omega) only [true_and, and_true, false_and, and_false, if_true, if_false, ccIte, ccBi, ccBiX, ccBv, ccBvX, ccZ0, ccZ1, ccTZ, ccT0, ccT1, Bool.or_false, ccMckT, ccMckIn, ne_eq, not_true_eq_false, not_false_eq_true, if_pos, if_neg, reduceIte, eq_self, Bool.false_eq_true, Bool.true_eq_false, mix_N, N_add, N_mul, N_sub, N_div, ccMod, N_lt, N_le, N_eq, ccNm, ccMN, ccNm2, ccM2N, ccMM2, ccM2M, ccMlt, ccMle, ccNltM, ccNleM, ccM2lt, ccM2le, ccNlt2, ccNle2, Nat.reduceAdd, Nat.reduceMul, Nat.reduceSub, Nat.reduceLT, Nat.reduceLeDiff, Nat.reduceEqDiff, Nat.reduceDiv, Nat.reduceMod]
    · rw [ccE217w (ccJ_wm q₀) q₀.1.2.2.2.2.2.2.1 x₂, fs]
      show F269_85 (g + 0 + 1) x1 x2 x3 (I (-1)) mm rs = _
      rw [ccL269_85]
      simp (disch := omega) only [true_and, and_true, false_and, and_false, if_true, if_false, ccIte, ccBi, ccBiX, ccBv, ccBvX, ccZ0, ccZ1, ccTZ, ccT0, ccT1, Bool.or_false, ccMckT, ccMckIn, ne_eq, not_true_eq_false, not_false_eq_true, if_pos, if_neg, reduceIte, eq_self, Bool.false_eq_true, Bool.true_eq_false, mix_N, N_add, N_mul, N_sub, N_div, ccMod, N_lt, N_le, N_eq, ccNm, ccMN, ccNm2, ccM2N, ccMM2, ccM2M, ccMlt, ccMle, ccNltM, ccNleM, ccM2lt, ccM2le, ccNlt2, ccNle2, Nat.reduceAdd, Nat.reduceMul, Nat.reduceSub, Nat.reduceLT, Nat.reduceLeDiff, Nat.reduceEqDiff, Nat.reduceDiv, Nat.reduceMod]
  | succ q i₁ =>
    intro r h₁ mc mm h t q₀ x₁ x₂ h₂
    rcases ccFst_is (f := ccBdw x (mc 0 i)) 96 0 with fs | ⟨p, fs, p₁, p₂, p₃⟩
    · have qt : ccQw x (mc 0 i) := fun p g₁ => ccFst_no 96 0 fs (by omega) p (by omega) (by omega)
      refine ⟨mc, mm, h, t, fun f x1 x2 x3 rs => ?_, fun g x1 x2 x3 rs => ?_, q₀, ccG_rfl, ccFr_rfl, ccFq_rfl, qt, fun _ => ⟨rfl, rfl, rfl⟩, fun ⟨p, y₁, y₂⟩ => by rw [qt p y₁] at y₂; cases y₂⟩
      · rw [ccL35_70, x₁, ccE57 rfl, fs]
        simp (disch := omega) only [true_and, and_true, false_and, and_false, if_true, if_false, ccIte, ccBi, ccBiX, ccBv, ccBvX, ccZ0, ccZ1, ccTZ, ccT0, ccT1, Bool.or_false, ccMckT, ccMckIn, ne_eq, not_true_eq_false, not_false_eq_true, if_pos, if_neg, reduceIte, eq_self, Bool.false_eq_true, Bool.true_eq_false, mix_N, N_add, N_mul, N_sub, N_div, ccMod, N_lt, N_le, N_eq, ccNm, ccMN, ccNm2, ccM2N, ccMM2, ccM2M, ccMlt, ccMle, ccNltM, ccNleM, ccM2lt, ccM2le, ccNlt2, ccNle2, Nat.reduceAdd, Nat.reduceMul, Nat.reduceSub, Nat.reduceLT, Nat.reduceLeDiff, Nat.reduceEqDiff, Nat.reduceDiv, Nat.reduceMod]
      · rw [ccE217w (ccJ_wm q₀) q₀.1.2.2.2.2.2.2.1 x₂, fs]
        show F269_85 (g + (q + 1) + 1) x1 x2 x3 (I (-1)) mm rs = _
        rw [ccL269_85]
        simp (disch := omega) only [true_and, and_true, false_and, and_false, if_true, if_false, ccIte, ccBi, ccBiX, ccBv, ccBvX, ccZ0, ccZ1, ccTZ, ccT0, ccT1, Bool.or_false, ccMckT, ccMckIn, ne_eq, not_true_eq_false, not_false_eq_true, if_pos, if_neg, reduceIte, eq_self, Bool.false_eq_true, Bool.true_eq_false, mix_N, N_add, N_mul, N_sub, N_div, ccMod, N_lt, N_le, N_eq, ccNm, ccMN, ccNm2, ccM2N, ccMM2, ccM2M, ccMlt, ccMle, ccNltM, ccNleM, ccM2lt, ccM2le, ccNlt2, ccNle2, Nat.reduceAdd, Nat.reduceMul, Nat.reduceSub, Nat.reduceLT, Nat.reduceLeDiff, Nat.reduceEqDiff, Nat.reduceDiv, Nat.reduceMod]
    · have p₄ : mc 0 i 2 p ≠ I (-1) := by
        unfold ccBdw ccP at p₃
        simp only [Bool.and_eq_true, Bool.not_eq_true', decide_eq_false_iff_not] at p₃
        exact p₃.1
      obtain ⟨p₅, p₆⟩ := (q₀.1.2.2.2.2.2.2.1 p (by omega)).1 p₄
      have p₇ : 12 * (p / 12) + p % 12 = p := by omega
      obtain ⟨m₃, m₄, f₁, f₂, f₃, f₄⟩ := ccFallP (L := p / 12) (c := p % 12) (cs := 1) (x := I (-1)) q₀.1 p₅ p₆ (by rw [p₇]; exact p₄) (by omega)
      rw [p₇] at f₂ f₄
      obtain ⟨u, v, j₃, g₃⟩ := ccJ_beh q₀ f₃
      obtain ⟨g₄, g₅⟩ := ccG_less g₃ (by omega) p₄ f₄
      obtain ⟨m₅, m₆, u₂, v₂, k₁, k₂, k₃, k₄, k₅, k₆, k₇, k₈, k₉⟩ := i₁ (r + 1) (by omega) m₃ m₄ u v j₃ (by rw [f₃.2.1 1 (RO i) 1 2 (by omega) (by omega)]; exact x₁) (by rw [f₃.2.2.1 4 0 0 4 (by omega) (by omega)]; exact x₂) (by omega)
      have g₆ := ccG_le k₄
      refine ⟨m₅, m₆, u₂, v₂, fun f x1 x2 x3 rs => ?_, fun g x1 x2 x3 rs => ?_, k₃, ccG_trans g₃ k₄, ccFr_trans f₃.2.1 k₅, ccFq_trans f₃.2.2.1 k₆, k₇, fun y₁ => ?_, fun _ => by omega⟩
      · have e₃ : f + (q + 1) + 1 = f + q + 1 + 1 := by omega
        rw [e₃, ccL35_70, x₁, ccE57 rfl, fs]
        simp (disch := omega) only [ccE111, ccE112, f₁, true_and, and_true, false_and, and_false, if_true, if_false, ccIte, ccBi, ccBiX, ccBv, ccBvX, ccZ0, ccZ1, ccTZ, ccT0, ccT1, Bool.or_false, ccMckT, ccMckIn, ne_eq, not_true_eq_false, not_false_eq_true, if_pos, if_neg, reduceIte, eq_self, Bool.false_eq_true, Bool.true_eq_false, mix_N, N_add, N_mul, N_sub, N_div, ccMod, N_lt, N_le, N_eq, ccNm, ccMN, ccNm2, ccM2N, ccMM2, ccM2M, ccMlt, ccMle, ccNltM, ccNleM, ccM2lt, ccM2le, ccNlt2, ccNle2, Nat.reduceAdd, Nat.reduceMul, Nat.reduceSub, Nat.reduceLT, Nat.reduceLeDiff, Nat.reduceEqDiff, Nat.reduceDiv, Nat.reduceMod]
        exact k₁ f x1 x2 x3 rs
      · have e₃ : g + (q + 1) + 1 = g + q + 1 + 1 := by omega
        rw [ccE217w (ccJ_wm q₀) q₀.1.2.2.2.2.2.2.1 x₂, fs]
        show F269_85 (g + (q + 1) + 1) x1 x2 x3 (N p) mm rs = _
        rw [e₃, ccL269_85]
        simp (disch := omega) only [f₂, true_and, and_true, false_and, and_false, if_true, if_false, ccIte, ccBi, ccBiX, ccBv, ccBvX, ccZ0, ccZ1, ccTZ, ccT0, ccT1, Bool.or_false, ccMckT, ccMckIn, ne_eq, not_true_eq_false, not_false_eq_true, if_pos, if_neg, reduceIte, eq_self, Bool.false_eq_true, Bool.true_eq_false, mix_N, N_add, N_mul, N_sub, N_div, ccMod, N_lt, N_le, N_eq, ccNm, ccMN, ccNm2, ccM2N, ccMM2, ccM2M, ccMlt, ccMle, ccNltM, ccNleM, ccM2lt, ccM2le, ccNlt2, ccNle2, Nat.reduceAdd, Nat.reduceMul, Nat.reduceSub, Nat.reduceLT, Nat.reduceLeDiff, Nat.reduceEqDiff, Nat.reduceDiv, Nat.reduceMod]
        exact k₂ g x1 x2 x3 rs
      · rw [y₁ p (by omega)] at p₃
        cases p₃
