/-! WORLD: what may be leaned and laid; cards are leaned, laid, lifted, taken down. -/
theorem kwE177 {m : mMi} {rs : mRs} {B w l n lm dp cl bd L c : Nat} {C : Nat → Nat → Int32} (hB : rs.2.1.1 B = true) (q : kwS m B w l n lm dp cl bd) (g : kwG m B C) (q₂ : ccCd n C) (h₁ : L < 1000) (h₂ : c < 1000) : H177 B (N L) (N c) m rs = rI (ccT (ccMayLean C w l L c)) m rs := by
  have s₁ := kwE178 (rs := rs) hB q g q₂ h₁ h₂
  have s₂ := kwE179 (rs := rs) hB q g q₂ h₁ h₂
  unfold H177 ccMayLean
  cases h₃ : ccHP C w l L c
  · rw [h₃] at s₁
    by_cases h₄ : L = 0
    · subst h₄
      simp (disch := omega) only [hB, s₁, true_and, and_true, false_and, and_false, if_true, if_false, ccIte, ccBi, ccBiX, ccBv, ccBvX, ccZ0, ccZ1, ccTZ, ccT0, ccT1, Bool.or_false, ccMckT, ccMckIn, ne_eq, not_true_eq_false, not_false_eq_true, if_pos, if_neg, reduceIte, eq_self, Bool.false_eq_true, Bool.true_eq_false, mix_N, N_add, N_mul, N_sub, N_div, ccMod, N_lt, N_le, N_eq, ccNm, ccMN, ccNm2, ccM2N, ccMM2, ccM2M, ccMlt, ccMle, ccNltM, ccNleM, ccM2lt, ccM2le, ccNlt2, ccNle2, Nat.reduceAdd, Nat.reduceMul, Nat.reduceSub, Nat.reduceLT, Nat.reduceLeDiff, Nat.reduceEqDiff, Nat.reduceDiv, Nat.reduceMod, decide_true, Bool.true_or, Bool.not_false, Bool.true_and]
      rfl
    · cases h₅ : ccHF C w l L c
      · rw [h₅] at s₂
        simp (disch := omega) only [hB, s₁, s₂, h₄, true_and, and_true, false_and, and_false, if_true, if_false, ccIte, ccBi, ccBiX, ccBv, ccBvX, ccZ0, ccZ1, ccTZ, ccT0, ccT1, Bool.or_false, ccMckT, ccMckIn, ne_eq, not_true_eq_false, not_false_eq_true, if_pos, if_neg, reduceIte, eq_self, Bool.false_eq_true, Bool.true_eq_false, mix_N, N_add, N_mul, N_sub, N_div, ccMod, N_lt, N_le, N_eq, ccNm, ccMN, ccNm2, ccM2N, ccMM2, ccM2M, ccMlt, ccMle, ccNltM, ccNleM, ccM2lt, ccM2le, ccNlt2, ccNle2, Nat.reduceAdd, Nat.reduceMul, Nat.reduceSub, Nat.reduceLT, Nat.reduceLeDiff, Nat.reduceEqDiff, Nat.reduceDiv, Nat.reduceMod, decide_false, Bool.false_or, Bool.not_false, Bool.true_and]
        rfl
      · rw [h₅] at s₂
        simp (disch := omega) only [hB, s₁, s₂, h₄, true_and, and_true, false_and, and_false, if_true, if_false, ccIte, ccBi, ccBiX, ccBv, ccBvX, ccZ0, ccZ1, ccTZ, ccT0, ccT1, Bool.or_false, ccMckT, ccMckIn, ne_eq, not_true_eq_false, not_false_eq_true, if_pos, if_neg, reduceIte, eq_self, Bool.false_eq_true, Bool.true_eq_false, mix_N, N_add, N_mul, N_sub, N_div, ccMod, N_lt, N_le, N_eq, ccNm, ccMN, ccNm2, ccM2N, ccMM2, ccM2M, ccMlt, ccMle, ccNltM, ccNleM, ccM2lt, ccM2le, ccNlt2, ccNle2, Nat.reduceAdd, Nat.reduceMul, Nat.reduceSub, Nat.reduceLT, Nat.reduceLeDiff, Nat.reduceEqDiff, Nat.reduceDiv, Nat.reduceMod, decide_false, Bool.false_or, Bool.not_false, Bool.true_and]
        rfl
  · rw [h₃] at s₁
    simp (disch := omega) only [hB, s₁, true_and, and_true, false_and, and_false, if_true, if_false, ccIte, ccBi, ccBiX, ccBv, ccBvX, ccZ0, ccZ1, ccTZ, ccT0, ccT1, Bool.or_false, ccMckT, ccMckIn, ne_eq, not_true_eq_false, not_false_eq_true, if_pos, if_neg, reduceIte, eq_self, Bool.false_eq_true, Bool.true_eq_false, mix_N, N_add, N_mul, N_sub, N_div, ccMod, N_lt, N_le, N_eq, ccNm, ccMN, ccNm2, ccM2N, ccMM2, ccM2M, ccMlt, ccMle, ccNltM, ccNleM, ccM2lt, ccM2le, ccNlt2, ccNle2, Nat.reduceAdd, Nat.reduceMul, Nat.reduceSub, Nat.reduceLT, Nat.reduceLeDiff, Nat.reduceEqDiff, Nat.reduceDiv, Nat.reduceMod, Bool.not_true, Bool.false_and]
    rfl
theorem kwE183 {m : mMi} {rs : mRs} {B w l n lm dp cl bd L c : Nat} {C : Nat → Nat → Int32} (hB : rs.2.1.1 B = true) (q : kwS m B w l n lm dp cl bd) (g : kwG m B C) (q₂ : ccCd n C) (h₁ : L < 1000) (h₂ : c < 100) (h₃ : ccPl w l L c = true) : H183 B (N L) (N c) m rs = rI (ccT (ccMayLay C w l L c)) m rs := by
  unfold H183
  cases L with
  | zero =>
    show _ = rI (ccT false) m rs
    simp (disch := omega) only [hB, true_and, and_true, false_and, and_false, if_true, if_false, ccIte, ccBi, ccBiX, ccBv, ccBvX, ccZ0, ccZ1, ccTZ, ccT0, ccT1, Bool.or_false, ccMckT, ccMckIn, ne_eq, not_true_eq_false, not_false_eq_true, if_pos, if_neg, reduceIte, eq_self, Bool.false_eq_true, Bool.true_eq_false, mix_N, N_add, N_mul, N_sub, N_div, ccMod, N_lt, N_le, N_eq, ccNm, ccMN, ccNm2, ccM2N, ccMM2, ccM2M, ccMlt, ccMle, ccNltM, ccNleM, ccM2lt, ccM2le, ccNlt2, ccNle2, Nat.reduceAdd, Nat.reduceMul, Nat.reduceSub, Nat.reduceLT, Nat.reduceLeDiff, Nat.reduceEqDiff, Nat.reduceDiv, Nat.reduceMod]
    rfl
  | succ K =>
    have e₀ : N (K + 1) - N 1 = N K := by rw [N_sub (by omega), Nat.add_sub_cancel]
    have s₁ := kwE179 (rs := rs) (L := K + 1) (c := c) hB q g q₂ (by omega) (by omega)
    have s₂ := kwE178 (rs := rs) (L := K) (c := c) hB q g q₂ (by omega) (by omega)
    have s₃ := kwE178 (rs := rs) (L := K) (c := c + 1) hB q g q₂ (by omega) (by omega)
    show _ = rI (ccT (ccPl w l (K + 1) c && !(ccHF C w l (K + 1) c) && ccHP C w l K c && ccHP C w l K (c + 1))) m rs
    rw [h₃, e₀]
    cases h₄ : ccHF C w l (K + 1) c
    · rw [h₄] at s₁
      cases h₅ : ccHP C w l K c
      · rw [h₅] at s₂
        simp (disch := omega) only [hB, s₁, s₂, true_and, and_true, false_and, and_false, if_true, if_false, ccIte, ccBi, ccBiX, ccBv, ccBvX, ccZ0, ccZ1, ccTZ, ccT0, ccT1, Bool.or_false, ccMckT, ccMckIn, ne_eq, not_true_eq_false, not_false_eq_true, if_pos, if_neg, reduceIte, eq_self, Bool.false_eq_true, Bool.true_eq_false, mix_N, N_add, N_mul, N_sub, N_div, ccMod, N_lt, N_le, N_eq, ccNm, ccMN, ccNm2, ccM2N, ccMM2, ccM2M, ccMlt, ccMle, ccNltM, ccNleM, ccM2lt, ccM2le, ccNlt2, ccNle2, Nat.reduceAdd, Nat.reduceMul, Nat.reduceSub, Nat.reduceLT, Nat.reduceLeDiff, Nat.reduceEqDiff, Nat.reduceDiv, Nat.reduceMod, Bool.not_false, Bool.true_and, Bool.and_false, Bool.false_and]
        rfl
      · rw [h₅] at s₂
        cases h₆ : ccHP C w l K (c + 1)
        · rw [h₆] at s₃
          simp (disch := omega) only [hB, s₁, s₂, s₃, true_and, and_true, false_and, and_false, if_true, if_false, ccIte, ccBi, ccBiX, ccBv, ccBvX, ccZ0, ccZ1, ccTZ, ccT0, ccT1, Bool.or_false, ccMckT, ccMckIn, ne_eq, not_true_eq_false, not_false_eq_true, if_pos, if_neg, reduceIte, eq_self, Bool.false_eq_true, Bool.true_eq_false, mix_N, N_add, N_mul, N_sub, N_div, ccMod, N_lt, N_le, N_eq, ccNm, ccMN, ccNm2, ccM2N, ccMM2, ccM2M, ccMlt, ccMle, ccNltM, ccNleM, ccM2lt, ccM2le, ccNlt2, ccNle2, Nat.reduceAdd, Nat.reduceMul, Nat.reduceSub, Nat.reduceLT, Nat.reduceLeDiff, Nat.reduceEqDiff, Nat.reduceDiv, Nat.reduceMod, Bool.not_false, Bool.true_and, Bool.and_false, Bool.false_and]
          rfl
        · rw [h₆] at s₃
          simp (disch := omega) only [hB, s₁, s₂, s₃, true_and, and_true, false_and, and_false, if_true, if_false, ccIte, ccBi, ccBiX, ccBv, ccBvX, ccZ0, ccZ1, ccTZ, ccT0, ccT1, Bool.or_false, ccMckT, ccMckIn, ne_eq, not_true_eq_false, not_false_eq_true, if_pos, if_neg, reduceIte, eq_self, Bool.false_eq_true, Bool.true_eq_false, mix_N, N_add, N_mul, N_sub, N_div, ccMod, N_lt, N_le, N_eq, ccNm, ccMN, ccNm2, ccM2N, ccMM2, ccM2M, ccMlt, ccMle, ccNltM, ccNleM, ccM2lt, ccM2le, ccNlt2, ccNle2, Nat.reduceAdd, Nat.reduceMul, Nat.reduceSub, Nat.reduceLT, Nat.reduceLeDiff, Nat.reduceEqDiff, Nat.reduceDiv, Nat.reduceMod, Bool.not_false, Bool.true_and, Bool.and_false, Bool.false_and]
          rfl
    · rw [h₄] at s₁
      simp (disch := omega) only [hB, s₁, true_and, and_true, false_and, and_false, if_true, if_false, ccIte, ccBi, ccBiX, ccBv, ccBvX, ccZ0, ccZ1, ccTZ, ccT0, ccT1, Bool.or_false, ccMckT, ccMckIn, ne_eq, not_true_eq_false, not_false_eq_true, if_pos, if_neg, reduceIte, eq_self, Bool.false_eq_true, Bool.true_eq_false, mix_N, N_add, N_mul, N_sub, N_div, ccMod, N_lt, N_le, N_eq, ccNm, ccMN, ccNm2, ccM2N, ccMM2, ccM2M, ccMlt, ccMle, ccNltM, ccNleM, ccM2lt, ccM2le, ccNlt2, ccNle2, Nat.reduceAdd, Nat.reduceMul, Nat.reduceSub, Nat.reduceLT, Nat.reduceLeDiff, Nat.reduceEqDiff, Nat.reduceDiv, Nat.reduceMod, Bool.not_true, Bool.true_and, Bool.and_false, Bool.false_and]
      rfl
/-! the parts of a tie that a move leaves alone -/
theorem kwF_ch {m m₁ : mMi} {B : Nat} {C D : Nat → Nat → Int32} (u : kwF m B C) (hm : ∀ p, m₁ 6 B 0 p = m 6 B 0 p) (c₁ : D 7 2 = C 7 2) (c₂ : D 10 5 = C 10 5) : kwF m₁ B D := by
  obtain ⟨u₃, a, h, u₄, u₅, u₆⟩ := u
  exact ⟨by rw [hm, c₁]; exact u₃, a, h, by rw [hm]; exact u₄, by rw [c₂]; exact u₅, u₆⟩
theorem kwX_ch {m m₁ : mMi} {B n t : Nat} {β : Nat → Int32} {C D : Nat → Nat → Int32} (u : kwX n t β m B C) (hm : ∀ f j p, f = 25 ∨ (f = 6 ∧ (j = 16 ∨ j = 9 ∨ j = 7 ∨ j = 8 ∨ j = 0)) → m₁ f B j p = m f B j p) (hc : ∀ j p, j = 8 ∨ j = 9 ∨ j = 10 ∨ j = 14 ∨ j = 12 ∨ j = 11 ∨ j = 0 → D j p = C j p) : kwX n t β m₁ B D := by
  obtain ⟨x₁, x₂, ⟨x₃, x₄⟩, x₅, x₆, x₇⟩ := u
  refine ⟨fun u e g₁ g₂ g₃ => ?_, fun u g₁ => ?_, ⟨?_, fun h g₁ g₂ u g₃ => ?_⟩, fun k g₁ => ?_, ?_, ?_⟩
  · rw [hm 25 u e (by omega), hc 8 _ (by omega)]
    exact x₁ u e g₁ g₂ g₃
  · rw [hm 6 16 u (by omega), hc 9 _ (by omega)]
    exact x₂ u g₁
  · rw [hm 6 0 18 (by omega), hc 10 _ (by omega)]
    exact x₃
  · rw [hc 10 _ (by omega)] at g₁
    rw [hm 6 9 u (by omega), hc 14 _ (by omega)]
    exact x₄ h g₁ g₂ u g₃
  · rw [hm 6 7 k (by omega), hm 6 8 k (by omega), hc 12 _ (by omega), hc 11 _ (by omega)]
    exact x₅ k g₁
  · rw [hm 6 0 19 (by omega), hc 0 5 (by omega)]
    exact x₆
  · rw [hm 6 0 21 (by omega), hc 0 6 (by omega)]
    exact x₇
/-! a card is laid -/
def kwMl (m : mMi) (B L c a : Nat) : mMi := mset (mset (mset (mset m 24 B L c (N a)) 6 B 4 a (N 3)) 6 B 5 a (N L)) 6 B 6 a (N c)
theorem kwMl_o {m : mMi} {B L c a f j p : Nat} (h₁ : ¬ (f = 24 ∧ j = L ∧ p = c)) (h₂ : ¬ (f = 6 ∧ p = a ∧ 4 ≤ j ∧ j ≤ 6)) : kwMl m B L c a f B j p = m f B j p := by
  unfold kwMl
  rw [ccRd, if_neg (by omega), ccRd, if_neg (by omega), ccRd, if_neg (by omega), ccRd, if_neg (by omega)]
theorem kwE184 {m : mMi} {rs : mRs} {B L c a : Nat} (hB : rs.2.1.1 B = true) (h₁ : L < 8) (h₂ : c < 12) (h₃ : a < 40) : H184 B (N L) (N c) (N a) m rs = rV (kwMl m B L c a) rs := by
  unfold H184 kwMl
  simp (disch := omega) only [hB, kwE182, true_and, and_true, false_and, and_false, if_true, if_false, ccIte, ccBi, ccBiX, ccBv, ccBvX, ccZ0, ccZ1, ccTZ, ccT0, ccT1, Bool.or_false, ccMckT, ccMckIn, ne_eq, not_true_eq_false, not_false_eq_true, if_pos, if_neg, reduceIte, eq_self, Bool.false_eq_true, Bool.true_eq_false, mix_N, N_add, N_mul, N_sub, N_div, ccMod, N_lt, N_le, N_eq, ccNm, ccMN, ccNm2, ccM2N, ccMM2, ccM2M, ccMlt, ccMle, ccNltM, ccNleM, ccM2lt, ccM2le, ccNlt2, ccNle2, Nat.reduceAdd, Nat.reduceMul, Nat.reduceSub, Nat.reduceLT, Nat.reduceLeDiff, Nat.reduceEqDiff, Nat.reduceDiv, Nat.reduceMod]
def kwCl (C : Nat → Nat → Int32) (p a : Nat) : Nat → Nat → Int32 := ccU (ccU C 6 p (N a)) 13 a (N p)
theorem kwCl_o {C : Nat → Nat → Int32} {p a j q : Nat} (h₁ : ¬ (j = 6 ∧ q = p)) (h₂ : ¬ (j = 13 ∧ q = a)) : kwCl C p a j q = C j q := by
  unfold kwCl ccU
  rw [if_neg h₂, if_neg h₁]
theorem kwU_lay {m : mMi} {B n t L c a : Nat} {β : Nat → Int32} {bx : Bool} {C : Nat → Nat → Int32} (u : kwU n t β bx m B C) (h₁ : L < 8) (h₂ : c < 12) (h₃ : a < n) (b₃ : n ≤ 40) (h₄ : C 6 (12 * L + c) = I (-1)) : kwU n t β bx (kwMl m B L c a) B (kwCl C (12 * L + c) a) := by
  obtain ⟨u₁, u₂, u₃, u₇, u₈⟩ := u
  have c₆ : kwCl C (12 * L + c) a 6 (12 * L + c) = N a := by
    unfold kwCl ccU
    rw [if_neg (by omega), if_pos ⟨rfl, rfl⟩]
  have c₁₃ : kwCl C (12 * L + c) a 13 a = N (12 * L + c) := by
    unfold kwCl ccU
    rw [if_pos ⟨rfl, rfl⟩]
  have m₂₄ : kwMl m B L c a 24 B L c = N a := by
    unfold kwMl
    rw [ccRd, if_neg (by omega), ccRd, if_neg (by omega), ccRd, if_neg (by omega), ccRd, if_pos ⟨rfl, rfl, rfl, rfl⟩]
  have m₄ : kwMl m B L c a 6 B 4 a = N 3 := by
    unfold kwMl
    rw [ccRd, if_neg (by omega), ccRd, if_neg (by omega), ccRd, if_pos ⟨rfl, rfl, rfl, rfl⟩]
  have m₅ : kwMl m B L c a 6 B 5 a = N L := by
    unfold kwMl
    rw [ccRd, if_neg (by omega), ccRd, if_pos ⟨rfl, rfl, rfl, rfl⟩]
  have m₆ : kwMl m B L c a 6 B 6 a = N c := by
    unfold kwMl
    rw [ccRd, if_pos ⟨rfl, rfl, rfl, rfl⟩]
  refine ⟨fun L₁ c₁ g₁ g₂ => ?_, fun k g₁ => ?_, kwF_ch u₃ (fun p => kwMl_o (by omega) (by omega)) (kwCl_o (by omega) (by omega)) (kwCl_o (by omega) (by omega)), by rw [kwCl_o (by omega) (by omega)]; exact u₇, fun y => kwX_ch (u₈ y) (fun f j p y₁ => kwMl_o (by omega) (by omega)) (fun j p y₁ => kwCl_o (by omega) (by omega))⟩
  · obtain ⟨e₁, e₂, e₃⟩ := u₁ L₁ c₁ g₁ g₂
    rw [kwMl_o (by omega) (by omega), kwMl_o (f := 21) (by omega) (by omega), kwMl_o (f := 22) (by omega) (by omega), kwMl_o (f := 23) (by omega) (by omega), kwCl_o (j := 2) (by omega) (by omega), kwCl_o (j := 3) (by omega) (by omega), kwCl_o (j := 4) (by omega) (by omega), kwCl_o (j := 5) (by omega) (by omega)]
    refine ⟨e₁, ?_, e₃⟩
    by_cases y₁ : L₁ = L ∧ c₁ = c
    · obtain ⟨rfl, rfl⟩ := y₁
      rw [m₂₄, c₆]
    · rw [kwMl_o (by omega) (by omega), kwCl_o (by omega) (by omega)]
      exact e₂
  · obtain ⟨e₁, e₂⟩ := u₂ k g₁
    refine ⟨by rw [kwMl_o (by omega) (by omega), kwCl_o (by omega) (by omega)]; exact e₁, Or.inr ?_⟩
    by_cases y₁ : k = a
    · subst y₁
      exact Or.inr (Or.inr ⟨L, c, h₁, h₂, c₁₃, m₅, m₆, Or.inr ⟨m₄, c₆⟩⟩)
    · unfold kwL
      rw [kwMl_o (f := 6) (j := 4) (by omega) (by omega), kwCl_o (j := 13) (by omega) (by omega), kwMl_o (f := 6) (j := 5) (by omega) (by omega), kwMl_o (f := 6) (j := 6) (by omega) (by omega)]
      rcases e₂ with e₂ | e₂ | e₂ | ⟨L₁, c₁, f₁, f₂, f₃, f₄, f₅, f₆⟩
      · cases e₂
      · exact Or.inl e₂
      · exact Or.inr (Or.inl e₂)
      · refine Or.inr (Or.inr ⟨L₁, c₁, f₁, f₂, f₃, f₄, f₅, ?_⟩)
        rcases f₆ with ⟨f₆, f₇, f₈⟩ | ⟨f₆, f₇⟩
        · refine Or.inl ⟨f₆, ?_⟩
          rw [kwCl_o (by omega) (by omega), kwCl_o (by omega) (by omega)]
          exact ⟨f₇, f₈⟩
        · refine Or.inr ⟨f₆, ?_⟩
          by_cases y₂ : 12 * L₁ + c₁ = 12 * L + c
          · rw [y₂, h₄] at f₇
            exact False.elim ((ccNm (by omega)).mp f₇.symm)
          · rw [kwCl_o (by omega) (by omega)]
            exact f₇
theorem kwMl_fr {m : mMi} {B L c a : Nat} : kwFr B m (kwMl m B L c a) ∧ kwSt B m (kwMl m B L c a) := ⟨kwFr_6 (kwFr_6 (kwFr_6 (kwFr_r kwFr_rfl (by omega)))), kwSt_6 (kwSt_6 (kwSt_6 (kwSt_r kwSt_rfl (by omega)) (by omega)) (by omega)) (by omega)⟩
theorem kwJ_lay {mc mw : mMi} {i B w l n lm dp cl bd h t L c a : Nat} {β wt : Nat → Int32} {W : Nat → Nat} {bx : Bool} (q : kwJ mc mw i B w l n lm dp cl bd β wt W bx h t) (bb : t ≤ 900000000) (h₁ : 1 ≤ L) (h₂ : L < l) (h₃ : L + c < w) (h₄ : a < n) (h₅ : mc 0 i 13 a = I (-1)) (h₆ : mc 0 i 6 (12 * L + c) = I (-1)) (h₇ : mc 0 i 2 (12 * L + c - 12) ≠ I (-1)) (h₈ : mc 0 i 2 (12 * L + c - 11) ≠ I (-1)) : kwJ (mset (mset mc 0 i 6 (12 * L + c) (N a)) 0 i 13 a (N (12 * L + c))) (kwMl mw B L c a) i B w l n lm dp cl bd β wt W bx h t := by
  obtain ⟨⟨mm, j₀⟩, s₀, u₀, w₀⟩ := q
  have b₁ : w ≤ 12 := j₀.1.1.2.2.2.2.1
  have b₂ : l ≤ 8 := j₀.1.1.2.2.2.2.2.2.1
  have b₃ : n ≤ 40 := j₀.1.1.2.2.2.2.2.2.2
  have e₁ : (12 * L + c) / 12 = L := by omega
  have e₂ : (12 * L + c) % 12 = c := by omega
  have d₁ := (ccLay1 (p := 12 * L + c) (a := a) j₀ bb (by omega) (by omega) h₄ h₅ h₆ h₇ h₈ (by rw [e₁, e₂]; exact ⟨h₂, h₃⟩)).1
  have cC : mset (mset mc 0 i 6 (12 * L + c) (N a)) 0 i 13 a (N (12 * L + c)) 0 i = kwCl (mc 0 i) (12 * L + c) a := by
    unfold kwCl
    simp only [ccU_set]
  obtain ⟨f₁, f₂⟩ := kwMl_fr (m := mw) (B := B) (L := L) (c := c) (a := a)
  exact ⟨⟨_, d₁⟩, kwS_st f₂ s₀, by rw [cC]; exact kwU_lay u₀ (by omega) (by omega) h₄ b₃ h₆, kwW_st f₂ w₀⟩
/-! two cards are leaned -/
def kwMe (m : mMi) (B L c a b : Nat) (g : Int32) : mMi := mset (mset (mset (mset (mset (mset (mset (mset (mset (mset m 20 B L c (N a)) 21 B L c (N b)) 22 B L c g) 23 B L c (N 0)) 6 B 4 a (N 2)) 6 B 5 a (N L)) 6 B 6 a (N c)) 6 B 4 b (N 2)) 6 B 5 b (N L)) 6 B 6 b (N c)
theorem kwMe_o {m : mMi} {B L c a b f j p : Nat} {g : Int32} (h₁ : ¬ (20 ≤ f ∧ f ≤ 23 ∧ j = L ∧ p = c)) (h₂ : ¬ (f = 6 ∧ (p = a ∨ p = b) ∧ 4 ≤ j ∧ j ≤ 6)) : kwMe m B L c a b g f B j p = m f B j p := by
  unfold kwMe
  rw [ccRd, if_neg (by omega), ccRd, if_neg (by omega), ccRd, if_neg (by omega), ccRd, if_neg (by omega), ccRd, if_neg (by omega), ccRd, if_neg (by omega), ccRd, if_neg (by omega), ccRd, if_neg (by omega), ccRd, if_neg (by omega), ccRd, if_neg (by omega)]
theorem kwE181 {m : mMi} {rs : mRs} {B L c a b : Nat} {g : Int32} (hB : rs.2.1.1 B = true) (h₁ : L < 8) (h₂ : c < 12) (h₃ : a < 40) (h₄ : b < 40) : H181 B (N L) (N c) (N a) (N b) g m rs = rV (kwMe m B L c a b g) rs := by
  unfold H181 kwMe
  simp (disch := omega) only [hB, kwE182, true_and, and_true, false_and, and_false, if_true, if_false, ccIte, ccBi, ccBiX, ccBv, ccBvX, ccZ0, ccZ1, ccTZ, ccT0, ccT1, Bool.or_false, ccMckT, ccMckIn, ne_eq, not_true_eq_false, not_false_eq_true, if_pos, if_neg, reduceIte, eq_self, Bool.false_eq_true, Bool.true_eq_false, mix_N, N_add, N_mul, N_sub, N_div, ccMod, N_lt, N_le, N_eq, ccNm, ccMN, ccNm2, ccM2N, ccMM2, ccM2M, ccMlt, ccMle, ccNltM, ccNleM, ccM2lt, ccM2le, ccNlt2, ccNle2, Nat.reduceAdd, Nat.reduceMul, Nat.reduceSub, Nat.reduceLT, Nat.reduceLeDiff, Nat.reduceEqDiff, Nat.reduceDiv, Nat.reduceMod]
def kwCe (C : Nat → Nat → Int32) (p a b : Nat) (g : Int32) : Nat → Nat → Int32 := ccU (ccU (ccU (ccU (ccU (ccU C 2 p (N a)) 3 p (N b)) 4 p g) 5 p (N 0)) 13 a (N p)) 13 b (N p)
theorem kwCe_o {C : Nat → Nat → Int32} {p a b j q : Nat} {g : Int32} (h₁ : ¬ (2 ≤ j ∧ j ≤ 5 ∧ q = p)) (h₂ : ¬ (j = 13 ∧ (q = a ∨ q = b))) : kwCe C p a b g j q = C j q := by
  unfold kwCe ccU
  rw [if_neg (by omega), if_neg (by omega), if_neg (by omega), if_neg (by omega), if_neg (by omega), if_neg (by omega)]
theorem kwU_lean {m : mMi} {B n t L c a b : Nat} {g : Int32} {β : Nat → Int32} {bx : Bool} {C : Nat → Nat → Int32} (u : kwU n t β bx m B C) (h₁ : L < 8) (h₂ : c < 12) (h₃ : a < n) (h₃' : b < n) (h₅ : a ≠ b) (b₃ : n ≤ 40) (h₄ : C 2 (12 * L + c) = I (-1)) : kwU n t β bx (kwMe m B L c a b g) B (kwCe C (12 * L + c) a b g) := by
  obtain ⟨u₁, u₂, u₃, u₇, u₈⟩ := u
  have cc : kwCe C (12 * L + c) a b g 2 (12 * L + c) = N a ∧ kwCe C (12 * L + c) a b g 3 (12 * L + c) = N b ∧ kwCe C (12 * L + c) a b g 4 (12 * L + c) = g ∧ kwCe C (12 * L + c) a b g 5 (12 * L + c) = N 0 ∧ kwCe C (12 * L + c) a b g 13 a = N (12 * L + c) ∧ kwCe C (12 * L + c) a b g 13 b = N (12 * L + c) := by
    unfold kwCe ccU
    refine ⟨?_, ?_, ?_, ?_, ?_, ?_⟩ <;> simp (disch := omega) only [if_neg, if_pos, Nat.reduceEqDiff, eq_self, true_and, and_true, false_and, and_false, if_true, if_false]
  have mk : kwMe m B L c a b g 20 B L c = N a ∧ kwMe m B L c a b g 21 B L c = N b ∧ kwMe m B L c a b g 22 B L c = g ∧ kwMe m B L c a b g 23 B L c = N 0 ∧ kwMe m B L c a b g 6 B 4 a = N 2 ∧ kwMe m B L c a b g 6 B 5 a = N L ∧ kwMe m B L c a b g 6 B 6 a = N c ∧ kwMe m B L c a b g 6 B 4 b = N 2 ∧ kwMe m B L c a b g 6 B 5 b = N L ∧ kwMe m B L c a b g 6 B 6 b = N c := by
    unfold kwMe
    refine ⟨?_, ?_, ?_, ?_, ?_, ?_, ?_, ?_, ?_, ?_⟩ <;> simp (disch := omega) only [ccRd, if_neg, if_pos, Nat.reduceEqDiff, eq_self, true_and, and_true, false_and, and_false, if_true, if_false]
  obtain ⟨v₁, v₂, v₃, v₄, v₅, v₆⟩ := cc
  obtain ⟨w₁, w₂, w₃, w₄, w₅, w₆, w₇, w₈, w₉, x₀⟩ := mk
  refine ⟨fun L₁ c₁ g₁ g₂ => ?_, fun k g₁ => ?_, kwF_ch u₃ (fun p => kwMe_o (by omega) (by omega)) (kwCe_o (by omega) (by omega)) (kwCe_o (by omega) (by omega)), by rw [kwCe_o (by omega) (by omega)]; exact u₇, fun y => kwX_ch (u₈ y) (fun f j p y₁ => kwMe_o (by omega) (by omega)) (fun j p y₁ => kwCe_o (by omega) (by omega))⟩
  · obtain ⟨e₁, e₂, e₃⟩ := u₁ L₁ c₁ g₁ g₂
    rw [kwMe_o (f := 24) (by omega) (by omega), kwCe_o (j := 6) (by omega) (by omega)]
    by_cases y₁ : L₁ = L ∧ c₁ = c
    · obtain ⟨rfl, rfl⟩ := y₁
      rw [v₁, v₂, v₃, v₄, w₁, w₂, w₃, w₄]
      exact ⟨rfl, e₂, fun _ => ⟨rfl, rfl, rfl⟩⟩
    · rw [kwMe_o (f := 20) (by omega) (by omega), kwMe_o (f := 21) (by omega) (by omega), kwMe_o (f := 22) (by omega) (by omega), kwMe_o (f := 23) (by omega) (by omega), kwCe_o (j := 2) (by omega) (by omega), kwCe_o (j := 3) (by omega) (by omega), kwCe_o (j := 4) (by omega) (by omega), kwCe_o (j := 5) (by omega) (by omega)]
      exact ⟨e₁, e₂, e₃⟩
  · obtain ⟨e₁, e₂⟩ := u₂ k g₁
    refine ⟨by rw [kwMe_o (by omega) (by omega), kwCe_o (by omega) (by omega)]; exact e₁, Or.inr ?_⟩
    have y₉ : C 2 (12 * L + c) = N a → False := fun y => by
      rw [h₄] at y
      exact (ccNm (by omega)).mp y.symm
    by_cases y₁ : k = a
    · subst y₁
      exact Or.inr (Or.inr ⟨L, c, h₁, h₂, v₅, w₆, w₇, Or.inl ⟨w₅, by rw [v₁]; exact fun y => (ccNm (by omega)).mp y, Or.inl v₁⟩⟩)
    · by_cases y₀ : k = b
      · subst y₀
        exact Or.inr (Or.inr ⟨L, c, h₁, h₂, v₆, w₉, x₀, Or.inl ⟨w₈, by rw [v₁]; exact fun y => (ccNm (by omega)).mp y, Or.inr v₂⟩⟩)
      · unfold kwL
        rw [kwMe_o (f := 6) (j := 4) (by omega) (by omega), kwCe_o (j := 13) (by omega) (by omega), kwMe_o (f := 6) (j := 5) (by omega) (by omega), kwMe_o (f := 6) (j := 6) (by omega) (by omega)]
        rcases e₂ with e₂ | e₂ | e₂ | ⟨L₁, c₁, f₁, f₂, f₃, f₄, f₅, f₆⟩
        · cases e₂
        · exact Or.inl e₂
        · exact Or.inr (Or.inl e₂)
        · refine Or.inr (Or.inr ⟨L₁, c₁, f₁, f₂, f₃, f₄, f₅, ?_⟩)
          rcases f₆ with ⟨f₆, f₇, f₈⟩ | ⟨f₆, f₇⟩
          · refine Or.inl ⟨f₆, ?_⟩
            have y₂ : 12 * L₁ + c₁ ≠ 12 * L + c := fun y => f₇ (by rw [y]; exact h₄)
            rw [kwCe_o (by omega) (by omega), kwCe_o (by omega) (by omega)]
            exact ⟨f₇, f₈⟩
          · refine Or.inr ⟨f₆, ?_⟩
            rw [kwCe_o (by omega) (by omega)]
            exact f₇
theorem kwMe_fr {m : mMi} {B L c a b : Nat} {g : Int32} : kwFr B m (kwMe m B L c a b g) ∧ kwSt B m (kwMe m B L c a b g) := ⟨kwFr_6 (kwFr_6 (kwFr_6 (kwFr_6 (kwFr_6 (kwFr_6 (kwFr_r (kwFr_r (kwFr_r (kwFr_r kwFr_rfl (by omega)) (by omega)) (by omega)) (by omega))))))), kwSt_6 (kwSt_6 (kwSt_6 (kwSt_6 (kwSt_6 (kwSt_6 (kwSt_r (kwSt_r (kwSt_r (kwSt_r kwSt_rfl (by omega)) (by omega)) (by omega)) (by omega)) (by omega)) (by omega)) (by omega)) (by omega)) (by omega)) (by omega)⟩
theorem kwJ_lean {mc mw : mMi} {i B w l n lm dp cl bd h t L c a b : Nat} {g : Int32} {β wt : Nat → Int32} {W : Nat → Nat} {bx : Bool} (q : kwJ mc mw i B w l n lm dp cl bd β wt W bx h t) (bb : t ≤ 900000000) (h₂ : L < l) (h₃ : L + c < w) (h₄ : a < n) (h₄' : b < n) (h₉ : a ≠ b) (h₅ : mc 0 i 13 a = I (-1)) (h₅' : mc 0 i 13 b = I (-1)) (h₆ : mc 0 i 2 (12 * L + c) = I (-1)) (h₇ : 12 ≤ 12 * L + c → mc 0 i 6 (12 * L + c) ≠ I (-1)) :
    kwJ (mset (mset (mset (mset (mset (mset mc 0 i 2 (12 * L + c) (N a)) 0 i 3 (12 * L + c) (N b)) 0 i 4 (12 * L + c) g) 0 i 5 (12 * L + c) (N 0)) 0 i 13 a (N (12 * L + c))) 0 i 13 b (N (12 * L + c))) (kwMe mw B L c a b g) i B w l n lm dp cl bd β wt W bx h t := by
  obtain ⟨⟨mm, j₀⟩, s₀, u₀, w₀⟩ := q
  have b₁ : w ≤ 12 := j₀.1.1.2.2.2.2.1
  have b₂ : l ≤ 8 := j₀.1.1.2.2.2.2.2.2.1
  have b₃ : n ≤ 40 := j₀.1.1.2.2.2.2.2.2.2
  have e₁ : (12 * L + c) / 12 = L := by omega
  have e₂ : (12 * L + c) % 12 = c := by omega
  have d₁ := (ccLean1 (p := 12 * L + c) (a := a) (b := b) (g := g) j₀ bb (by omega) h₄ h₄' h₉ h₅ h₅' h₆ h₇ (by rw [e₁, e₂]; exact ⟨h₂, h₃⟩)).1
  have cC : mset (mset (mset (mset (mset (mset mc 0 i 2 (12 * L + c) (N a)) 0 i 3 (12 * L + c) (N b)) 0 i 4 (12 * L + c) g) 0 i 5 (12 * L + c) (N 0)) 0 i 13 a (N (12 * L + c))) 0 i 13 b (N (12 * L + c)) 0 i = kwCe (mc 0 i) (12 * L + c) a b g := by
    unfold kwCe
    simp only [ccU_set]
  obtain ⟨f₁, f₂⟩ := kwMe_fr (m := mw) (B := B) (L := L) (c := c) (a := a) (b := b) (g := g)
  exact ⟨⟨_, d₁⟩, kwS_st f₂ s₀, by rw [cC]; exact kwU_lean u₀ (by omega) (by omega) h₄ h₄' h₉ b₃ h₆, kwW_st f₂ w₀⟩
