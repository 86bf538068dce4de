/-! WORLD settles beside the class's castle. -/
def kwJ (mc mw : mMi) (i B w l n lm dp cl bd : Nat) (β wt : Nat → Int32) (W : Nat → Nat) (bx : Bool) (h t : Nat) : Prop := (∃ mm, ccJ mc mm i w l n bd β wt W h t) ∧ kwS mw B w l n lm dp cl bd ∧ kwU n t β bx mw B (mc 0 i) ∧ kwW mw B n W
theorem kwW_sw {m m₁ : mMi} {B n : Nat} {W : Nat → Nat} (h₁ : kwSw B m m₁) (h₂ : kwW m B n W) : kwW m₁ B n W := fun k g₁ => by
  rw [h₁ 3 k (by omega)]
  exact h₂ k g₁
theorem kwW_st {m m₁ : mMi} {B n : Nat} {W : Nat → Nat} (h₁ : kwSt B m m₁) (h₂ : kwW m B n W) : kwW m₁ B n W := kwW_sw (kwSt_w h₁) h₂
theorem rV_inj {m₁ m₂ : mMi} {r : mRs} (h₁ : rV m₁ r = rV m₂ r) : m₁ = m₂ := by
  unfold rV at h₁
  injection h₁ with h₁
  injection h₁ with _ h₁
  injection h₁
/-- a fall of a pair, of a flat card: all the ties stay -/
theorem kwGoP {mc mw : mMi} {i B w l n lm dp cl bd h t L c cs : Nat} {β wt : Nat → Int32} {W : Nat → Nat} {bx : Bool} {x : Int32} (q : kwJ mc mw i B w l n lm dp cl bd β wt W bx h t) (h₂ : L < l) (h₃ : L + c < w) (h₄ : mc 0 i 2 (12 * L + c) ≠ I (-1)) (h₅ : cs < 4) :
    ∃ m₁ m₃ u v, (∀ rs, F26 i (N L) (N c) (N cs) x mc rs = rV m₁ rs) ∧ (∀ rs, rs.2.1.1 B = true → H191 B (N L) (N c) (N cs) x mw rs = rV m₃ rs) ∧ kwJ m₁ m₃ i B w l n lm dp cl bd β wt W bx u v ∧ ccG (mc 0 i) (m₁ 0 i) t v ∧ ccFr i mc m₁ ∧ kwFr B mw m₃ ∧ kwSt B mw m₃ ∧ m₁ 0 i 2 (12 * L + c) = I (-1) := by
  obtain ⟨⟨mm, q₀⟩, q₁, q₂, q₃⟩ := q
  have b₂ : l ≤ 8 := q₀.1.1.2.2.2.2.2.2.1
  have b₁ : w ≤ 12 := q₀.1.1.2.2.2.2.1
  obtain ⟨m₁, m₂, f₁, f₂, f₃, f₄⟩ := ccFallP (L := L) (c := c) (cs := cs) (x := x) q₀.1 h₂ h₃ h₄ h₅
  obtain ⟨m₄, m₅, m₃, k₁, k₂, ⟨⟨u₁, v₁, k₃, k₄, k₅⟩, k₆, k₇, k₈, k₉⟩⟩ := kwFallP (L := L) (c := c) (cs := cs) (x := x) q₀.1 q₁ q₂ (by omega) (by omega) h₅
  let rs₀ : mRs := ((0, 0), (fun _ => false, fun _ => none, fun _ => 0), 0, 0, 0)
  have e₁ : m₄ = m₁ := rV_inj (Eq.trans (k₁ rs₀).symm (f₁ rs₀))
  subst e₁
  obtain ⟨u, v, j₁, j₂⟩ := ccJ_beh q₀ f₃
  have e₂ : v₁ = v := by
    have y₁ := j₂.2
    have y₂ := k₄.2
    omega
  subst e₂
  exact ⟨m₄, m₃, u, v₁, f₁, k₂, ⟨⟨m₂, j₁⟩, kwS_st k₉ q₁, k₅, kwW_st k₉ q₃⟩, j₂, k₆, k₈, k₉, f₄⟩
theorem kwGoF {mc mw : mMi} {i B w l n lm dp cl bd h t L c cs : Nat} {β wt : Nat → Int32} {W : Nat → Nat} {bx : Bool} {x : Int32} (q : kwJ mc mw i B w l n lm dp cl bd β wt W bx h t) (h₂ : L < l) (h₃ : L + c < w) (h₄ : mc 0 i 6 (12 * L + c) ≠ I (-1)) (h₅ : cs < 4) :
    ∃ m₁ m₃ u v, (∀ rs, F28 i (N L) (N c) (N cs) x mc rs = rV m₁ rs) ∧ (∀ rs, rs.2.1.1 B = true → H194 B (N L) (N c) (N cs) x mw rs = rV m₃ rs) ∧ kwJ m₁ m₃ i B w l n lm dp cl bd β wt W bx u v ∧ ccG (mc 0 i) (m₁ 0 i) t v ∧ ccFr i mc m₁ ∧ kwFr B mw m₃ ∧ kwSt B mw m₃ := by
  obtain ⟨⟨mm, q₀⟩, q₁, q₂, q₃⟩ := q
  have b₂ : l ≤ 8 := q₀.1.1.2.2.2.2.2.2.1
  have b₁ : w ≤ 12 := q₀.1.1.2.2.2.2.1
  obtain ⟨m₁, m₂, f₁, f₂, f₃⟩ := ccFallF (L := L) (c := c) (cs := cs) (x := x) q₀.1 h₂ h₃ h₄ h₅
  obtain ⟨m₄, m₅, m₃, k₁, k₂, ⟨⟨u₁, v₁, k₃, k₄, k₅⟩, k₆, k₇, k₈, k₉⟩⟩ := kwFallF (L := L) (c := c) (cs := cs) (x := x) q₀.1 q₁ q₂ (by omega) (by omega) h₅
  let rs₀ : mRs := ((0, 0), (fun _ => false, fun _ => none, fun _ => 0), 0, 0, 0)
  have e₁ : m₄ = m₁ := rV_inj (Eq.trans (k₁ rs₀).symm (f₁ rs₀))
  subst e₁
  obtain ⟨u, v, j₁, j₂⟩ := ccJ_beh q₀ f₃
  have e₂ : v₁ = v := by
    have y₁ := j₂.2
    have y₂ := k₄.2
    omega
  subst e₂
  exact ⟨m₄, m₃, u, v₁, f₁, k₂, ⟨⟨m₂, j₁⟩, kwS_st k₉ q₁, k₅, kwW_st k₉ q₃⟩, j₂, k₆, k₈, k₉⟩
def kwY (m : mMi) (rs : mRs) (B : Nat) (kd : Int32) (p : Nat) : mRz := bV (H191 B (N (p / 12)) (N (p % 12)) kd (I (-1)) m rs) (fun m₃ r₃ => mckO (r₃.2.1.1 B) (some (.inl (some (mI (N 1))), m₃, r₃)))
theorem kwS186l {mc mw : mMi} {rs : mRs} {i B w l n lm dp cl bd h t L c f : Nat} {β wt : Nat → Int32} {W : Nat → Nat} {bx : Bool} (hB : rs.2.1.1 B = true) (q : kwJ mc mw i B w l n lm dp cl bd β wt W bx h t) (g₁ : L < l) (g₂ : L + c < w) :
    H186_2 B (f + 1) 14 (N 0) (N L) (N c) mw rs = if ccBdl W (mc 0 i) w l (12 * L + c) = true then kwY mw rs B (N 0) (12 * L + c) else H186_2 B f 14 (N 0) (N L) (N (c + 1)) mw rs := by
  obtain ⟨⟨mm, q₀⟩, q₁, q₂, q₃⟩ := q
  have b₂ : l ≤ 8 := q₀.1.1.2.2.2.2.2.2.1
  have b₁ : w ≤ 12 := q₀.1.1.2.2.2.2.1
  have cd : ccCd n (mc 0 i) := ccCd_of q₀.1.2.2.2.2.2.1.2.1
  have q₄ : mw 6 B 1 0 = N w := q₁.1
  have e₁ : (12 * L + c) / 12 = L := by omega
  have e₂ : (12 * L + c) % 12 = c := by omega
  have s₁ := kwE178 (rs := rs) (L := L) (c := c) hB q₁ q₂.1 cd (by omega) (by omega)
  rw [kwH186_14, q₄]
  unfold ccBdl kwY
  rw [e₁, e₂]
  cases g₃ : ccP (mc 0 i) (12 * L + c)
  · have g₄ : ccHP (mc 0 i) w l L c = false := by unfold ccHP; rw [g₃, Bool.and_false]
    rw [g₄] at s₁
    simp (disch := omega) only [hB, s₁, true_and, and_true, false_and, and_false, if_true, if_false, ccIte, ccBi, ccBiX, ccBv, ccBvX, ccZ0, ccZ1, ccTZ, ccT0, ccT1, Bool.or_false, ccMckT, ccMckIn, ne_eq, not_true_eq_false, not_false_eq_true, if_pos, if_neg, reduceIte, eq_self, Bool.false_eq_true, Bool.true_eq_false, mix_N, N_add, N_mul, N_sub, N_div, ccMod, N_lt, N_le, N_eq, ccNm, ccMN, ccNm2, ccM2N, ccMM2, ccM2M, ccMlt, ccMle, ccNltM, ccNleM, ccM2lt, ccM2le, ccNlt2, ccNle2, Nat.reduceAdd, Nat.reduceMul, Nat.reduceSub, Nat.reduceLT, Nat.reduceLeDiff, Nat.reduceEqDiff, Nat.reduceDiv, Nat.reduceMod, Bool.false_and]
  · have g₅ : mc 0 i 2 (12 * L + c) ≠ I (-1) := by
      unfold ccP at g₃
      simpa only [Bool.not_eq_true', decide_eq_false_iff_not] using g₃
    have g₄ : ccHP (mc 0 i) w l L c = true := ccHP_i g₁ g₂ g₅
    rw [g₄] at s₁
    have s₂ := kwE187 (rs := rs) (L := L) (c := c) hB q₁ q₂.1 q₂.2.1 cd q₀.2.2.2.2 q₃ (by omega) (by omega) g₅
    by_cases g₆ : ccRv W (mc 0 i) w l (12 * L + c) < N 0
    · simp (disch := omega) only [hB, s₁, s₂, g₆, true_and, and_true, false_and, and_false, if_true, if_false, ccIte, ccBi, ccBiX, ccBv, ccBvX, ccZ0, ccZ1, ccTZ, ccT0, ccT1, Bool.or_false, ccMckT, ccMckIn, ne_eq, not_true_eq_false, not_false_eq_true, if_pos, if_neg, reduceIte, eq_self, Bool.false_eq_true, Bool.true_eq_false, mix_N, N_add, N_mul, N_sub, N_div, ccMod, N_lt, N_le, N_eq, ccNm, ccMN, ccNm2, ccM2N, ccMM2, ccM2M, ccMlt, ccMle, ccNltM, ccNleM, ccM2lt, ccM2le, ccNlt2, ccNle2, Nat.reduceAdd, Nat.reduceMul, Nat.reduceSub, Nat.reduceLT, Nat.reduceLeDiff, Nat.reduceEqDiff, Nat.reduceDiv, Nat.reduceMod, ccMifT, ccMifF, decide_true, Bool.true_and]
    · simp (disch := omega) only [hB, s₁, s₂, g₆, true_and, and_true, false_and, and_false, if_true, if_false, ccIte, ccBi, ccBiX, ccBv, ccBvX, ccZ0, ccZ1, ccTZ, ccT0, ccT1, Bool.or_false, ccMckT, ccMckIn, ne_eq, not_true_eq_false, not_false_eq_true, if_pos, if_neg, reduceIte, eq_self, Bool.false_eq_true, Bool.true_eq_false, mix_N, N_add, N_mul, N_sub, N_div, ccMod, N_lt, N_le, N_eq, ccNm, ccMN, ccNm2, ccM2N, ccMM2, ccM2M, ccMlt, ccMle, ccNltM, ccNleM, ccM2lt, ccM2le, ccNlt2, ccNle2, Nat.reduceAdd, Nat.reduceMul, Nat.reduceSub, Nat.reduceLT, Nat.reduceLeDiff, Nat.reduceEqDiff, Nat.reduceDiv, Nat.reduceMod, ccMifT, ccMifF, decide_false, Bool.and_false]
theorem kwS186w {mc mw : mMi} {rs : mRs} {i B w l n lm dp cl bd h t L c f : Nat} {β wt : Nat → Int32} {W : Nat → Nat} {bx : Bool} (hB : rs.2.1.1 B = true) (q : kwJ mc mw i B w l n lm dp cl bd β wt W bx h t) (g₁ : L < l) (g₂ : L + c < w) :
    H186_2 B (f + 1) 14 (N 1) (N L) (N c) mw rs = if ccBdw (N lm) (mc 0 i) (12 * L + c) = true then kwY mw rs B (N 1) (12 * L + c) else H186_2 B f 14 (N 1) (N L) (N (c + 1)) mw rs := by
  obtain ⟨⟨mm, q₀⟩, q₁, q₂, q₃⟩ := q
  have b₂ : l ≤ 8 := q₀.1.1.2.2.2.2.2.2.1
  have b₁ : w ≤ 12 := q₀.1.1.2.2.2.2.1
  have cd : ccCd n (mc 0 i) := ccCd_of q₀.1.2.2.2.2.2.1.2.1
  have q₄ : mw 6 B 1 0 = N w := q₁.1
  have q₅ : mw 6 B 1 2 = N lm := q₁.2.2.1
  have e₁ : (12 * L + c) / 12 = L := by omega
  have e₂ : (12 * L + c) % 12 = c := by omega
  have s₁ := kwE178 (rs := rs) (L := L) (c := c) hB q₁ q₂.1 cd (by omega) (by omega)
  rw [kwH186_14, q₄]
  unfold ccBdw kwY
  rw [e₁, e₂]
  cases g₃ : ccP (mc 0 i) (12 * L + c)
  · have g₄ : ccHP (mc 0 i) w l L c = false := by unfold ccHP; rw [g₃, Bool.and_false]
    rw [g₄] at s₁
    simp (disch := omega) only [hB, s₁, true_and, and_true, false_and, and_false, if_true, if_false, ccIte, ccBi, ccBiX, ccBv, ccBvX, ccZ0, ccZ1, ccTZ, ccT0, ccT1, Bool.or_false, ccMckT, ccMckIn, ne_eq, not_true_eq_false, not_false_eq_true, if_pos, if_neg, reduceIte, eq_self, Bool.false_eq_true, Bool.true_eq_false, mix_N, N_add, N_mul, N_sub, N_div, ccMod, N_lt, N_le, N_eq, ccNm, ccMN, ccNm2, ccM2N, ccMM2, ccM2M, ccMlt, ccMle, ccNltM, ccNleM, ccM2lt, ccM2le, ccNlt2, ccNle2, Nat.reduceAdd, Nat.reduceMul, Nat.reduceSub, Nat.reduceLT, Nat.reduceLeDiff, Nat.reduceEqDiff, Nat.reduceDiv, Nat.reduceMod, Bool.false_and]
  · have g₅ : mc 0 i 2 (12 * L + c) ≠ I (-1) := by
      unfold ccP at g₃
      simpa only [Bool.not_eq_true', decide_eq_false_iff_not] using g₃
    have g₄ : ccHP (mc 0 i) w l L c = true := ccHP_i g₁ g₂ g₅
    rw [g₄] at s₁
    have s₂ := ((q₂.1 L c (by omega) (by omega)).2.2 g₅).2.2
    by_cases g₆ : N lm < mc 0 i 5 (12 * L + c)
    · simp (disch := omega) only [hB, s₁, s₂, q₅, g₆, true_and, and_true, false_and, and_false, if_true, if_false, ccIte, ccBi, ccBiX, ccBv, ccBvX, ccZ0, ccZ1, ccTZ, ccT0, ccT1, Bool.or_false, ccMckT, ccMckIn, ne_eq, not_true_eq_false, not_false_eq_true, if_pos, if_neg, reduceIte, eq_self, Bool.false_eq_true, Bool.true_eq_false, mix_N, N_add, N_mul, N_sub, N_div, ccMod, N_lt, N_le, N_eq, ccNm, ccMN, ccNm2, ccM2N, ccMM2, ccM2M, ccMlt, ccMle, ccNltM, ccNleM, ccM2lt, ccM2le, ccNlt2, ccNle2, Nat.reduceAdd, Nat.reduceMul, Nat.reduceSub, Nat.reduceLT, Nat.reduceLeDiff, Nat.reduceEqDiff, Nat.reduceDiv, Nat.reduceMod, ccMifT, ccMifF, decide_true, Bool.true_and]
    · simp (disch := omega) only [hB, s₁, s₂, q₅, g₆, true_and, and_true, false_and, and_false, if_true, if_false, ccIte, ccBi, ccBiX, ccBv, ccBvX, ccZ0, ccZ1, ccTZ, ccT0, ccT1, Bool.or_false, ccMckT, ccMckIn, ne_eq, not_true_eq_false, not_false_eq_true, if_pos, if_neg, reduceIte, eq_self, Bool.false_eq_true, Bool.true_eq_false, mix_N, N_add, N_mul, N_sub, N_div, ccMod, N_lt, N_le, N_eq, ccNm, ccMN, ccNm2, ccM2N, ccMM2, ccM2M, ccMlt, ccMle, ccNltM, ccNleM, ccM2lt, ccM2le, ccNlt2, ccNle2, Nat.reduceAdd, Nat.reduceMul, Nat.reduceSub, Nat.reduceLT, Nat.reduceLeDiff, Nat.reduceEqDiff, Nat.reduceDiv, Nat.reduceMod, ccMifT, ccMifF, decide_false, Bool.and_false]
theorem kwE186l {mc mw : mMi} {rs : mRs} {i B w l n lm dp cl bd h t : Nat} {β wt : Nat → Int32} {W : Nat → Nat} {bx : Bool} (hB : rs.2.1.1 B = true) (q : kwJ mc mw i B w l n lm dp cl bd β wt W bx h t) : H186 B (N 0) mw rs = kwFd (kwY mw rs B (N 0)) (rI (N 0) mw rs) (ccBdl W (mc 0 i) w l) 96 0 := by
  obtain ⟨mm, q₀⟩ := q.1
  exact kwE186 hB q.2.1 (ccPlc_b q₀.1.2.2.2.2.2.2.1) (fun L c f g₁ g₂ => kwS186l hB q g₁ g₂)
theorem kwE186w {mc mw : mMi} {rs : mRs} {i B w l n lm dp cl bd h t : Nat} {β wt : Nat → Int32} {W : Nat → Nat} {bx : Bool} (hB : rs.2.1.1 B = true) (q : kwJ mc mw i B w l n lm dp cl bd β wt W bx h t) : H186 B (N 1) mw rs = kwFd (kwY mw rs B (N 1)) (rI (N 0) mw rs) (ccBdw (N lm) (mc 0 i)) 96 0 := by
  obtain ⟨mm, q₀⟩ := q.1
  exact kwE186 hB q.2.1 (ccPlc_b q₀.1.2.2.2.2.2.2.1) (fun L c f g₁ g₂ => kwS186w hB q g₁ g₂)
theorem kwJ_sc {mc mw m₁ : mMi} {i B w l n lm dp cl bd h t : Nat} {β wt : Nat → Int32} {W : Nat → Nat} {bx : Bool} (q : kwJ mc mw i B w l n lm dp cl bd β wt W bx h t) (h₁ : ccFs mc m₁) : kwJ m₁ mw i B w l n lm dp cl bd β wt W bx h t := by
  obtain ⟨⟨mm, q₀⟩, q₁, q₂, q₃⟩ := q
  exact ⟨⟨mm, ccJ_sc q₀ h₁ ccFt_rfl⟩, q₁, by rw [ccFs_0 h₁]; exact q₂, q₃⟩
theorem kwSet {i B w l n lm dp cl bd : Nat} {β wt : Nat → Int32} {W : Nat → Nat} {bx : Bool} : ∀ q r, r + q ≤ 96 → ∀ (mc mw : mMi) (h t : Nat), kwJ mc mw i B w l n lm dp cl bd β wt W bx h t → ccCnt (ccP (mc 0 i)) 96 ≤ q →
    ∃ m₁ m₃ u v, (∀ f x rs, F19_10 i (f + q + 1) x (N r) mc rs = rI (m₁ 0 i 7 2 - x) m₁ rs) ∧ (∀ g rs, rs.2.1.1 B = true → H185_0 B (g + q + 1) mw rs = rV m₃ rs) ∧ kwJ m₁ m₃ i B w l n lm dp cl bd β wt W bx u v ∧ ccG (mc 0 i) (m₁ 0 i) t v ∧ ccFr i mc m₁ ∧ kwFr B mw m₃ ∧ kwSt B mw m₃ ∧ ccQt W (m₁ 0 i) w l ∧ (ccQt W (mc 0 i) w l → m₁ 0 i = mc 0 i ∧ v = t ∧ m₃ = mw) := by
  intro q
  induction q with
  | zero =>
    intro r h₁ mc mw h t q₀ h₂
    have q₉ := q₀
    obtain ⟨⟨mm, j₀⟩, s₀, u₀, w₀⟩ := q₀
    have b₁ : w ≤ 12 := j₀.1.1.2.2.2.2.1
    have b₂ : l ≤ 8 := j₀.1.1.2.2.2.2.2.2.1
    have b₃ : n ≤ 40 := j₀.1.1.2.2.2.2.2.2.2
    have cd : ccCd n (mc 0 i) := ccCd_of j₀.1.2.2.2.2.2.1.2.1
    have nop : ∀ p, p < 96 → ccP (mc 0 i) p = false := fun p g₁ => ccCnt_zero 96 (by omega) p g₁
    have qt : ccQt W (mc 0 i) w l := fun p g₁ => by unfold ccBdl; rw [nop p g₁]; rfl
    have fs : ccFst (ccBdl W (mc 0 i) w l) 96 0 = I (-1) := by
      have e₁ := ccFst_skip (f := ccBdl W (mc 0 i) w l) 96 0 0 (fun p _ g₂ => qt p (by omega))
      exact e₁
    have qm : ∀ g rs, rs.2.1.1 B = true → H185_0 B (g + 0 + 1) mw rs = rV mw rs := fun g rs hB => by
      rw [kwH185_0, hB, kwE186l hB q₉, kwFd_no 96 0 (fun p _ g₂ => qt p (by omega))]
      simp (disch := omega) only [hB, true_and, and_true, false_and, and_false, if_true, if_false, ccIte, ccBi, ccBiX, ccBv, ccBvX, ccZ0, ccZ1, ccTZ, ccT0, ccT1, Bool.or_false, ccMckT, ccMckIn, ne_eq, not_true_eq_false, not_false_eq_true, if_pos, if_neg, reduceIte, eq_self, Bool.false_eq_true, Bool.true_eq_false, mix_N, N_add, N_mul, N_sub, N_div, ccMod, N_lt, N_le, N_eq, ccNm, ccMN, ccNm2, ccM2N, ccMM2, ccM2M, ccMlt, ccMle, ccNltM, ccNleM, ccM2lt, ccM2le, ccNlt2, ccNle2, Nat.reduceAdd, Nat.reduceMul, Nat.reduceSub, Nat.reduceLT, Nat.reduceLeDiff, Nat.reduceEqDiff, Nat.reduceDiv, Nat.reduceMod]
    by_cases g₁ : r = 96
    · subst g₁
      refine ⟨mc, mw, h, t, fun f x rs => ?_, qm, q₉, ccG_rfl, ccFr_rfl, kwFr_rfl, kwSt_rfl, qt, fun _ => ⟨rfl, rfl, rfl⟩⟩
      rw [ccL19_10]
      simp (disch := omega) only [true_and, and_true, false_and, and_false, if_true, if_false, ccIte, ccBi, ccBiX, ccBv, ccBvX, ccZ0, ccZ1, ccTZ, ccT0, ccT1, Bool.or_false, ccMckT, ccMckIn, ne_eq, not_true_eq_false, not_false_eq_true, if_pos, if_neg, reduceIte, eq_self, Bool.false_eq_true, Bool.true_eq_false, mix_N, N_add, N_mul, N_sub, N_div, ccMod, N_lt, N_le, N_eq, ccNm, ccMN, ccNm2, ccM2N, ccMM2, ccM2M, ccMlt, ccMle, ccNltM, ccNleM, ccM2lt, ccM2le, ccNlt2, ccNle2, Nat.reduceAdd, Nat.reduceMul, Nat.reduceSub, Nat.reduceLT, Nat.reduceLeDiff, Nat.reduceEqDiff, Nat.reduceDiv, Nat.reduceMod]
    · obtain ⟨m₁, c₁, c₂, c₃⟩ := ccE85 (ccStd_sup j₀.2.1 b₁ b₂) cd j₀.2.2.2.2 (ccJ_wc j₀)
      refine ⟨m₁, mw, h, t, fun f x rs => ?_, qm, kwJ_sc q₉ c₂, by rw [ccFs_0 c₂]; exact ccG_rfl, ccFs_fr c₂, kwFr_rfl, kwSt_rfl, by rw [ccFs_0 c₂]; exact qt, fun _ => ⟨ccFs_0 c₂, rfl, rfl⟩⟩
      have e₁ : F20 i mc rs = rI (I (-1)) m₁ rs := by
        obtain ⟨g, hg⟩ := ccFU (k := 96) (by omega)
        unfold F20
        rw [c₁]
        show F20_10 i FU (N 0) m₁ rs = _
        rw [hg, ccL20 (ccFs_0 c₂) cd b₃ c₃ j₀.1.2.2.2.2.2.2.1 96 0 g rs (by omega), fs]
      rw [ccL19_10, e₁]
      simp (disch := omega) only [true_and, and_true, false_and, and_false, if_true, if_false, ccIte, ccBi, ccBiX, ccBv, ccBvX, ccZ0, ccZ1, ccTZ, ccT0, ccT1, Bool.or_false, ccMckT, ccMckIn, ne_eq, not_true_eq_false, not_false_eq_true, if_pos, if_neg, reduceIte, eq_self, Bool.false_eq_true, Bool.true_eq_false, mix_N, N_add, N_mul, N_sub, N_div, ccMod, N_lt, N_le, N_eq, ccNm, ccMN, ccNm2, ccM2N, ccMM2, ccM2M, ccMlt, ccMle, ccNltM, ccNleM, ccM2lt, ccM2le, ccNlt2, ccNle2, Nat.reduceAdd, Nat.reduceMul, Nat.reduceSub, Nat.reduceLT, Nat.reduceLeDiff, Nat.reduceEqDiff, Nat.reduceDiv, Nat.reduceMod]
  | succ q i₁ =>
    intro r h₁ mc mw h t q₀ h₂
    have q₉ := q₀
    obtain ⟨⟨mm, j₀⟩, s₀, u₀, w₀⟩ := q₀
    have b₁ : w ≤ 12 := j₀.1.1.2.2.2.2.1
    have b₂ : l ≤ 8 := j₀.1.1.2.2.2.2.2.2.1
    have b₃ : n ≤ 40 := j₀.1.1.2.2.2.2.2.2.2
    have cd : ccCd n (mc 0 i) := ccCd_of j₀.1.2.2.2.2.2.1.2.1
    obtain ⟨m₁, c₁, c₂, c₃⟩ := ccE85 (ccStd_sup j₀.2.1 b₁ b₂) cd j₀.2.2.2.2 (ccJ_wc j₀)
    have j₂ := kwJ_sc q₉ c₂
    have e₁ : ∀ rs, F20 i mc rs = rI (ccFst (ccBdl W (mc 0 i) w l) 96 0) m₁ rs := fun rs => by
      obtain ⟨g, hg⟩ := ccFU (k := 96) (by omega)
      unfold F20
      rw [c₁]
      show F20_10 i FU (N 0) m₁ rs = _
      rw [hg, ccL20 (ccFs_0 c₂) cd b₃ c₃ j₀.1.2.2.2.2.2.2.1 96 0 g rs (by omega)]
    rcases ccFst_is (f := ccBdl W (mc 0 i) w l) 96 0 with fs | ⟨p, fs, p₁, p₂, p₃⟩
    · have qt : ccQt W (mc 0 i) w l := fun p g₁ => ccFst_no 96 0 fs (by omega) p (by omega) (by omega)
      refine ⟨m₁, mw, h, t, fun f x rs => ?_, fun g rs hB => ?_, j₂, by rw [ccFs_0 c₂]; exact ccG_rfl, ccFs_fr c₂, kwFr_rfl, kwSt_rfl, by rw [ccFs_0 c₂]; exact qt, fun _ => ⟨ccFs_0 c₂, rfl, rfl⟩⟩
      · rw [ccL19_10, e₁, fs]
        simp (disch := omega) only [true_and, and_true, false_and, and_false, if_true, if_false, ccIte, ccBi, ccBiX, ccBv, ccBvX, ccZ0, ccZ1, ccTZ, ccT0, ccT1, Bool.or_false, ccMckT, ccMckIn, ne_eq, not_true_eq_false, not_false_eq_true, if_pos, if_neg, reduceIte, eq_self, Bool.false_eq_true, Bool.true_eq_false, mix_N, N_add, N_mul, N_sub, N_div, ccMod, N_lt, N_le, N_eq, ccNm, ccMN, ccNm2, ccM2N, ccMM2, ccM2M, ccMlt, ccMle, ccNltM, ccNleM, ccM2lt, ccM2le, ccNlt2, ccNle2, Nat.reduceAdd, Nat.reduceMul, Nat.reduceSub, Nat.reduceLT, Nat.reduceLeDiff, Nat.reduceEqDiff, Nat.reduceDiv, Nat.reduceMod]
      · rw [kwH185_0, hB, kwE186l hB q₉, kwFd_no 96 0 (fun p _ g₂ => qt p (by omega))]
        simp (disch := omega) only [hB, true_and, and_true, false_and, and_false, if_true, if_false, ccIte, ccBi, ccBiX, ccBv, ccBvX, ccZ0, ccZ1, ccTZ, ccT0, ccT1, Bool.or_false, ccMckT, ccMckIn, ne_eq, not_true_eq_false, not_false_eq_true, if_pos, if_neg, reduceIte, eq_self, Bool.false_eq_true, Bool.true_eq_false, mix_N, N_add, N_mul, N_sub, N_div, ccMod, N_lt, N_le, N_eq, ccNm, ccMN, ccNm2, ccM2N, ccMM2, ccM2M, ccMlt, ccMle, ccNltM, ccNleM, ccM2lt, ccM2le, ccNlt2, ccNle2, Nat.reduceAdd, Nat.reduceMul, Nat.reduceSub, Nat.reduceLT, Nat.reduceLeDiff, Nat.reduceEqDiff, Nat.reduceDiv, Nat.reduceMod]
    · have p₄ : mc 0 i 2 p ≠ I (-1) := by
        unfold ccBdl ccP at p₃
        simp only [Bool.and_eq_true, Bool.not_eq_true', decide_eq_false_iff_not] at p₃
        exact p₃.1
      obtain ⟨p₅, p₆⟩ := (j₀.1.2.2.2.2.2.2.1 p (by omega)).1 p₄
      have p₇ : 12 * (p / 12) + p % 12 = p := by omega
      obtain ⟨m₃, m₄, u, v, f₁, f₂, j₃, g₃, k₅, k₆, k₇, f₄⟩ := kwGoP (L := p / 12) (c := p % 12) (cs := 0) (x := I (-1)) j₂ p₅ p₆ (by rw [p₇, ccFs_0 c₂]; exact p₄) (by omega)
      rw [p₇] at f₄
      rw [ccFs_0 c₂] at g₃
      obtain ⟨g₄, g₅⟩ := ccG_less g₃ (by omega) p₄ f₄
      obtain ⟨m₅, m₆, u₂, v₂, n₁, n₂, n₃, n₄, n₅, n₆, n₇, n₈, n₉⟩ := i₁ (r + 1) (by omega) m₃ m₄ u v j₃ (by omega)
      refine ⟨m₅, m₆, u₂, v₂, fun f x rs => ?_, fun g rs hB => ?_, n₃, ccG_trans g₃ n₄, ccFr_trans (ccFs_fr c₂) (ccFr_trans k₅ n₅), kwFr_trans k₆ n₆, kwSt_trans k₇ n₇, n₈, fun y₁ => ?_⟩
      · have e₃ : f + (q + 1) + 1 = f + q + 1 + 1 := by omega
        rw [e₃, ccL19_10, e₁, fs]
        simp (disch := omega) only [ccE111, ccE112, f₁, true_and, and_true, false_and, and_false, if_true, if_false, ccIte, ccBi, ccBiX, ccBv, ccBvX, ccZ0, ccZ1, ccTZ, ccT0, ccT1, Bool.or_false, ccMckT, ccMckIn, ne_eq, not_true_eq_false, not_false_eq_true, if_pos, if_neg, reduceIte, eq_self, Bool.false_eq_true, Bool.true_eq_false, mix_N, N_add, N_mul, N_sub, N_div, ccMod, N_lt, N_le, N_eq, ccNm, ccMN, ccNm2, ccM2N, ccMM2, ccM2M, ccMlt, ccMle, ccNltM, ccNleM, ccM2lt, ccM2le, ccNlt2, ccNle2, Nat.reduceAdd, Nat.reduceMul, Nat.reduceSub, Nat.reduceLT, Nat.reduceLeDiff, Nat.reduceEqDiff, Nat.reduceDiv, Nat.reduceMod]
        exact n₁ f x rs
      · have e₃ : g + (q + 1) + 1 = g + q + 1 + 1 := by omega
        rw [e₃, kwH185_0, hB, kwE186l hB q₉, kwFd_is 96 0 fs (by omega) (by omega)]
        unfold kwY
        simp (disch := omega) only [hB, f₂ rs hB, true_and, and_true, false_and, and_false, if_true, if_false, ccIte, ccBi, ccBiX, ccBv, ccBvX, ccZ0, ccZ1, ccTZ, ccT0, ccT1, Bool.or_false, ccMckT, ccMckIn, ne_eq, not_true_eq_false, not_false_eq_true, if_pos, if_neg, reduceIte, eq_self, Bool.false_eq_true, Bool.true_eq_false, mix_N, N_add, N_mul, N_sub, N_div, ccMod, N_lt, N_le, N_eq, ccNm, ccMN, ccNm2, ccM2N, ccMM2, ccM2M, ccMlt, ccMle, ccNltM, ccNleM, ccM2lt, ccM2le, ccNlt2, ccNle2, Nat.reduceAdd, Nat.reduceMul, Nat.reduceSub, Nat.reduceLT, Nat.reduceLeDiff, Nat.reduceEqDiff, Nat.reduceDiv, Nat.reduceMod]
        exact n₂ g rs hB
      · rw [y₁ p (by omega)] at p₃
        cases p₃
theorem kwE19 {i B w l n lm dp cl bd h t : Nat} {β wt : Nat → Int32} {W : Nat → Nat} {bx : Bool} {mc mw : mMi} (q : kwJ mc mw i B w l n lm dp cl bd β wt W bx h t) : ∃ m₁ m₃ u v, (∀ rs, F19 i mc rs = rI (N v - N t) m₁ rs) ∧ (∀ rs, rs.2.1.1 B = true → H185 B mw rs = rV m₃ rs) ∧ kwJ m₁ m₃ i B w l n lm dp cl bd β wt W bx u v ∧ ccG (mc 0 i) (m₁ 0 i) t v ∧ ccFr i mc m₁ ∧ kwFr B mw m₃ ∧ kwSt B mw m₃ ∧ ccQt W (m₁ 0 i) w l ∧ (ccQt W (mc 0 i) w l → m₁ 0 i = mc 0 i ∧ v = t ∧ m₃ = mw) := by
  obtain ⟨m₁, m₃, u, v, k₁, k₂, k₃, k₄, k₅, k₆, k₇, k₈, k₉⟩ := kwSet 96 0 (by omega) mc mw h t q (ccCnt_le 96)
  refine ⟨m₁, m₃, u, v, fun rs => ?_, fun rs hB => ?_, k₃, k₄, k₅, k₆, k₇, k₈, k₉⟩
  · obtain ⟨g, hg⟩ := ccFU (k := 96) (by omega)
    have e₁ : m₁ 0 i 7 2 = N v := k₃.2.2.1.2.2.2.1
    have e₂ : mc 0 i 7 2 = N t := q.2.2.1.2.2.2.1
    unfold F19
    rw [hg, k₁, e₁, e₂]
  · obtain ⟨g, hg⟩ := ccFU (k := 96) (by omega)
    unfold H185
    rw [hg, hB, ccMckT]
    exact k₂ g rs hB
/-! wobbling too much -/
theorem kwH196_151 {f B : Nat} {x1 x2 x3 x4 : Int32} {mi : mMi} {rs : mRs} : H196_151 B (f + 1) x1 x2 x3 x4 mi rs = mckO (rs.2.1.1 B) (bI (H186 B (N 1) mi rs) (fun v1 m1 r1 => mckO (r1.2.1.1 B) (mifO (decide (v1 = (N 0))) (bV (H185 B m1 r1) (fun m2 r2 => mckO (r2.2.1.1 B) (some (.inl (some (mI ((m2 6 B 0 20) - x3))), m2, r2)))) (H196_151 B f x1 x2 x3 (m1 6 B 0 20) m1 r1)))) := rfl
theorem kwSetW {i B w l n lm dp cl bd : Nat} {β wt : Nat → Int32} {W : Nat → Nat} {bx : Bool} : ∀ q r, r + q ≤ 96 → ∀ (mc mw : mMi) (h t : Nat), kwJ mc mw i B w l n lm dp cl bd β wt W bx h t → mc 1 (RO i) 1 2 = N lm → ccCnt (ccP (mc 0 i)) 96 ≤ q →
    ∃ m₁ m₃ u v, (∀ f x1 x2 x3 rs, F35_70 i (f + q + 1) x1 x2 x3 (N r) mc rs = bI (F19 i m₁ rs) (fun v₁ m r₁ => rI (m 0 i 7 2 - x3) m r₁)) ∧ (∀ g x1 x2 x3 x4 rs, rs.2.1.1 B = true → H196_151 B (g + q + 1) x1 x2 x3 x4 mw rs = bV (H185 B m₃ rs) (fun m r₁ => mckO (r₁.2.1.1 B) (rI (m 6 B 0 20 - x3) m r₁))) ∧ kwJ m₁ m₃ i B w l n lm dp cl bd β wt W bx u v ∧ ccG (mc 0 i) (m₁ 0 i) t v ∧ ccFr i mc m₁ ∧ kwFr B mw m₃ ∧ kwSt B mw m₃ := by
  intro q
  induction q with
  | zero =>
    intro r h₁ mc mw h t q₀ x₁ h₂
    have nop : ∀ p, p < 96 → ccP (mc 0 i) p = false := fun p g₁ => ccCnt_zero 96 (by omega) p g₁
    have qt : ccQw (N lm) (mc 0 i) := fun p g₁ => by unfold ccBdw; rw [nop p g₁]; rfl
    have fs : ccFst (ccBdw (N lm) (mc 0 i)) 96 0 = I (-1) := by
      have e₁ := ccFst_skip (f := ccBdw (N lm) (mc 0 i)) 96 0 0 (fun p _ g₂ => qt p (by omega))
      exact e₁
    refine ⟨mc, mw, h, t, fun f x1 x2 x3 rs => ?_, fun g x1 x2 x3 x4 rs hB => ?_, q₀, ccG_rfl, ccFr_rfl, kwFr_rfl, kwSt_rfl⟩
    · rw [ccL35_70]
      by_cases g₁ : r = 96
      · subst g₁
        simp (disch := omega) only [true_and, and_true, false_and, and_false, if_true, if_false, ccIte, ccBi, ccBiX, ccBv, ccBvX, ccZ0, ccZ1, ccTZ, ccT0, ccT1, Bool.or_false, ccMckT, ccMckIn, ne_eq, not_true_eq_false, not_false_eq_true, if_pos, if_neg, reduceIte, eq_self, Bool.false_eq_true, Bool.true_eq_false, mix_N, N_add, N_mul, N_sub, N_div, ccMod, N_lt, N_le, N_eq, ccNm, ccMN, ccNm2, ccM2N, ccMM2, ccM2M, ccMlt, ccMle, ccNltM, ccNleM, ccM2lt, ccM2le, ccNlt2, ccNle2, Nat.reduceAdd, Nat.reduceMul, Nat.reduceSub, Nat.reduceLT, Nat.reduceLeDiff, Nat.reduceEqDiff, Nat.reduceDiv, Nat.reduceMod]
      · rw [x₁, ccE57 rfl, fs]
        simp (disch := omega) only [true_and, and_true, false_and, and_false, if_true, if_false, ccIte, ccBi, ccBiX, ccBv, ccBvX, ccZ0, ccZ1, ccTZ, ccT0, ccT1, Bool.or_false, ccMckT, ccMckIn, ne_eq, not_true_eq_false, not_false_eq_true, if_pos, if_neg, reduceIte, eq_self, Bool.false_eq_true, Bool.true_eq_false, mix_N, N_add, N_mul, N_sub, N_div, ccMod, N_lt, N_le, N_eq, ccNm, ccMN, ccNm2, ccM2N, ccMM2, ccM2M, ccMlt, ccMle, ccNltM, ccNleM, ccM2lt, ccM2le, ccNlt2, ccNle2, Nat.reduceAdd, Nat.reduceMul, Nat.reduceSub, Nat.reduceLT, Nat.reduceLeDiff, Nat.reduceEqDiff, Nat.reduceDiv, Nat.reduceMod]
    · rw [kwH196_151, hB, kwE186w hB q₀, kwFd_no 96 0 (fun p _ g₂ => qt p (by omega))]
      simp (disch := omega) only [hB, true_and, and_true, false_and, and_false, if_true, if_false, ccIte, ccBi, ccBiX, ccBv, ccBvX, ccZ0, ccZ1, ccTZ, ccT0, ccT1, Bool.or_false, ccMckT, ccMckIn, ne_eq, not_true_eq_false, not_false_eq_true, if_pos, if_neg, reduceIte, eq_self, Bool.false_eq_true, Bool.true_eq_false, mix_N, N_add, N_mul, N_sub, N_div, ccMod, N_lt, N_le, N_eq, ccNm, ccMN, ccNm2, ccM2N, ccMM2, ccM2M, ccMlt, ccMle, ccNltM, ccNleM, ccM2lt, ccM2le, ccNlt2, ccNle2, Nat.reduceAdd, Nat.reduceMul, Nat.reduceSub, Nat.reduceLT, Nat.reduceLeDiff, Nat.reduceEqDiff, Nat.reduceDiv, Nat.reduceMod]
  | succ q i₁ =>
    intro r h₁ mc mw h t q₀ x₁ h₂
    obtain ⟨mm, j₀⟩ := q₀.1
    rcases ccFst_is (f := ccBdw (N lm) (mc 0 i)) 96 0 with fs | ⟨p, fs, p₁, p₂, p₃⟩
    · have qt : ccQw (N lm) (mc 0 i) := fun p g₁ => ccFst_no 96 0 fs (by omega) p (by omega) (by omega)
      refine ⟨mc, mw, h, t, fun f x1 x2 x3 rs => ?_, fun g x1 x2 x3 x4 rs hB => ?_, q₀, ccG_rfl, ccFr_rfl, kwFr_rfl, kwSt_rfl⟩
      · rw [ccL35_70, x₁, ccE57 rfl, fs]
        simp (disch := omega) only [true_and, and_true, false_and, and_false, if_true, if_false, ccIte, ccBi, ccBiX, ccBv, ccBvX, ccZ0, ccZ1, ccTZ, ccT0, ccT1, Bool.or_false, ccMckT, ccMckIn, ne_eq, not_true_eq_false, not_false_eq_true, if_pos, if_neg, reduceIte, eq_self, Bool.false_eq_true, Bool.true_eq_false, mix_N, N_add, N_mul, N_sub, N_div, ccMod, N_lt, N_le, N_eq, ccNm, ccMN, ccNm2, ccM2N, ccMM2, ccM2M, ccMlt, ccMle, ccNltM, ccNleM, ccM2lt, ccM2le, ccNlt2, ccNle2, Nat.reduceAdd, Nat.reduceMul, Nat.reduceSub, Nat.reduceLT, Nat.reduceLeDiff, Nat.reduceEqDiff, Nat.reduceDiv, Nat.reduceMod]
      · rw [kwH196_151, hB, kwE186w hB q₀, kwFd_no 96 0 (fun p _ g₂ => qt p (by omega))]
        simp (disch := omega) only [hB, true_and, and_true, false_and, and_false, if_true, if_false, ccIte, ccBi, ccBiX, ccBv, ccBvX, ccZ0, ccZ1, ccTZ, ccT0, ccT1, Bool.or_false, ccMckT, ccMckIn, ne_eq, not_true_eq_false, not_false_eq_true, if_pos, if_neg, reduceIte, eq_self, Bool.false_eq_true, Bool.true_eq_false, mix_N, N_add, N_mul, N_sub, N_div, ccMod, N_lt, N_le, N_eq, ccNm, ccMN, ccNm2, ccM2N, ccMM2, ccM2M, ccMlt, ccMle, ccNltM, ccNleM, ccM2lt, ccM2le, ccNlt2, ccNle2, Nat.reduceAdd, Nat.reduceMul, Nat.reduceSub, Nat.reduceLT, Nat.reduceLeDiff, Nat.reduceEqDiff, Nat.reduceDiv, Nat.reduceMod]
    · have p₄ : mc 0 i 2 p ≠ I (-1) := by
        unfold ccBdw ccP at p₃
        simp only [Bool.and_eq_true, Bool.not_eq_true', decide_eq_false_iff_not] at p₃
        exact p₃.1
      obtain ⟨p₅, p₆⟩ := (j₀.1.2.2.2.2.2.2.1 p (by omega)).1 p₄
      have p₇ : 12 * (p / 12) + p % 12 = p := by omega
      obtain ⟨m₃, m₄, u, v, f₁, f₂, j₃, g₃, k₅, k₆, k₇, f₄⟩ := kwGoP (L := p / 12) (c := p % 12) (cs := 1) (x := I (-1)) q₀ p₅ p₆ (by rw [p₇]; exact p₄) (by omega)
      rw [p₇] at f₄
      obtain ⟨g₄, g₅⟩ := ccG_less g₃ (by omega) p₄ f₄
      obtain ⟨m₅, m₆, u₂, v₂, n₁, n₂, n₃, n₄, n₅, n₆, n₇⟩ := i₁ (r + 1) (by omega) m₃ m₄ u v j₃ (by rw [k₅ 1 (RO i) 1 2 (by omega) (by omega)]; exact x₁) (by omega)
      refine ⟨m₅, m₆, u₂, v₂, fun f x1 x2 x3 rs => ?_, fun g x1 x2 x3 x4 rs hB => ?_, n₃, ccG_trans g₃ n₄, ccFr_trans k₅ n₅, kwFr_trans k₆ n₆, kwSt_trans k₇ n₇⟩
      · have e₃ : f + (q + 1) + 1 = f + q + 1 + 1 := by omega
        rw [e₃, ccL35_70, x₁, ccE57 rfl, fs]
        simp (disch := omega) only [ccE111, ccE112, f₁, true_and, and_true, false_and, and_false, if_true, if_false, ccIte, ccBi, ccBiX, ccBv, ccBvX, ccZ0, ccZ1, ccTZ, ccT0, ccT1, Bool.or_false, ccMckT, ccMckIn, ne_eq, not_true_eq_false, not_false_eq_true, if_pos, if_neg, reduceIte, eq_self, Bool.false_eq_true, Bool.true_eq_false, mix_N, N_add, N_mul, N_sub, N_div, ccMod, N_lt, N_le, N_eq, ccNm, ccMN, ccNm2, ccM2N, ccMM2, ccM2M, ccMlt, ccMle, ccNltM, ccNleM, ccM2lt, ccM2le, ccNlt2, ccNle2, Nat.reduceAdd, Nat.reduceMul, Nat.reduceSub, Nat.reduceLT, Nat.reduceLeDiff, Nat.reduceEqDiff, Nat.reduceDiv, Nat.reduceMod]
        exact n₁ f x1 x2 x3 rs
      · have e₃ : g + (q + 1) + 1 = g + q + 1 + 1 := by omega
        rw [e₃, kwH196_151, hB, kwE186w hB q₀, kwFd_is 96 0 fs (by omega) (by omega)]
        unfold kwY
        simp (disch := omega) only [hB, f₂ rs hB, true_and, and_true, false_and, and_false, if_true, if_false, ccIte, ccBi, ccBiX, ccBv, ccBvX, ccZ0, ccZ1, ccTZ, ccT0, ccT1, Bool.or_false, ccMckT, ccMckIn, ne_eq, not_true_eq_false, not_false_eq_true, if_pos, if_neg, reduceIte, eq_self, Bool.false_eq_true, Bool.true_eq_false, mix_N, N_add, N_mul, N_sub, N_div, ccMod, N_lt, N_le, N_eq, ccNm, ccMN, ccNm2, ccM2N, ccMM2, ccM2M, ccMlt, ccMle, ccNltM, ccNleM, ccM2lt, ccM2le, ccNlt2, ccNle2, Nat.reduceAdd, Nat.reduceMul, Nat.reduceSub, Nat.reduceLT, Nat.reduceLeDiff, Nat.reduceEqDiff, Nat.reduceDiv, Nat.reduceMod]
        exact n₂ g x1 x2 x3 _ rs hB
