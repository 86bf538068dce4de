/-! WORLD: loads, strengths, reserves. -/
theorem kwHR189 {f B : Nat} {x1 x2 : Int32} {mi : mMi} {rs : mRs} : HR189 (f + 1) 189 B x1 x2 mi rs = mckO (rs.2.1.1 B) (bI (H179 B (x1 + (N 1)) (x2 - (N 1)) mi rs) (fun v1 m1 r1 => mckO (r1.2.1.1 B) (mifO (decide (v1 = (N 0))) (bI (H179 B (x1 + (N 1)) x2 m1 r1) (fun v2 m2 r2 => mckO (r2.2.1.1 B) (mifO (decide (v2 = (N 0))) (some (.inl (some (mI ((N 0) + (N 0)))), m2, r2)) (bI (HR189 f 190 B (x1 + (N 1)) x2 m2 r2) (fun v3 m3 r3 => mckO (r3.2.1.1 B) (some (.inl (some (mI ((N 0) + ((v3 + (N 1)) / (N 2))))), m3, r3))))))) (bI (HR189 f 190 B (x1 + (N 1)) (x2 - (N 1)) m1 r1) (fun v4 m4 r4 => mckO (r4.2.1.1 B) (bI (H179 B (x1 + (N 1)) x2 m4 r4) (fun v5 m5 r5 => mckO (r5.2.1.1 B) (mifO (decide (v5 = (N 0))) (some (.inl (some (mI ((v4 / (N 2)) + (N 0)))), m5, r5)) (bI (HR189 f 190 B (x1 + (N 1)) x2 m5 r5) (fun v6 m6 r6 => mckO (r6.2.1.1 B) (some (.inl (some (mI ((v4 / (N 2)) + ((v6 + (N 1)) / (N 2))))), m6, r6)))))))))))) := rfl
theorem kwHR190 {f B : Nat} {x1 x2 : Int32} {mi : mMi} {rs : mRs} : HR189 (f + 1) 190 B x1 x2 mi rs = mckO (rs.2.1.1 B) (mckO (mIn x1 10) (mckO (mIn x2 14) (mckO (mIn (mi 24 B (mix x1) (mix x2)) 40) (bI (H178 B x1 x2 mi rs) (fun v1 m1 r1 => mckO (r1.2.1.1 B) (mifO (decide (v1 = (N 0))) (some (.inl (some (mI ((mi 6 B 3 (mix (mi 24 B (mix x1) (mix x2)))) + (N 0)))), m1, r1)) (mckO (mIn x1 10) (mckO (mIn x2 14) (mckO (mIn (m1 20 B (mix x1) (mix x2)) 40) (mckO (mIn x1 10) (mckO (mIn x2 14) (mckO (mIn (m1 21 B (mix x1) (mix x2)) 40) (bI (HR189 f 189 B x1 x2 m1 r1) (fun v2 m2 r2 => mckO (r2.2.1.1 B) (some (.inl (some (mI ((mi 6 B 3 (mix (mi 24 B (mix x1) (mix x2)))) + (((m1 6 B 3 (mix (m1 20 B (mix x1) (mix x2)))) + (m1 6 B 3 (mix (m1 21 B (mix x1) (mix x2))))) + v2)))), m2, r2)))))))))))))))) := rfl
theorem kwH186_2 {f B : Nat} {x1 x2 x3 : Int32} {mi : mMi} {rs : mRs} : H186_2 B (f + 1) 2 x1 x2 x3 mi rs = mckO (rs.2.1.1 B) (mckO (mIn (N 1) 6) (mifO (decide ((mi 6 B 1 1) ≤ x2)) (some (.inl (some (mI (N 0))), mi, rs)) (H186_2 B f 14 x1 x2 (N 0) mi rs))) := rfl
theorem kwH186_14 {f B : Nat} {x1 x2 x3 : Int32} {mi : mMi} {rs : mRs} : H186_2 B (f + 1) 14 x1 x2 x3 mi rs = mckO (rs.2.1.1 B) (mckO (mIn (N 0) 6) (mifO (decide (((mi 6 B 1 0) - x2) ≤ x3)) (H186_2 B f 2 x1 (x2 + (N 1)) (N 0) mi rs) (bI (H178 B x2 x3 mi rs) (fun v1 m1 r1 => mckO (r1.2.1.1 B) (mifO (decide (v1 = (N 0))) (H186_2 B f 14 x1 x2 (x3 + (N 1)) m1 r1) (mifO (decide (x1 = (N 0))) (bI (H187 B x2 x3 m1 r1) (fun v2 m2 r2 => mckO (r2.2.1.1 B) (mifO (decide (v2 < (N 0))) (mifO (decide (x1 = (N 0))) (bV (H191 B x2 x3 (N 0) (I (-1)) m2 r2) (fun m3 r3 => mckO (r3.2.1.1 B) (some (.inl (some (mI (N 1))), m3, r3)))) (bV (H191 B x2 x3 (N 1) (I (-1)) m2 r2) (fun m4 r4 => mckO (r4.2.1.1 B) (some (.inl (some (mI (N 1))), m4, r4))))) (H186_2 B f 14 x1 x2 (x3 + (N 1)) m2 r2)))) (mckO (mIn x2 10) (mckO (mIn x3 14) (mckO (mIn (N 2) 6) (mifO (decide ((m1 6 B 1 2) < (m1 23 B (mix x2) (mix x3)))) (mifO (decide (x1 = (N 0))) (bV (H191 B x2 x3 (N 0) (I (-1)) m1 r1) (fun m5 r5 => mckO (r5.2.1.1 B) (some (.inl (some (mI (N 1))), m5, r5)))) (bV (H191 B x2 x3 (N 1) (I (-1)) m1 r1) (fun m6 r6 => mckO (r6.2.1.1 B) (some (.inl (some (mI (N 1))), m6, r6))))) (H186_2 B f 14 x1 x2 (x3 + (N 1)) m1 r1))))))))))) := rfl
theorem kwH185_0 {f B : Nat} {mi : mMi} {rs : mRs} : H185_0 B (f + 1) mi rs = mckO (rs.2.1.1 B) (bI (H186 B (N 0) mi rs) (fun v1 m1 r1 => mckO (r1.2.1.1 B) (mifO (decide (v1 = (N 0))) (some (.inl none, m1, r1)) (H185_0 B f m1 r1)))) := rfl
def kwW (m : mMi) (B n : Nat) (W : Nat → Nat) : Prop := ∀ k, k < n → m 6 B 3 k = N (W k)
def kwQ189 (m : mMi) (B w l : Nat) (W : Nat → Nat) (C : Nat → Nat → Int32) (d : Nat) : Prop := ∀ L c f (rs : mRs), rs.2.1.1 B = true → L + (d + 1) = 8 → c < 12 → 2 * d + 1 ≤ f → HR189 f 189 B (N L) (N c) m rs = rI (N (ccPL W C w l d L c)) m rs
def kwQ190 (m : mMi) (B w l : Nat) (W : Nat → Nat) (C : Nat → Nat → Int32) (d : Nat) : Prop := ∀ L c f (rs : mRs), rs.2.1.1 B = true → L + d = 8 → ccHF C w l L c = true → 2 * d ≤ f → HR189 f 190 B (N L) (N c) m rs = rI (N (ccFL W C w l d L c)) m rs
theorem kwL189 {m : mMi} {B w l n lm dp cl bd d : Nat} {W : Nat → Nat} {C : Nat → Nat → Int32} (q : kwS m B w l n lm dp cl bd) (g : kwG m B C) (q₂ : ccCd n C) (q₃ : ccWok n W) (H : kwQ190 m B w l W C d) : kwQ189 m B w l W C d := by
  intro L c f rs hB h₁ h₂ h₃
  have q₁ := q
  obtain ⟨_, _, _, _, _, _, _, b₁, b₂, b₃, b₄, b₅, _⟩ := q
  obtain ⟨f₁, rfl⟩ : ∃ f₁, f = f₁ + 1 := ⟨f - 1, by omega⟩
  have u₁ : L + 1 < 1000 := by omega
  have f₁' : ∀ c₁, ccFL W C w l d (L + 1) c₁ < 1000000 := fun c₁ => by
    have f₂ := ccFL_le q₂ q₃ b₂ b₄ b₅ d (L + 1) c₁
    omega
  rw [kwHR189]
  cases c with
  | zero =>
    have e₀ : N 0 - N 1 = I (-1) := rfl
    rw [e₀]
    obtain ⟨b, hb⟩ : ∃ b, b = ccFL W C w l d (L + 1) 0 := ⟨_, rfl⟩
    have b₉ : b < 1000000 := by rw [hb]; exact f₁' 0
    have e₄ : ccPL W C w l d L 0 = 0 + (b - b / 2) := by rw [hb]; rfl
    have e₅ : (b + 1) / 2 = b - b / 2 := by omega
    have s₁ := kwE179 (rs := rs) (L := L + 1) (c := 0) hB q₁ g q₂ u₁ (by omega)
    cases hp : ccHF C w l (L + 1) 0
    · have b₀ : b = 0 := by rw [hb]; exact ccFL_0 hp
      rw [hp] at s₁
      rw [e₄, b₀]
      simp (disch := omega) only [hB, N_add, kwE179m hB u₁, s₁, true_and, and_true, false_and, and_false, if_true, if_false, ccIte, ccBi, ccBiX, ccBv, ccBvX, ccZ0, ccZ1, ccTZ, ccT0, ccT1, Bool.or_false, ccMckT, ccMckIn, ne_eq, not_true_eq_false, not_false_eq_true, if_pos, if_neg, reduceIte, eq_self, Bool.false_eq_true, Bool.true_eq_false, mix_N, N_add, N_mul, N_sub, N_div, ccMod, N_lt, N_le, N_eq, ccNm, ccMN, ccNm2, ccM2N, ccMM2, ccM2M, ccMlt, ccMle, ccNltM, ccNleM, ccM2lt, ccM2le, ccNlt2, ccNle2, Nat.reduceAdd, Nat.reduceMul, Nat.reduceSub, Nat.reduceLT, Nat.reduceLeDiff, Nat.reduceEqDiff, Nat.reduceDiv, Nat.reduceMod]
    · have e₆ := H (L + 1) 0 f₁ rs hB (by omega) hp (by omega)
      rw [← hb] at e₆
      rw [hp] at s₁
      rw [e₄, ← e₅]
      simp (disch := omega) only [hB, N_add, kwE179m hB u₁, s₁, e₆, true_and, and_true, false_and, and_false, if_true, if_false, ccIte, ccBi, ccBiX, ccBv, ccBvX, ccZ0, ccZ1, ccTZ, ccT0, ccT1, Bool.or_false, ccMckT, ccMckIn, ne_eq, not_true_eq_false, not_false_eq_true, if_pos, if_neg, reduceIte, eq_self, Bool.false_eq_true, Bool.true_eq_false, mix_N, N_add, N_mul, N_sub, N_div, ccMod, N_lt, N_le, N_eq, ccNm, ccMN, ccNm2, ccM2N, ccMM2, ccM2M, ccMlt, ccMle, ccNltM, ccNleM, ccM2lt, ccM2le, ccNlt2, ccNle2, Nat.reduceAdd, Nat.reduceMul, Nat.reduceSub, Nat.reduceLT, Nat.reduceLeDiff, Nat.reduceEqDiff, Nat.reduceDiv, Nat.reduceMod]
  | succ c =>
    have e₀ : N (c + 1) - N 1 = N c := by
      rw [N_sub (by omega), Nat.add_sub_cancel]
    rw [e₀]
    obtain ⟨a, ha⟩ : ∃ b, b = ccFL W C w l d (L + 1) c := ⟨_, rfl⟩
    obtain ⟨b, hb⟩ : ∃ b, b = ccFL W C w l d (L + 1) (c + 1) := ⟨_, rfl⟩
    have a₉ : a < 1000000 := by rw [ha]; exact f₁' c
    have b₉ : b < 1000000 := by rw [hb]; exact f₁' (c + 1)
    have e₄ : ccPL W C w l d L (c + 1) = a / 2 + (b - b / 2) := by rw [ha, hb]; rfl
    have e₅ : (b + 1) / 2 = b - b / 2 := by omega
    have s₁ := kwE179 (rs := rs) (L := L + 1) (c := c + 1) hB q₁ g q₂ u₁ (by omega)
    have s₂ := kwE179 (rs := rs) (L := L + 1) (c := c) hB q₁ g q₂ u₁ (by omega)
    cases hp : ccHF C w l (L + 1) (c + 1)
    · have b₀ : b = 0 := by rw [hb]; exact ccFL_0 hp
      rw [hp] at s₁
      cases hq : ccHF C w l (L + 1) c
      · have a₀ : a = 0 := by rw [ha]; exact ccFL_0 hq
        rw [hq] at s₂
        rw [e₄, b₀, a₀]
        simp (disch := omega) only [hB, N_add, s₁, s₂, true_and, and_true, false_and, and_false, if_true, if_false, ccIte, ccBi, ccBiX, ccBv, ccBvX, ccZ0, ccZ1, ccTZ, ccT0, ccT1, Bool.or_false, ccMckT, ccMckIn, ne_eq, not_true_eq_false, not_false_eq_true, if_pos, if_neg, reduceIte, eq_self, Bool.false_eq_true, Bool.true_eq_false, mix_N, N_add, N_mul, N_sub, N_div, ccMod, N_lt, N_le, N_eq, ccNm, ccMN, ccNm2, ccM2N, ccMM2, ccM2M, ccMlt, ccMle, ccNltM, ccNleM, ccM2lt, ccM2le, ccNlt2, ccNle2, Nat.reduceAdd, Nat.reduceMul, Nat.reduceSub, Nat.reduceLT, Nat.reduceLeDiff, Nat.reduceEqDiff, Nat.reduceDiv, Nat.reduceMod]
      · have e₇ := H (L + 1) c f₁ rs hB (by omega) hq (by omega)
        rw [← ha] at e₇
        rw [hq] at s₂
        rw [e₄, b₀]
        simp (disch := omega) only [hB, N_add, s₁, s₂, e₇, true_and, and_true, false_and, and_false, if_true, if_false, ccIte, ccBi, ccBiX, ccBv, ccBvX, ccZ0, ccZ1, ccTZ, ccT0, ccT1, Bool.or_false, ccMckT, ccMckIn, ne_eq, not_true_eq_false, not_false_eq_true, if_pos, if_neg, reduceIte, eq_self, Bool.false_eq_true, Bool.true_eq_false, mix_N, N_add, N_mul, N_sub, N_div, ccMod, N_lt, N_le, N_eq, ccNm, ccMN, ccNm2, ccM2N, ccMM2, ccM2M, ccMlt, ccMle, ccNltM, ccNleM, ccM2lt, ccM2le, ccNlt2, ccNle2, Nat.reduceAdd, Nat.reduceMul, Nat.reduceSub, Nat.reduceLT, Nat.reduceLeDiff, Nat.reduceEqDiff, Nat.reduceDiv, Nat.reduceMod]
    · have e₆ := H (L + 1) (c + 1) f₁ rs hB (by omega) hp (by omega)
      rw [← hb] at e₆
      rw [hp] at s₁
      cases hq : ccHF C w l (L + 1) c
      · have a₀ : a = 0 := by rw [ha]; exact ccFL_0 hq
        rw [hq] at s₂
        rw [e₄, a₀, ← e₅]
        simp (disch := omega) only [hB, N_add, s₁, s₂, e₆, true_and, and_true, false_and, and_false, if_true, if_false, ccIte, ccBi, ccBiX, ccBv, ccBvX, ccZ0, ccZ1, ccTZ, ccT0, ccT1, Bool.or_false, ccMckT, ccMckIn, ne_eq, not_true_eq_false, not_false_eq_true, if_pos, if_neg, reduceIte, eq_self, Bool.false_eq_true, Bool.true_eq_false, mix_N, N_add, N_mul, N_sub, N_div, ccMod, N_lt, N_le, N_eq, ccNm, ccMN, ccNm2, ccM2N, ccMM2, ccM2M, ccMlt, ccMle, ccNltM, ccNleM, ccM2lt, ccM2le, ccNlt2, ccNle2, Nat.reduceAdd, Nat.reduceMul, Nat.reduceSub, Nat.reduceLT, Nat.reduceLeDiff, Nat.reduceEqDiff, Nat.reduceDiv, Nat.reduceMod]
      · have e₇ := H (L + 1) c f₁ rs hB (by omega) hq (by omega)
        rw [← ha] at e₇
        rw [hq] at s₂
        rw [e₄, ← e₅]
        simp (disch := omega) only [hB, N_add, s₁, s₂, e₆, e₇, true_and, and_true, false_and, and_false, if_true, if_false, ccIte, ccBi, ccBiX, ccBv, ccBvX, ccZ0, ccZ1, ccTZ, ccT0, ccT1, Bool.or_false, ccMckT, ccMckIn, ne_eq, not_true_eq_false, not_false_eq_true, if_pos, if_neg, reduceIte, eq_self, Bool.false_eq_true, Bool.true_eq_false, mix_N, N_add, N_mul, N_sub, N_div, ccMod, N_lt, N_le, N_eq, ccNm, ccMN, ccNm2, ccM2N, ccMM2, ccM2M, ccMlt, ccMle, ccNltM, ccNleM, ccM2lt, ccM2le, ccNlt2, ccNle2, Nat.reduceAdd, Nat.reduceMul, Nat.reduceSub, Nat.reduceLT, Nat.reduceLeDiff, Nat.reduceEqDiff, Nat.reduceDiv, Nat.reduceMod]
theorem kwL190 {m : mMi} {B w l n lm dp cl bd d : Nat} {W : Nat → Nat} {C : Nat → Nat → Int32} (q : kwS m B w l n lm dp cl bd) (g : kwG m B C) (q₂ : ccCd n C) (q₃ : ccWok n W) (q₅ : kwW m B n W) (H : kwQ189 m B w l W C d) : kwQ190 m B w l W C (d + 1) := by
  intro L c f rs hB h₁ hf h₃
  have q₁ := q
  obtain ⟨_, _, _, _, _, _, _, b₁, b₂, b₃, b₄, b₅, _⟩ := q
  obtain ⟨f₁, rfl⟩ : ∃ f₁, f = f₁ + 1 := ⟨f - 1, by omega⟩
  obtain ⟨h₄, h₅, h₆⟩ := ccHF_t hf
  obtain ⟨a, y₁, y₂⟩ := q₂.2 (12 * L + c) (by omega) h₆
  have y₃ := (q₃ a y₁).2
  obtain ⟨r₁, r₂, r₃⟩ := g L c (by omega) (by omega)
  rw [y₂] at r₂
  have y₄ := q₅ a y₁
  have e₀ : ccFL W C w l (d + 1) L c = if ccHF C w l L c = true then W (mix (C 6 (12 * L + c))) + (if ccHP C w l L c = true then W (mix (C 2 (12 * L + c))) + W (mix (C 3 (12 * L + c))) + ccPL W C w l d L c else 0) else 0 := rfl
  have p₁ := ccPL_le (L := L) (c := c) (d := d) q₂ q₃ b₂ b₄ b₅
  have s₁ := kwE178 (rs := rs) (L := L) (c := c) hB q₁ g q₂ (by omega) (by omega)
  have s₂ := H L c f₁ rs hB (by omega) (by omega) (by omega)
  rw [kwHR190]
  cases hp : ccHP C w l L c
  · have e₁ : ccFL W C w l (d + 1) L c = W a + 0 := by
      rw [e₀, hf, hp, if_pos rfl, if_neg (by decide), y₂, mix_N (by omega)]
    rw [hp] at s₁
    rw [e₁]
    simp (disch := omega) only [hB, s₁, r₂, y₄, true_and, and_true, false_and, and_false, if_true, if_false, ccIte, ccBi, ccBiX, ccBv, ccBvX, ccZ0, ccZ1, ccTZ, ccT0, ccT1, Bool.or_false, ccMckT, ccMckIn, ne_eq, not_true_eq_false, not_false_eq_true, if_pos, if_neg, reduceIte, eq_self, Bool.false_eq_true, Bool.true_eq_false, mix_N, N_add, N_mul, N_sub, N_div, ccMod, N_lt, N_le, N_eq, ccNm, ccMN, ccNm2, ccM2N, ccMM2, ccM2M, ccMlt, ccMle, ccNltM, ccNleM, ccM2lt, ccM2le, ccNlt2, ccNle2, Nat.reduceAdd, Nat.reduceMul, Nat.reduceSub, Nat.reduceLT, Nat.reduceLeDiff, Nat.reduceEqDiff, Nat.reduceDiv, Nat.reduceMod]
  · obtain ⟨_, _, h₇⟩ := ccHP_t hp
    obtain ⟨x, y, z₁, z₂, z₃, z₄⟩ := q₂.1 (12 * L + c) (by omega) h₇
    have e₁ : ccFL W C w l (d + 1) L c = W a + (W x + W y + ccPL W C w l d L c) := by
      rw [e₀, hf, hp, if_pos rfl, if_pos rfl, y₂, z₃, z₄, mix_N (by omega), mix_N (by omega), mix_N (by omega)]
    have r₄ := (r₃ h₇).1
    rw [z₃] at r₁
    rw [z₄] at r₄
    rw [hp] at s₁
    rw [e₁]
    obtain ⟨v, hv⟩ : ∃ v, v = ccPL W C w l d L c := ⟨_, rfl⟩
    rw [← hv] at s₂ p₁ ⊢
    simp (disch := omega) only [hB, s₁, s₂, r₁, r₂, r₄, y₄, q₅ x z₁, q₅ y z₂, true_and, and_true, false_and, and_false, if_true, if_false, ccIte, ccBi, ccBiX, ccBv, ccBvX, ccZ0, ccZ1, ccTZ, ccT0, ccT1, Bool.or_false, ccMckT, ccMckIn, ne_eq, not_true_eq_false, not_false_eq_true, if_pos, if_neg, reduceIte, eq_self, Bool.false_eq_true, Bool.true_eq_false, mix_N, N_add, N_mul, N_sub, N_div, ccMod, N_lt, N_le, N_eq, ccNm, ccMN, ccNm2, ccM2N, ccMM2, ccM2M, ccMlt, ccMle, ccNltM, ccNleM, ccM2lt, ccM2le, ccNlt2, ccNle2, Nat.reduceAdd, Nat.reduceMul, Nat.reduceSub, Nat.reduceLT, Nat.reduceLeDiff, Nat.reduceEqDiff, Nat.reduceDiv, Nat.reduceMod]
theorem kwQs {m : mMi} {B w l n lm dp cl bd : Nat} {W : Nat → Nat} {C : Nat → Nat → Int32} (q : kwS m B w l n lm dp cl bd) (g : kwG m B C) (q₂ : ccCd n C) (q₃ : ccWok n W) (q₅ : kwW m B n W) : ∀ d, kwQ190 m B w l W C d := by
  intro d
  induction d with
  | zero =>
    intro L c f rs _ h₁ hf _
    obtain ⟨h₄, _, _⟩ := ccHF_t hf
    obtain ⟨_, _, _, _, _, _, _, _, _, _, b₄, _, _⟩ := q
    omega
  | succ d i₁ => exact kwL190 q g q₂ q₃ q₅ (kwL189 q g q₂ q₃ i₁)
theorem kwE189 {m : mMi} {rs : mRs} {B w l n lm dp cl bd L c : Nat} {W : Nat → Nat} {C : Nat → Nat → Int32} (hB : rs.2.1.1 B = true) (q : kwS m B w l n lm dp cl bd) (g : kwG m B C) (q₂ : ccCd n C) (q₃ : ccWok n W) (q₅ : kwW m B n W) (h₁ : L < 8) (h₂ : c < 12) : H189 B (N L) (N c) m rs = rI (N (ccPL W C w l (7 - L) L c)) m rs := by
  unfold H189
  exact kwL189 q g q₂ q₃ (kwQs q g q₂ q₃ q₅ (7 - L)) L c 24 rs hB (by omega) h₂ (by omega)
theorem kwE188 {m : mMi} {rs : mRs} {B w l n lm dp cl bd L c : Nat} {C : Nat → Nat → Int32} (hB : rs.2.1.1 B = true) (q : kwS m B w l n lm dp cl bd) (g : kwG m B C) (k : kwK ccX0 n m B C) (q₂ : ccCd n C) (h₁ : L < 8) (h₂ : c < 12) (h₃ : C 2 (12 * L + c) ≠ I (-1)) : H188 B (N L) (N c) m rs = rI (ccStp C (12 * L + c)) m rs := by
  obtain ⟨_, _, _, _, _, _, _, b₁, b₂, b₃, b₄, b₅, _⟩ := q
  obtain ⟨a, b, e₁, e₂, e₃, e₄⟩ := q₂.1 (12 * L + c) (by omega) h₃
  obtain ⟨f₁, f₂, f₃⟩ := g L c h₁ h₂
  obtain ⟨f₄, f₅, f₆⟩ := f₃ h₃
  have k₁ := (k a e₁).1
  have k₂ := (k b e₂).1
  rw [e₃] at f₁
  rw [e₄] at f₄
  unfold H188 ccStp ccStf ccSB
  rw [e₃, e₄]
  simp (disch := omega) only [hB, f₁, f₄, f₅, k₁, k₂, ccBi, ccMckT, ccMckIn, mix_N]
theorem kwE187 {m : mMi} {rs : mRs} {B w l n lm dp cl bd L c : Nat} {W : Nat → Nat} {C : Nat → Nat → Int32} (hB : rs.2.1.1 B = true) (q : kwS m B w l n lm dp cl bd) (g : kwG m B C) (k : kwK ccX0 n m B C) (q₂ : ccCd n C) (q₃ : ccWok n W) (q₅ : kwW m B n W) (h₁ : L < 8) (h₂ : c < 12) (h₃ : C 2 (12 * L + c) ≠ I (-1)) : H187 B (N L) (N c) m rs = rI (ccRv W C w l (12 * L + c)) m rs := by
  have e₁ : (12 * L + c) / 12 = L := by omega
  have e₂ : (12 * L + c) % 12 = c := by omega
  unfold H187 ccRv
  rw [e₁, e₂]
  simp only [hB, kwE188 hB q g k q₂ h₁ h₂ h₃, kwE189 hB q g q₂ q₃ q₅ h₁ h₂, ccBi, ccMckT]
/-! the first place of a kind -/
def kwFd (Y : Nat → mRz) (z : mRz) (bad : Nat → Bool) : Nat → Nat → mRz
  | 0, _ => z
  | d + 1, p => if bad p = true then Y p else kwFd Y z bad d (p + 1)
theorem kwFd_skip {Y : Nat → mRz} {z : mRz} {f : Nat → Bool} : ∀ e d p, (∀ q, p ≤ q → q < p + e → f q = false) → kwFd Y z f (e + d) p = kwFd Y z f d (p + e) := by
  intro e
  induction e with
  | zero => intro d p _; rw [Nat.zero_add, Nat.add_zero]
  | succ e i₁ =>
    intro d p h₁
    have e₁ : e + 1 + d = e + d + 1 := by omega
    have e₂ : p + (e + 1) = p + 1 + e := by omega
    rw [e₁, e₂]
    show (if f p = true then Y p else kwFd Y z f (e + d) (p + 1)) = _
    rw [h₁ p (by omega) (by omega), if_neg (by decide)]
    exact i₁ d (p + 1) (fun q g₁ g₂ => h₁ q (by omega) (by omega))
theorem kwFd_no {Y : Nat → mRz} {z : mRz} {f : Nat → Bool} : ∀ d p, (∀ q, p ≤ q → q < p + d → f q = false) → kwFd Y z f d p = z := by
  intro d p h₁
  have e₁ := kwFd_skip (Y := Y) (z := z) d 0 p h₁
  rw [Nat.add_zero] at e₁
  rw [e₁]
  rfl
theorem kwFd_is {Y : Nat → mRz} {z : mRz} {f : Nat → Bool} {q : Nat} : ∀ d p, ccFst f d p = N q → p + d < 1000 → q < 1000 → kwFd Y z f d p = Y q := by
  intro d
  induction d with
  | zero =>
    intro p h₁ _ h₂
    have h₃ : I (-1) = N q := h₁
    exact False.elim ((ccNm (by omega)).mp h₃.symm)
  | succ d i₁ =>
    intro p h₁ h₂ h₃
    have h₄ : (if f p = true then N p else ccFst f d (p + 1)) = N q := h₁
    show (if f p = true then Y p else kwFd Y z f d (p + 1)) = _
    by_cases h₅ : f p = true
    · rw [if_pos h₅] at h₄ ⊢
      rw [ccNinj h₄ (by omega) (by omega)]
    · rw [if_neg h₅] at h₄ ⊢
      exact i₁ (p + 1) h₄ (by omega) h₃
theorem kwL186in {m : mMi} {rs : mRs} {B w l n lm dp cl bd L T : Nat} {x : Int32} {bad : Nat → Bool} {Y : Nat → mRz} {z : mRz} (hB : rs.2.1.1 B = true) (q₁ : kwS m B w l n lm dp cl bd) (h₁ : L < l) (hb : ∀ p, p < 96 → bad p = true → p / 12 < l ∧ p / 12 + p % 12 < w)
    (hs : ∀ c f, L + c < w → H186_2 B (f + 1) 14 x (N L) (N c) m rs = if bad (12 * L + c) = true then Y (12 * L + c) else H186_2 B f 14 x (N L) (N (c + 1)) m rs)
    (hn : ∀ f, H186_2 B (f + T) 2 x (N (L + 1)) (N 0) m rs = kwFd Y z bad (96 - 12 * (L + 1)) (12 * (L + 1))) : ∀ e c, c + e = w - L → ∀ f, H186_2 B (f + T + e + 1) 14 x (N L) (N c) m rs = kwFd Y z bad (96 - (12 * L + c)) (12 * L + c) := by
  obtain ⟨q₂, _, _, _, _, _, _, b₁, b₂, b₃, b₄, b₅, _⟩ := q₁
  intro e
  induction e with
  | zero =>
    intro c g₁ f
    have e₁ : 96 - (12 * L + c) = (12 - c) + (96 - 12 * (L + 1)) := by omega
    have e₂ : 12 * L + c + (12 - c) = 12 * (L + 1) := by omega
    rw [e₁, kwFd_skip (12 - c) _ _ (fun q y₁ y₂ => by
      by_cases y₃ : bad q = true
      · have y₄ := hb q (by omega) y₃
        omega
      · exact Bool.eq_false_iff.mpr y₃), e₂, kwH186_14, q₂]
    by_cases y₁ : L ≤ w
    · simp (disch := omega) only [hB, true_and, and_true, false_and, and_false, if_true, if_false, ccIte, ccBi, ccBiX, ccBv, ccBvX, ccZ0, ccZ1, ccTZ, ccT0, ccT1, Bool.or_false, ccMckT, ccMckIn, ne_eq, not_true_eq_false, not_false_eq_true, if_pos, if_neg, reduceIte, eq_self, Bool.false_eq_true, Bool.true_eq_false, mix_N, N_add, N_mul, N_sub, N_div, ccMod, N_lt, N_le, N_eq, ccNm, ccMN, ccNm2, ccM2N, ccMM2, ccM2M, ccMlt, ccMle, ccNltM, ccNleM, ccM2lt, ccM2le, ccNlt2, ccNle2, Nat.reduceAdd, Nat.reduceMul, Nat.reduceSub, Nat.reduceLT, Nat.reduceLeDiff, Nat.reduceEqDiff, Nat.reduceDiv, Nat.reduceMod]
      exact hn f
    · simp (disch := omega) only [hB, ccMckT, ccMckIn, ccIte, ccSubLe, if_true, N_add]
      exact hn f
  | succ e i₁ =>
    intro c g₁ f
    have e₁ : f + T + (e + 1) + 1 = f + T + e + 1 + 1 := by omega
    have e₂ : 96 - (12 * L + c) = (96 - (12 * L + (c + 1))) + 1 := by omega
    rw [e₁, hs c _ (by omega), e₂]
    show _ = if bad (12 * L + c) = true then Y (12 * L + c) else kwFd Y z bad (96 - (12 * L + (c + 1))) (12 * L + c + 1)
    by_cases y₁ : bad (12 * L + c) = true
    · rw [if_pos y₁, if_pos y₁]
    · rw [if_neg y₁, if_neg y₁]
      exact i₁ (c + 1) (by omega) f
theorem kwL186out {m : mMi} {rs : mRs} {B w l n lm dp cl bd : Nat} {x : Int32} {bad : Nat → Bool} {Y : Nat → mRz} (hB : rs.2.1.1 B = true) (q₁ : kwS m B w l n lm dp cl bd) (hb : ∀ p, p < 96 → bad p = true → p / 12 < l ∧ p / 12 + p % 12 < w)
    (hs : ∀ L c f, L < l → L + c < w → H186_2 B (f + 1) 14 x (N L) (N c) m rs = if bad (12 * L + c) = true then Y (12 * L + c) else H186_2 B f 14 x (N L) (N (c + 1)) m rs) : ∀ k L, L + k = l → ∃ T, T ≤ 15 * k + 1 ∧ ∀ f y, H186_2 B (f + T) 2 x (N L) y m rs = kwFd Y (rI (N 0) m rs) bad (96 - 12 * L) (12 * L) := by
  have q₅ := q₁
  obtain ⟨_, q₃, _, _, _, _, _, b₁, b₂, b₃, b₄, b₅, _⟩ := q₁
  intro k
  induction k with
  | zero =>
    intro L g₁
    refine ⟨1, by omega, fun f y => ?_⟩
    rw [kwFd_no _ _ (fun q y₁ y₂ => by
      by_cases y₃ : bad q = true
      · have y₄ := hb q (by omega) y₃
        omega
      · exact Bool.eq_false_iff.mpr y₃), kwH186_2, q₃]
    simp (disch := omega) only [hB, true_and, and_true, false_and, and_false, if_true, if_false, ccIte, ccBi, ccBiX, ccBv, ccBvX, ccZ0, ccZ1, ccTZ, ccT0, ccT1, Bool.or_false, ccMckT, ccMckIn, ne_eq, not_true_eq_false, not_false_eq_true, if_pos, if_neg, reduceIte, eq_self, Bool.false_eq_true, Bool.true_eq_false, mix_N, N_add, N_mul, N_sub, N_div, ccMod, N_lt, N_le, N_eq, ccNm, ccMN, ccNm2, ccM2N, ccMM2, ccM2M, ccMlt, ccMle, ccNltM, ccNleM, ccM2lt, ccM2le, ccNlt2, ccNle2, Nat.reduceAdd, Nat.reduceMul, Nat.reduceSub, Nat.reduceLT, Nat.reduceLeDiff, Nat.reduceEqDiff, Nat.reduceDiv, Nat.reduceMod]
  | succ k i₁ =>
    intro L g₁
    obtain ⟨T, g₂, g₃⟩ := i₁ (L + 1) (by omega)
    have g₄ := kwL186in hB q₅ (by omega : L < l) hb (fun c f y₁ => hs L c f (by omega) y₁) (fun f => g₃ f (N 0)) (w - L) 0 (by omega)
    refine ⟨T + (w - L) + 1 + 1, by omega, fun f y => ?_⟩
    have e₁ : f + (T + (w - L) + 1 + 1) = f + T + (w - L) + 1 + 1 := by omega
    rw [e₁, kwH186_2, q₃]
    simp (disch := omega) only [hB, true_and, and_true, false_and, and_false, if_true, if_false, ccIte, ccBi, ccBiX, ccBv, ccBvX, ccZ0, ccZ1, ccTZ, ccT0, ccT1, Bool.or_false, ccMckT, ccMckIn, ne_eq, not_true_eq_false, not_false_eq_true, if_pos, if_neg, reduceIte, eq_self, Bool.false_eq_true, Bool.true_eq_false, mix_N, N_add, N_mul, N_sub, N_div, ccMod, N_lt, N_le, N_eq, ccNm, ccMN, ccNm2, ccM2N, ccMM2, ccM2M, ccMlt, ccMle, ccNltM, ccNleM, ccM2lt, ccM2le, ccNlt2, ccNle2, Nat.reduceAdd, Nat.reduceMul, Nat.reduceSub, Nat.reduceLT, Nat.reduceLeDiff, Nat.reduceEqDiff, Nat.reduceDiv, Nat.reduceMod]
    exact g₄ f
theorem kwE186 {m : mMi} {rs : mRs} {B w l n lm dp cl bd : Nat} {x : Int32} {bad : Nat → Bool} {Y : Nat → mRz} (hB : rs.2.1.1 B = true) (q₁ : kwS m B w l n lm dp cl bd) (hb : ∀ p, p < 96 → bad p = true → p / 12 < l ∧ p / 12 + p % 12 < w)
    (hs : ∀ L c f, L < l → L + c < w → H186_2 B (f + 1) 14 x (N L) (N c) m rs = if bad (12 * L + c) = true then Y (12 * L + c) else H186_2 B f 14 x (N L) (N (c + 1)) m rs) : H186 B x m rs = kwFd Y (rI (N 0) m rs) bad 96 0 := by
  obtain ⟨T, g₁, g₂⟩ := kwL186out hB q₁ hb hs l 0 (by omega)
  have b₄ : l ≤ 8 := q₁.2.2.2.2.2.2.2.2.2.2.1
  have e₁ : FU = (100000 - T) + T := by unfold FU; omega
  unfold H186
  rw [hB, ccMckT, e₁]
  exact g₂ _ _
