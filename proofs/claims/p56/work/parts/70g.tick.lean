/-! WORLD: time goes by; a card is pulled out. -/
def kwGh (mm : mMi) (D : Nat → Nat → Int32) : mMi := fun f a j p => if f = 4 ∧ a = 0 ∧ j = 3 then (if p = 0 then D 0 5 else if p = 6 then D 0 6 else if 248 ≤ p ∧ p < 632 ∧ p % 4 = 2 then D 4 ((p - 248) / 4) else if 248 ≤ p ∧ p < 632 ∧ p % 4 = 3 then D 5 ((p - 248) / 4) else mm 4 0 3 p) else mm f a j p
theorem ccJ_ex {mc mm m₁ : mMi} {i w l n bd h t : Nat} {β wt : Nat → Int32} {W : Nat → Nat} (q : ccJ mc mm i w l n bd β wt W h t) (h₁ : ccFr i mc m₁) (c₁ : ∀ j p, j ≠ 4 → j ≠ 5 → ¬ (j = 0 ∧ (p = 5 ∨ p = 6)) → m₁ 0 i j p = mc 0 i j p) (c₄ : ∃ z, m₁ 0 i 0 5 = N z ∧ z ≤ 9999) : ∃ m₂, ccJ m₁ m₂ i w l n bd β wt W h t := by
  refine ⟨kwGh mm (m₁ 0 i), ccJ_ch q h₁ (fun f a j p y₁ y₂ => ?_) c₁ (fun q₁ y₁ y₂ y₃ => ?_) (fun p y₁ y₂ => ⟨?_, ?_⟩) ⟨?_, ?_, c₄⟩⟩
  · unfold kwGh
    rw [if_neg (by omega)]
  · unfold kwGh
    rw [if_pos ⟨rfl, rfl, rfl⟩, if_neg y₁, if_neg y₂]
    by_cases y₄ : 248 ≤ q₁ ∧ q₁ < 632 ∧ q₁ % 4 = 2
    · have y₅ := y₃ ((q₁ - 248) / 4) (by omega)
      omega
    · rw [if_neg y₄]
      by_cases y₅ : 248 ≤ q₁ ∧ q₁ < 632 ∧ q₁ % 4 = 3
      · have y₆ := y₃ ((q₁ - 248) / 4) (by omega)
        omega
      · rw [if_neg y₅]
  · have e₁ : (250 + 4 * p - 248) / 4 = p := by omega
    unfold kwGh
    rw [if_pos ⟨rfl, rfl, rfl⟩, if_neg (by omega), if_neg (by omega), if_pos (by omega), e₁]
  · have e₁ : (251 + 4 * p - 248) / 4 = p := by omega
    unfold kwGh
    rw [if_pos ⟨rfl, rfl, rfl⟩, if_neg (by omega), if_neg (by omega), if_neg (by omega), if_pos (by omega), e₁]
  · unfold kwGh
    rw [if_pos ⟨rfl, rfl, rfl⟩, if_pos rfl]
  · unfold kwGh
    rw [if_pos ⟨rfl, rfl, rfl⟩, if_neg (by omega), if_pos rfl]
theorem kwH195_14 {f B : Nat} {x1 x2 x3 x4 : Int32} {mi : mMi} {rs : mRs} : H195_14 B (f + 1) 14 x1 x2 x3 x4 mi rs = mckO (rs.2.1.1 B) (mckO (mIn (N 1) 6) (mifO (decide ((mi 6 B 1 1) ≤ x3)) (some (.inl (some (mI x2)), mi, rs)) (H195_14 B f 27 x1 x2 x3 (N 0) mi rs))) := rfl
theorem kwH195_27 {f B : Nat} {x1 x2 x3 x4 : Int32} {mi : mMi} {rs : mRs} : H195_14 B (f + 1) 27 x1 x2 x3 x4 mi rs = mckO (rs.2.1.1 B) (mckO (mIn (N 0) 6) (mifO (decide (((mi 6 B 1 0) - x3) ≤ x4)) (H195_14 B f 14 x1 x2 (x3 + (N 1)) (N 0) mi rs) (mckO (mIn x3 10) (mckO (mIn x3 10) (mckO (mIn x4 14) (mckO (mIn (N 4) 6) (mckO (mIn x4 14) (bI (H178 B x3 x4 (mset mi 23 B (mix x3) (mix x4) (if (N 0) < ((mi 23 B (mix x3) (mix x4)) - (x1 * (mi 6 B 1 4))) then ((mi 23 B (mix x3) (mix x4)) - (x1 * (mi 6 B 1 4))) else (N 0))) rs) (fun v1 m1 r1 => mckO (r1.2.1.1 B) (mifO (decide (v1 = (N 0))) (H195_14 B f 27 x1 (x2 + (N 0)) x3 (x4 + (N 1)) m1 r1) (mckO (mIn x3 10) (mckO (mIn x4 14) (mifO (decide ((m1 23 B (mix x3) (mix x4)) ≤ (N 0))) (H195_14 B f 27 x1 (x2 + (N 0)) x3 (x4 + (N 1)) m1 r1) (H195_14 B f 27 x1 (x2 + (N 1)) x3 (x4 + (N 1)) m1 r1)))))))))))))) := rfl
def kwCm (m₀ m : mMi) (B : Nat) (C : Nat → Nat → Int32) (X b : Nat) : Prop := (∀ f a j p, ¬ (f = 23 ∧ a = B) → m f a j p = m₀ f a j p) ∧ ∀ L c, L < 8 → c < 12 → C 2 (12 * L + c) ≠ I (-1) → m 23 B L c = if 12 * L + c < b then ccDec X (C 5 (12 * L + c)) else C 5 (12 * L + c)
theorem kwCm_G {m₀ m : mMi} {B b X : Nat} {C : Nat → Nat → Int32} (h₁ : kwG m₀ B C) (h₂ : kwCm m₀ m B C X b) : kwG m B (kwCw C m B) := fun L c g₁ g₂ => by
  obtain ⟨e₁, e₂, e₃⟩ := h₁ L c g₁ g₂
  have d₁ : (12 * L + c) / 12 = L := by omega
  have d₂ : (12 * L + c) % 12 = c := by omega
  unfold kwCw
  rw [h₂.1 20 B L c (by omega), h₂.1 24 B L c (by omega), h₂.1 21 B L c (by omega), h₂.1 22 B L c (by omega), if_neg (by omega), if_neg (by omega), if_neg (by omega), if_neg (by omega), if_pos rfl, d₁, d₂]
  exact ⟨e₁, e₂, fun y => ⟨(e₃ y).1, (e₃ y).2.1, rfl⟩⟩
theorem kwCm_S {m₀ m : mMi} {B b X w l n lm dp cl bd : Nat} {C : Nat → Nat → Int32} (h₁ : kwS m₀ B w l n lm dp cl bd) (h₂ : kwCm m₀ m B C X b) : kwS m B w l n lm dp cl bd := kwS_sw (fun j p y => h₂.1 6 B j p (by omega)) h₁
theorem kwL195st {B w l n lm dp cl bd a L c : Nat} {C : Nat → Nat → Int32} {m₀ m : mMi} (q₀ : kwS m₀ B w l n lm dp cl bd) (cd : ccCd n C) (gg : kwG m₀ B C) (h₂ : L < l) (h₃ : L + c < w) (g₃ : kwCm m₀ m B C (a * cl) (12 * L + c)) :
    ∃ m₁, (∀ f rs, rs.2.1.1 B = true → H195_14 B (f + 1) 27 (N a) (N (ccCnt (ccWc3 (a * cl) C) (12 * L + c))) (N L) (N c) m rs = H195_14 B f 27 (N a) (N (ccCnt (ccWc3 (a * cl) C) (12 * L + (c + 1)))) (N L) (N (c + 1)) m₁ rs) ∧ kwCm m₀ m₁ B C (a * cl) (12 * L + (c + 1)) := by
  have q₂ := kwCm_S q₀ g₃
  have q₃ := q₂
  obtain ⟨q₄, _, _, _, q₅, _, _, b₁, b₂, b₃, b₄, b₅, _⟩ := q₃
  have p₁ : 12 * L + c < 96 := by omega
  obtain ⟨v, hv⟩ : ∃ v, v = ccDec (a * cl) (m 23 B L c) := ⟨_, rfl⟩
  obtain ⟨m₁, hm₁⟩ : ∃ x, x = mset m 23 B L c v := ⟨_, rfl⟩
  have r₁ : m₁ 23 B L c = v := by rw [hm₁, ccRd, if_pos ⟨rfl, rfl, rfl, rfl⟩]
  have g₄ : kwCm m₀ m₁ B C (a * cl) (12 * L + (c + 1)) := by
    refine ⟨fun f a j p y₁ => ?_, fun L₁ c₁ y₁ y₂ y₃ => ?_⟩
    · rw [hm₁, ccRd, if_neg (by omega)]
      exact g₃.1 f a j p y₁
    · by_cases k₄ : L₁ = L ∧ c₁ = c
      · obtain ⟨rfl, rfl⟩ := k₄
        rw [r₁, hv, g₃.2 L₁ c₁ y₁ y₂ y₃, if_neg (by omega), if_pos (by omega)]
      · rw [hm₁, ccRd, if_neg (by omega), g₃.2 L₁ c₁ y₁ y₂ y₃]
        by_cases k₅ : 12 * L₁ + c₁ < 12 * L + c
        · rw [if_pos k₅, if_pos (by omega)]
        · rw [if_neg k₅, if_neg (by omega)]
  have q₆ := kwCm_S q₀ g₄
  have s₁ : ∀ rs : mRs, rs.2.1.1 B = true → H178 B (N L) (N c) m₁ rs = rI (ccT (ccHP C w l L c)) m₁ rs := fun rs hB => by
    rw [kwE178 hB q₆ (kwCm_G gg g₄) (kwCw_d cd) (by omega) (by omega), ccHP_congr (C := C) (fun p => kwCw_o (by omega))]
  have e₆ : (if N 0 < m 23 B L c - N (a * cl) then m 23 B L c - N (a * cl) else N 0) = v := by rw [hv]; rfl
  have e₇ : 12 * L + (c + 1) = 12 * L + c + 1 := by omega
  have e₈ : ccCnt (ccWc3 (a * cl) C) (12 * L + (c + 1)) = ccCnt (ccWc3 (a * cl) C) (12 * L + c) + if ccWc3 (a * cl) C (12 * L + c) = true then 1 else 0 := by rw [e₇, ccCnt_s]
  refine ⟨m₁, fun f rs hB => ?_, g₄⟩
  cases g₅ : ccP C (12 * L + c)
  · have e₃ : ccHP C w l L c = false := by unfold ccHP; rw [g₅, Bool.and_false]
    have e₅ : ccWc3 (a * cl) C (12 * L + c) = false := by unfold ccWc3; rw [g₅]; rfl
    rw [e₅, if_neg (by decide)] at e₈
    rw [kwH195_27, q₄, q₅, e₈]
    simp (disch := omega) only [hB, mix_N, N_mul, e₆, ← hm₁, s₁ rs hB, e₃, true_and, and_true, false_and, and_false, if_true, if_false, ccIte, ccBi, ccBiX, ccBv, ccBvX, ccZ0, ccZ1, ccTZ, ccT0, ccT1, Bool.or_false, ccMckT, ccMckIn, ne_eq, not_true_eq_false, not_false_eq_true, if_pos, if_neg, reduceIte, eq_self, Bool.false_eq_true, Bool.true_eq_false, mix_N, N_add, N_mul, N_sub, N_div, ccMod, N_lt, N_le, N_eq, ccNm, ccMN, ccNm2, ccM2N, ccMM2, ccM2M, ccMlt, ccMle, ccNltM, ccNleM, ccM2lt, ccM2le, ccNlt2, ccNle2, Nat.reduceAdd, Nat.reduceMul, Nat.reduceSub, Nat.reduceLT, Nat.reduceLeDiff, Nat.reduceEqDiff, Nat.reduceDiv, Nat.reduceMod]
  · have g₆ : C 2 (12 * L + c) ≠ I (-1) := by
      unfold ccP at g₅
      simpa only [Bool.not_eq_true', decide_eq_false_iff_not] using g₅
    have e₃ : ccHP C w l L c = true := ccHP_i h₂ h₃ g₆
    have e₄ : v = ccDec (a * cl) (C 5 (12 * L + c)) := by rw [hv, g₃.2 L c (by omega) (by omega) g₆, if_neg (by omega)]
    have e₅ : ccWc3 (a * cl) C (12 * L + c) = decide (N 0 < v) := by unfold ccWc3; rw [g₅, e₄]; rfl
    rw [e₅] at e₈
    by_cases g₇ : N 0 < v
    · rw [decide_eq_true g₇, if_pos rfl] at e₈
      have g₈ : ¬ v ≤ N 0 := fun y₁ => ccLeLt.mp y₁ g₇
      rw [kwH195_27, q₄, q₅, e₈]
      simp (disch := omega) only [hB, mix_N, N_mul, e₆, ← hm₁, s₁ rs hB, e₃, r₁, g₈, true_and, and_true, false_and, and_false, if_true, if_false, ccIte, ccBi, ccBiX, ccBv, ccBvX, ccZ0, ccZ1, ccTZ, ccT0, ccT1, Bool.or_false, ccMckT, ccMckIn, ne_eq, not_true_eq_false, not_false_eq_true, if_pos, if_neg, reduceIte, eq_self, Bool.false_eq_true, Bool.true_eq_false, mix_N, N_add, N_mul, N_sub, N_div, ccMod, N_lt, N_le, N_eq, ccNm, ccMN, ccNm2, ccM2N, ccMM2, ccM2M, ccMlt, ccMle, ccNltM, ccNleM, ccM2lt, ccM2le, ccNlt2, ccNle2, Nat.reduceAdd, Nat.reduceMul, Nat.reduceSub, Nat.reduceLT, Nat.reduceLeDiff, Nat.reduceEqDiff, Nat.reduceDiv, Nat.reduceMod]
    · rw [decide_eq_false g₇, if_neg (by decide)] at e₈
      have g₈ : v ≤ N 0 := ccLeLt.mpr g₇
      rw [kwH195_27, q₄, q₅, e₈]
      simp (disch := omega) only [hB, mix_N, N_mul, e₆, ← hm₁, s₁ rs hB, e₃, r₁, g₈, true_and, and_true, false_and, and_false, if_true, if_false, ccIte, ccBi, ccBiX, ccBv, ccBvX, ccZ0, ccZ1, ccTZ, ccT0, ccT1, Bool.or_false, ccMckT, ccMckIn, ne_eq, not_true_eq_false, not_false_eq_true, if_pos, if_neg, reduceIte, eq_self, Bool.false_eq_true, Bool.true_eq_false, mix_N, N_add, N_mul, N_sub, N_div, ccMod, N_lt, N_le, N_eq, ccNm, ccMN, ccNm2, ccM2N, ccMM2, ccM2M, ccMlt, ccMle, ccNltM, ccNleM, ccM2lt, ccM2le, ccNlt2, ccNle2, Nat.reduceAdd, Nat.reduceMul, Nat.reduceSub, Nat.reduceLT, Nat.reduceLeDiff, Nat.reduceEqDiff, Nat.reduceDiv, Nat.reduceMod]
theorem kwCnt_skip {f : Nat → Bool} {p : Nat} : ∀ e, (∀ q, p ≤ q → q < p + e → f q = false) → ccCnt f (p + e) = ccCnt f p := by
  intro e
  induction e with
  | zero => intro _; rfl
  | succ e i₁ =>
    intro h₁
    have e₁ : p + (e + 1) = p + e + 1 := by omega
    rw [e₁, ccCnt_s, h₁ (p + e) (by omega) (by omega), if_neg (by decide), Nat.add_zero]
    exact i₁ (fun q g₁ g₂ => h₁ q g₁ (by omega))
theorem kwWc_no {X w l p : Nat} {C : Nat → Nat → Int32} (h₁ : ccPlc w l C) (h₂ : p < 96) (h₃ : ¬ (p / 12 < l ∧ p / 12 + p % 12 < w)) : ccWc3 X C p = false := by
  by_cases g₁ : C 2 p = I (-1)
  · unfold ccWc3 ccP
    rw [g₁]
    rfl
  · exact absurd ((h₁ p h₂).1 g₁) h₃
theorem kwL195in {B w l n lm dp cl bd a L : Nat} {C : Nat → Nat → Int32} {m₀ : mMi} (q₀ : kwS m₀ B w l n lm dp cl bd) (cd : ccCd n C) (gg : kwG m₀ B C) (q₃ : ccPlc w l C) (h₂ : L < l) : ∀ e c m, c + e = w - L → kwCm m₀ m B C (a * cl) (12 * L + c) →
    ∃ m₁, (∀ f rs, rs.2.1.1 B = true → H195_14 B (f + e + 1) 27 (N a) (N (ccCnt (ccWc3 (a * cl) C) (12 * L + c))) (N L) (N c) m rs = H195_14 B f 14 (N a) (N (ccCnt (ccWc3 (a * cl) C) (12 * (L + 1)))) (N (L + 1)) (N 0) m₁ rs) ∧ kwCm m₀ m₁ B C (a * cl) (12 * (L + 1)) := by
  have b₂ : w ≤ 12 := q₀.2.2.2.2.2.2.2.2.1
  have b₄ : l ≤ 8 := q₀.2.2.2.2.2.2.2.2.2.2.1
  intro e
  induction e with
  | zero =>
    intro c m g₁ g₃
    have q₄ : m 6 B 1 0 = N w := (kwCm_S q₀ g₃).1
    by_cases y₀ : c ≤ 12
    · have e₁ : 12 * L + c + (12 - c) = 12 * (L + 1) := by omega
      have e₂ := kwCnt_skip (f := ccWc3 (a * cl) C) (p := 12 * L + c) (12 - c) (fun q y₁ y₂ => kwWc_no q₃ (by omega) (by omega))
      rw [e₁] at e₂
      refine ⟨m, fun f rs hB => ?_, g₃.1, fun L₁ c₁ y₁ y₂ y₃ => ?_⟩
      · rw [kwH195_27, q₄, e₂]
        by_cases y₁ : L ≤ w
        · simp (disch := omega) only [hB, true_and, and_true, false_and, and_false, if_true, if_false, ccIte, ccBi, ccBiX, ccBv, ccBvX, ccZ0, ccZ1, ccTZ, ccT0, ccT1, Bool.or_false, ccMckT, ccMckIn, ne_eq, not_true_eq_false, not_false_eq_true, if_pos, if_neg, reduceIte, eq_self, Bool.false_eq_true, Bool.true_eq_false, mix_N, N_add, N_mul, N_sub, N_div, ccMod, N_lt, N_le, N_eq, ccNm, ccMN, ccNm2, ccM2N, ccMM2, ccM2M, ccMlt, ccMle, ccNltM, ccNleM, ccM2lt, ccM2le, ccNlt2, ccNle2, Nat.reduceAdd, Nat.reduceMul, Nat.reduceSub, Nat.reduceLT, Nat.reduceLeDiff, Nat.reduceEqDiff, Nat.reduceDiv, Nat.reduceMod]
        · simp (disch := omega) only [hB, ccMckT, ccMckIn, ccIte, ccSubLe, if_true, N_add]
      · rw [g₃.2 L₁ c₁ y₁ y₂ y₃]
        by_cases y₄ : 12 * L₁ + c₁ < 12 * L + c
        · rw [if_pos y₄, if_pos (by omega)]
        · have y₆ := (q₃ (12 * L₁ + c₁) (by omega)).1 y₃
          rw [if_neg y₄, if_neg (by omega)]
    · omega
  | succ e i₁ =>
    intro c m g₁ g₃
    obtain ⟨m₁, a₁, a₃⟩ := kwL195st q₀ cd gg h₂ (by omega) g₃
    obtain ⟨m₂, c₁, c₃⟩ := i₁ (c + 1) m₁ (by omega) a₃
    refine ⟨m₂, fun f rs hB => ?_, c₃⟩
    have e₁ : f + (e + 1) + 1 = f + e + 1 + 1 := by omega
    rw [e₁, a₁ _ _ hB]
    exact c₁ f rs hB
theorem kwL195out {B w l n lm dp cl bd a : Nat} {C : Nat → Nat → Int32} {m₀ : mMi} (q₀ : kwS m₀ B w l n lm dp cl bd) (cd : ccCd n C) (gg : kwG m₀ B C) (q₃ : ccPlc w l C) : ∀ k L m, L + k = l → kwCm m₀ m B C (a * cl) (12 * L) →
    ∃ m₁ T, T ≤ 15 * k + 1 ∧ (∀ f y rs, rs.2.1.1 B = true → H195_14 B (f + T) 14 (N a) (N (ccCnt (ccWc3 (a * cl) C) (12 * L))) (N L) y m rs = rI (N (ccCnt (ccWc3 (a * cl) C) 96)) m₁ rs) ∧ kwCm m₀ m₁ B C (a * cl) 96 := by
  have b₂ : w ≤ 12 := q₀.2.2.2.2.2.2.2.2.1
  have b₄ : l ≤ 8 := q₀.2.2.2.2.2.2.2.2.2.2.1
  intro k
  induction k with
  | zero =>
    intro L m g₁ g₃
    have q₄ : m 6 B 1 1 = N l := (kwCm_S q₀ g₃).2.1
    have e₀ : L = l := by omega
    subst e₀
    have e₁ : 12 * L + (96 - 12 * L) = 96 := by omega
    have e₂ := kwCnt_skip (f := ccWc3 (a * cl) C) (p := 12 * L) (96 - 12 * L) (fun q y₁ y₂ => kwWc_no q₃ (by omega) (by omega))
    rw [e₁] at e₂
    refine ⟨m, 1, by omega, fun f y rs hB => ?_, g₃.1, fun L₁ c₁ y₁ y₂ y₃ => ?_⟩
    · rw [kwH195_14, q₄, e₂]
      simp (disch := omega) only [hB, true_and, and_true, false_and, and_false, if_true, if_false, ccIte, ccBi, ccBiX, ccBv, ccBvX, ccZ0, ccZ1, ccTZ, ccT0, ccT1, Bool.or_false, ccMckT, ccMckIn, ne_eq, not_true_eq_false, not_false_eq_true, if_pos, if_neg, reduceIte, eq_self, Bool.false_eq_true, Bool.true_eq_false, mix_N, N_add, N_mul, N_sub, N_div, ccMod, N_lt, N_le, N_eq, ccNm, ccMN, ccNm2, ccM2N, ccMM2, ccM2M, ccMlt, ccMle, ccNltM, ccNleM, ccM2lt, ccM2le, ccNlt2, ccNle2, Nat.reduceAdd, Nat.reduceMul, Nat.reduceSub, Nat.reduceLT, Nat.reduceLeDiff, Nat.reduceEqDiff, Nat.reduceDiv, Nat.reduceMod]
    · rw [g₃.2 L₁ c₁ y₁ y₂ y₃]
      have y₆ := (q₃ (12 * L₁ + c₁) (by omega)).1 y₃
      rw [if_pos (by omega), if_pos (by omega)]
  | succ k i₁ =>
    intro L m g₁ g₃
    have q₄ : m 6 B 1 1 = N l := (kwCm_S q₀ g₃).2.1
    obtain ⟨m₁, a₁, a₃⟩ := kwL195in q₀ cd gg q₃ (by omega : L < l) (w - L) 0 m (by omega) g₃
    obtain ⟨m₂, T, c₁, c₂, c₃⟩ := i₁ (L + 1) m₁ (by omega) a₃
    refine ⟨m₂, T + (w - L) + 1 + 1, by omega, fun f y rs hB => ?_, c₃⟩
    have e₁ : f + (T + (w - L) + 1 + 1) = (f + T) + (w - L) + 1 + 1 := by omega
    rw [e₁, kwH195_14, q₄]
    simp (disch := omega) only [hB, true_and, and_true, false_and, and_false, if_true, if_false, ccIte, ccBi, ccBiX, ccBv, ccBvX, ccZ0, ccZ1, ccTZ, ccT0, ccT1, Bool.or_false, ccMckT, ccMckIn, ne_eq, not_true_eq_false, not_false_eq_true, if_pos, if_neg, reduceIte, eq_self, Bool.false_eq_true, Bool.true_eq_false, mix_N, N_add, N_mul, N_sub, N_div, ccMod, N_lt, N_le, N_eq, ccNm, ccMN, ccNm2, ccM2N, ccMM2, ccM2M, ccMlt, ccMle, ccNltM, ccNleM, ccM2lt, ccM2le, ccNlt2, ccNle2, Nat.reduceAdd, Nat.reduceMul, Nat.reduceSub, Nat.reduceLT, Nat.reduceLeDiff, Nat.reduceEqDiff, Nat.reduceDiv, Nat.reduceMod]
    exact Eq.trans (a₁ (f + T) rs hB) (c₂ f (N 0) rs hB)
/-- time goes by, on both sides -/
theorem kwTick {B w l n lm dp cl bd h t a z : Nat} {β wt : Nat → Int32} {W : Nat → Nat} {bx : Bool} {mc mw : mMi} (q : kwJ mc mw 0 B w l n lm dp cl bd β wt W bx h t) (h₁ : a ≤ 100) (h₂ : mc 0 0 0 5 = N z) (h₃ : z + a ≤ 9999) (h₄ : mc 1 0 1 4 = N cl) :
    ∃ m₁ m₂ v, (∀ rs, F58 0 (N a * mc 1 0 1 4) (mset mc 0 0 0 5 (mc 0 0 0 5 + N a)) rs = rI v m₁ rs) ∧ (∀ rs, rs.2.1.1 B = true → H195 B (N a) mw rs = rI v m₂ rs) ∧ kwJ m₁ m₂ 0 B w l n lm dp cl bd β wt W bx h t ∧ ccFr 0 mc m₁ ∧ kwFr B mw m₂ ∧ kwSw B mw m₂ ∧ (∀ j p, j ≠ 5 → ¬ (j = 0 ∧ p = 5) → m₁ 0 0 j p = mc 0 0 j p) ∧ (∀ p, p < 96 → m₁ 0 0 5 p = if ccP (mc 0 0) p = true then ccDec (a * cl) (mc 0 0 5 p) else mc 0 0 5 p) ∧ m₁ 0 0 0 5 = N (z + a) := by
  have q₉ := q
  obtain ⟨⟨mm, j₀⟩, s₀, u₀, w₀⟩ := q
  have cd : ccCd n (mc 0 0) := ccCd_of j₀.1.2.2.2.2.2.1.2.1
  have b₄ : l ≤ 8 := j₀.1.1.2.2.2.2.2.2.1
  have u₁ : mc 0 0 0 5 + N a = N (z + a) := by rw [h₂, N_add]
  have cC : ∀ j p, ¬ (j = 0 ∧ p = 5) → mset mc 0 0 0 5 (N (z + a)) 0 0 j p = mc 0 0 j p := fun j p y₁ => by rw [ccRd, if_neg (by omega)]
  obtain ⟨C, hC⟩ : ∃ C, C = mset mc 0 0 0 5 (N (z + a)) 0 0 := ⟨_, rfl⟩
  rw [← hC] at cC
  obtain ⟨m₁, a₁, a₂, a₃⟩ := ccL58 (X := a * cl) (C := C) (m₀ := mc) 96 0 (mset mc 0 0 0 5 (N (z + a))) (by omega) (ccFr_set ccFr_rfl) ⟨fun _ _ _ => by rw [hC], fun p y₁ => by rw [if_neg (fun y₂ => by omega), hC]⟩
  have pp : ∀ p, ccP C p = ccP (mc 0 0) p := fun p => by unfold ccP; rw [cC 2 p (by omega)]
  have w₅ : ∀ p, p < 96 → m₁ 0 0 5 p = if ccP (mc 0 0) p = true then ccDec (a * cl) (mc 0 0 5 p) else mc 0 0 5 p := fun p y₁ => by
    rw [a₃.2 p y₁, pp, cC 5 p (by omega)]
    by_cases y₂ : ccP (mc 0 0) p = true
    · rw [if_pos ⟨y₁, y₂⟩, if_pos y₂]
    · rw [if_neg (fun y₃ => y₂ y₃.2), if_neg y₂]
  have oC : ∀ j p, j ≠ 5 → ¬ (j = 0 ∧ p = 5) → m₁ 0 0 j p = mc 0 0 j p := fun j p y₁ y₂ => by rw [a₃.1 j p y₁, cC j p y₂]
  have tm : m₁ 0 0 0 5 = N (z + a) := by rw [a₃.1 0 5 (by omega), hC, ccRd, if_pos ⟨rfl, rfl, rfl, rfl⟩]
  obtain ⟨m₂, j₂⟩ := ccJ_ex j₀ a₂ (fun j p y₁ y₂ y₃ => oC j p y₂ (by omega)) ⟨z + a, tm, h₃⟩
  have p₂ : ccPlc w l C := fun p y₁ => by
    rw [cC 2 p (by omega), cC 6 p (by omega)]
    exact j₀.1.2.2.2.2.2.2.1 p y₁
  have d₂ : ccCd n C := by
    unfold ccCd at cd ⊢
    simp (disch := omega) only [cC]
    exact cd
  obtain ⟨mx, hmx⟩ : ∃ x, x = mset mw 6 B 0 19 (mw 6 B 0 19 + N a) := ⟨_, rfl⟩
  have fx : kwFr B mw mx := by rw [hmx]; exact kwFr_6 kwFr_rfl
  have sx : kwSw B mw mx := fun j p y => by rw [hmx, ccRd, if_neg (by omega)]
  have ox : ∀ f j p, ¬ (f = 6 ∧ j = 0 ∧ p = 19) → mx f B j p = mw f B j p := fun f j p y₁ => by rw [hmx, ccRd, if_neg (by omega)]
  have gx : kwG mx B C := fun L c y₁ y₂ => by
    rw [ox 20 L c (by omega), ox 24 L c (by omega), ox 21 L c (by omega), ox 22 L c (by omega), ox 23 L c (by omega), cC 2 _ (by omega), cC 6 _ (by omega), cC 3 _ (by omega), cC 4 _ (by omega), cC 5 _ (by omega)]
    exact u₀.1 L c y₁ y₂
  obtain ⟨m₃, T, n₁, n₂, n₃⟩ := kwL195out (a := a) (kwS_sw sx s₀) d₂ gx p₂ l 0 mx (by omega) ⟨fun _ _ _ _ _ => rfl, fun L c y₁ y₂ y₃ => by
    rw [if_neg (by omega)]
    exact ((gx L c y₁ y₂).2.2 y₃).2.2⟩
  have o₃ : ∀ f j p, f ≠ 23 → ¬ (f = 6 ∧ j = 0 ∧ p = 19) → m₃ f B j p = mw f B j p := fun f j p y₁ y₂ => by rw [n₃.1 f B j p (by omega), ox f j p y₂]
  have f₃ : kwFr B mw m₃ := kwFr_trans fx (fun f a j p y₁ y₂ => n₃.1 f a j p (by omega))
  have s₃ : kwSw B mw m₃ := kwSw_trans sx (fun j p y₁ => n₃.1 6 B j p (by omega))
  refine ⟨m₁, m₃, N (ccCnt (ccWc3 (a * cl) C) 96), fun rs => ?_, fun rs hB => ?_, ⟨⟨m₂, j₂⟩, kwS_sw s₃ s₀, ?_, kwW_sw s₃ w₀⟩, a₂, f₃, s₃, oC, w₅, tm⟩
  · obtain ⟨f, hf⟩ := ccFU (k := 96) (by omega)
    rw [h₄, N_mul, u₁]
    unfold F58
    rw [hf]
    exact a₁ f rs
  · have e₈ : FU = (100000 - T) + T := by unfold FU; omega
    have e₇ := n₂ (100000 - T) (N 0) rs hB
    rw [← e₈] at e₇
    unfold H195
    rw [hB, ccMckT, ← hmx]
    exact e₇
  · obtain ⟨v₁, v₂, ⟨v₃, a₄, h₅, v₄, v₅, v₆⟩, v₇, v₈⟩ := u₀
    refine ⟨fun L c y₁ y₂ => ?_, fun k y₁ => ?_, ⟨?_, a₄, h₅, ?_, ?_, v₆⟩, ?_, fun y => ?_⟩
    · obtain ⟨k₁, k₂, k₃⟩ := v₁ L c y₁ y₂
      rw [o₃ 20 L c (by omega) (by omega), o₃ 24 L c (by omega) (by omega), o₃ 21 L c (by omega) (by omega), o₃ 22 L c (by omega) (by omega), oC 2 _ (by omega) (by omega), oC 6 _ (by omega) (by omega), oC 3 _ (by omega) (by omega), oC 4 _ (by omega) (by omega)]
      refine ⟨k₁, k₂, fun y => ⟨(k₃ y).1, (k₃ y).2.1, ?_⟩⟩
      have y₅ : ccP (mc 0 0) (12 * L + c) = true := by unfold ccP; rw [decide_eq_false y]; rfl
      rw [n₃.2 L c y₁ y₂ (by rw [cC 2 _ (by omega)]; exact y), if_pos (by omega), cC 5 _ (by omega), w₅ _ (by omega), if_pos y₅]
    · obtain ⟨k₁, k₂⟩ := v₂ k y₁
      refine ⟨by rw [o₃ 6 2 k (by omega) (by omega), oC 11 k (by omega) (by omega)]; exact k₁, ?_⟩
      rcases k₂ with k₂ | k₂
      · exact Or.inl k₂
      · refine Or.inr ?_
        have z₄ : m₃ 6 B 4 k = mw 6 B 4 k := o₃ 6 4 k (by omega) (by omega)
        have z₅ : m₃ 6 B 5 k = mw 6 B 5 k := o₃ 6 5 k (by omega) (by omega)
        have z₆ : m₃ 6 B 6 k = mw 6 B 6 k := o₃ 6 6 k (by omega) (by omega)
        have c₂ : ∀ p, m₁ 0 0 2 p = mc 0 0 2 p := fun p => oC 2 p (by omega) (by omega)
        have c₃ : ∀ p, m₁ 0 0 3 p = mc 0 0 3 p := fun p => oC 3 p (by omega) (by omega)
        have c₆ : ∀ p, m₁ 0 0 6 p = mc 0 0 6 p := fun p => oC 6 p (by omega) (by omega)
        have c₇ : ∀ p, m₁ 0 0 13 p = mc 0 0 13 p := fun p => oC 13 p (by omega) (by omega)
        unfold kwL at k₂ ⊢
        simp only [z₄, z₅, z₆, c₂, c₃, c₆, c₇]
        exact k₂
    · rw [o₃ 6 0 20 (by omega) (by omega), oC 7 2 (by omega) (by omega)]
      exact v₃
    · rw [o₃ 6 0 18 (by omega) (by omega)]
      exact v₄
    · rw [oC 10 5 (by omega) (by omega)]
      exact v₅
    · rw [oC 7 2 (by omega) (by omega)]
      exact v₇
    · obtain ⟨x₁, x₂, ⟨x₃, x₄⟩, x₅, x₆, x₇⟩ := v₈ y
      refine ⟨fun u e g₁ g₂ g₃ => ?_, fun u g₁ => ?_, ⟨?_, fun h g₁ g₂ u g₃ => ?_⟩, fun k g₁ => ?_, ?_, ?_⟩
      · rw [o₃ 25 u e (by omega) (by omega), oC 8 _ (by omega) (by omega)]
        exact x₁ u e g₁ g₂ g₃
      · rw [o₃ 6 16 u (by omega) (by omega), oC 9 _ (by omega) (by omega)]
        exact x₂ u g₁
      · rw [o₃ 6 0 18 (by omega) (by omega), oC 10 _ (by omega) (by omega)]
        exact x₃
      · rw [oC 10 _ (by omega) (by omega)] at g₁
        rw [o₃ 6 9 u (by omega) (by omega), oC 14 _ (by omega) (by omega)]
        exact x₄ h g₁ g₂ u g₃
      · rw [o₃ 6 7 k (by omega) (by omega), o₃ 6 8 k (by omega) (by omega), oC 12 _ (by omega) (by omega), oC 11 _ (by omega) (by omega)]
        exact x₅ k g₁
      · rw [n₃.1 6 B 0 19 (by omega), hmx, ccRd, if_pos ⟨rfl, rfl, rfl, rfl⟩, tm, x₆, u₁]
      · rw [o₃ 6 0 21 (by omega) (by omega), oC 0 6 (by omega) (by omega)]
        exact x₇
/-- a card is pulled out, on both sides -/
theorem kwPull {i B w l n lm dp cl bd h t k : Nat} {β wt : Nat → Int32} {W : Nat → Nat} {bx : Bool} {mc mw : mMi} (q : kwJ mc mw i B w l n lm dp cl bd β wt W bx h t) (h₁ : k < n) (h₂ : ccLaid (mc 0 i) k) :
    ∃ m₁ m₂ u v, (∀ rs, F38 i (N k) mc rs = rI (N v - N t) m₁ rs) ∧ (∀ rs, rs.2.1.1 B = true → H197 B (N k) mw rs = rI (N v - N t) m₂ rs) ∧ kwJ m₁ m₂ i B w l n lm dp cl bd β wt W bx u v ∧ ccG (mc 0 i) (m₁ 0 i) t v ∧ ccFr i mc m₁ ∧ kwFr B mw m₂ ∧ kwSt B mw m₂ ∧ ccQt W (m₁ 0 i) w l := by
  have q₉ := q
  obtain ⟨⟨mm, j₀⟩, s₀, u₀, w₀⟩ := q
  have b₃ : n ≤ 40 := j₀.1.1.2.2.2.2.2.2.2
  have r₀ := j₀.1.2.2.2.2.2.1
  obtain ⟨p, p₁, p₂⟩ := h₂
  have ne₀ : ∀ z : Int, -5 < z → z < 0 → I z ≠ N p := fun z y₁ y₂ y₃ => by
    have y₄ : I z < N 0 := by
      rw [← I_N, I_lt (by omega) (by omega) (by omega) (by omega)]
      omega
    rw [y₃, N_lt (by omega) (by omega)] at y₄
    omega
  have d₀ : 12 * (p / 12) + p % 12 = p := by omega
  have d₁ : N 0 ≤ N p := by rw [N_le (by omega) (by omega)]; omega
  have t₀ : mw 6 B 0 20 = N t := by rw [u₀.2.2.1.1, u₀.2.2.2.1]
  have plc := j₀.1.2.2.2.2.2.2.1 p p₁
  rcases (u₀.2.1 k h₁).2 with h₃ | ⟨_, e₁⟩ | ⟨_, e₁⟩ | ⟨L, c, e₁, e₂, e₃, e₄, e₅, e₆⟩
  · cases h₃
  · exact absurd (Eq.trans e₁.symm p₂) (ne₀ (-1) (by omega) (by omega))
  · exact absurd (Eq.trans e₁.symm p₂) (ne₀ (-2) (by omega) (by omega))
  · have e₇ : 12 * L + c = p := ccNinj (by rw [← e₃, p₂]) (by omega) (by omega)
    have e₈ : p / 12 = L := by omega
    have e₉ : p % 12 = c := by omega
    rw [e₇] at e₆
    rcases e₆ with ⟨f₁, f₂, f₃⟩ | ⟨f₁, f₂⟩
    · obtain ⟨g₁, g₂⟩ := plc.1 f₂
      rw [e₈] at g₁
      rw [e₈, e₉] at g₂
      obtain ⟨m₁, m₃, u, v, a₁, a₂, a₃, a₄, a₅, a₆, a₇, _⟩ := kwGoP (L := L) (c := c) (cs := 3) (x := N k) q₉ g₁ g₂ (by rw [e₇]; exact f₂) (by omega)
      obtain ⟨m₄, m₅, u₁, v₁, c₁, c₂, c₃, c₄, c₅, c₆, c₇, c₈, _⟩ := kwE19 a₃
      have tv : m₄ 0 i 7 2 = N v₁ := c₃.2.2.1.2.2.2.1
      have tw : m₅ 6 B 0 20 = N v₁ := by rw [c₃.2.2.1.2.2.1.1, tv]
      have k₃ : ∀ rs, F30 i (N k) mc rs = rI (N 0) mc rs := fun rs => by
        unfold F30
        by_cases y₁ : mc 0 i 6 p = I (-1)
        · have y₂ : ccF (mc 0 i) p = false := by unfold ccF; rw [y₁]; rfl
          simp (disch := omega) only [true_and, and_true, false_and, and_false, if_true, if_false, ccIte, ccBi, ccBiX, ccBv, ccBvX, ccZ0, ccZ1, ccTZ, ccT0, ccT1, Bool.or_false, ccMckT, ccMckIn, ne_eq, not_true_eq_false, not_false_eq_true, if_pos, if_neg, reduceIte, eq_self, Bool.false_eq_true, Bool.true_eq_false, mix_N, N_add, N_mul, N_sub, N_div, ccMod, N_lt, N_le, N_eq, ccNm, ccMN, ccNm2, ccM2N, ccMM2, ccM2M, ccMlt, ccMle, ccNltM, ccNleM, ccM2lt, ccM2le, ccNlt2, ccNle2, Nat.reduceAdd, Nat.reduceMul, Nat.reduceSub, Nat.reduceLT, Nat.reduceLeDiff, Nat.reduceEqDiff, Nat.reduceDiv, Nat.reduceMod, p₂, ccE52, y₂]
        · have y₂ : ccF (mc 0 i) p = true := by unfold ccF; rw [decide_eq_false y₁]; rfl
          have y₃ : mc 0 i 6 p ≠ N k := fun y₃ => by
            obtain ⟨a, z₁, z₂, z₃, z₄, _⟩ := r₀.2.1.2 p p₁ y₁
            rw [y₃] at z₂
            have z₅ : k = a := ccNinj z₂ (by omega) (by omega)
            obtain ⟨a₈, b₈, z₆, z₇, _, z₈, z₉, _, _, x₁, x₂⟩ := r₀.2.1.1 p p₁ f₂
            rw [z₈, z₉] at f₃
            rcases f₃ with f₃ | f₃
            · rw [ccNinj f₃ (by omega) (by omega), z₅, z₄] at x₁
              exact absurd x₁ (by decide)
            · rw [ccNinj f₃ (by omega) (by omega), z₅, z₄] at x₂
              exact absurd x₂.1 (by decide)
          simp (disch := omega) only [true_and, and_true, false_and, and_false, if_true, if_false, ccIte, ccBi, ccBiX, ccBv, ccBvX, ccZ0, ccZ1, ccTZ, ccT0, ccT1, Bool.or_false, ccMckT, ccMckIn, ne_eq, not_true_eq_false, not_false_eq_true, if_pos, if_neg, reduceIte, eq_self, Bool.false_eq_true, Bool.true_eq_false, mix_N, N_add, N_mul, N_sub, N_div, ccMod, N_lt, N_le, N_eq, ccNm, ccMN, ccNm2, ccM2N, ccMM2, ccM2M, ccMlt, ccMle, ccNltM, ccNleM, ccM2lt, ccM2le, ccNlt2, ccNle2, Nat.reduceAdd, Nat.reduceMul, Nat.reduceSub, Nat.reduceLT, Nat.reduceLeDiff, Nat.reduceEqDiff, Nat.reduceDiv, Nat.reduceMod, p₂, ccE52, y₂, y₃]
      refine ⟨m₄, m₅, u₁, v₁, fun rs => ?_, fun rs hB => ?_, c₃, ccG_trans a₄ c₄, ccFr_trans a₅ c₅, kwFr_trans a₆ c₆, kwSt_trans a₇ c₇, c₈⟩
      · unfold F38
        rw [ccMckIn (by omega : k < 40) (by omega), mix_N (by omega), p₂, decide_eq_true d₁]
        show bI (F30 i (N k) mc rs) _ = _
        rw [k₃, ccBi, ccIf0e, ccE111 (by omega), ccBi, ccE112 (by omega), ccBi, e₈, e₉, a₁, ccBv, c₁, ccBi, tv, u₀.2.2.2.1]
      · unfold H197
        simp (disch := omega) only [hB, f₁, e₄, e₅, a₂ rs hB, c₂ rs hB, tw, t₀, true_and, and_true, false_and, and_false, if_true, if_false, ccIte, ccBi, ccBiX, ccBv, ccBvX, ccZ0, ccZ1, ccTZ, ccT0, ccT1, Bool.or_false, ccMckT, ccMckIn, ne_eq, not_true_eq_false, not_false_eq_true, if_pos, if_neg, reduceIte, eq_self, Bool.false_eq_true, Bool.true_eq_false, mix_N, N_add, N_mul, N_sub, N_div, ccMod, N_lt, N_le, N_eq, ccNm, ccMN, ccNm2, ccM2N, ccMM2, ccM2M, ccMlt, ccMle, ccNltM, ccNleM, ccM2lt, ccM2le, ccNlt2, ccNle2, Nat.reduceAdd, Nat.reduceMul, Nat.reduceSub, Nat.reduceLT, Nat.reduceLeDiff, Nat.reduceEqDiff, Nat.reduceDiv, Nat.reduceMod]
    · have f₃ : mc 0 i 6 p ≠ I (-1) := by
        rw [f₂]
        exact fun y₃ => (ccNm (by omega)).mp y₃
      obtain ⟨_, g₁, g₂⟩ := plc.2 f₃
      rw [e₈] at g₁
      rw [e₈, e₉] at g₂
      obtain ⟨m₁, m₃, u, v, a₁, a₂, a₃, a₄, a₅, a₆, a₇⟩ := kwGoF (L := L) (c := c) (cs := 3) (x := N k) q₉ g₁ g₂ (by rw [e₇]; exact f₃) (by omega)
      obtain ⟨m₄, m₅, u₁, v₁, c₁, c₂, c₃, c₄, c₅, c₆, c₇, c₈, _⟩ := kwE19 a₃
      have tv : m₄ 0 i 7 2 = N v₁ := c₃.2.2.1.2.2.2.1
      have tw : m₅ 6 B 0 20 = N v₁ := by rw [c₃.2.2.1.2.2.1.1, tv]
      have k₃ : ∀ rs, F30 i (N k) mc rs = rI (N 1) mc rs := fun rs => by
        unfold F30
        have y₂ : ccF (mc 0 i) p = true := by unfold ccF; rw [decide_eq_false f₃]; rfl
        simp (disch := omega) only [true_and, and_true, false_and, and_false, if_true, if_false, ccIte, ccBi, ccBiX, ccBv, ccBvX, ccZ0, ccZ1, ccTZ, ccT0, ccT1, Bool.or_false, ccMckT, ccMckIn, ne_eq, not_true_eq_false, not_false_eq_true, if_pos, if_neg, reduceIte, eq_self, Bool.false_eq_true, Bool.true_eq_false, mix_N, N_add, N_mul, N_sub, N_div, ccMod, N_lt, N_le, N_eq, ccNm, ccMN, ccNm2, ccM2N, ccMM2, ccM2M, ccMlt, ccMle, ccNltM, ccNleM, ccM2lt, ccM2le, ccNlt2, ccNle2, Nat.reduceAdd, Nat.reduceMul, Nat.reduceSub, Nat.reduceLT, Nat.reduceLeDiff, Nat.reduceEqDiff, Nat.reduceDiv, Nat.reduceMod, p₂, ccE52, y₂, f₂]
      refine ⟨m₄, m₅, u₁, v₁, fun rs => ?_, fun rs hB => ?_, c₃, ccG_trans a₄ c₄, ccFr_trans a₅ c₅, kwFr_trans a₆ c₆, kwSt_trans a₇ c₇, c₈⟩
      · unfold F38
        rw [ccMckIn (by omega : k < 40) (by omega), mix_N (by omega), p₂, decide_eq_true d₁]
        show bI (F30 i (N k) mc rs) _ = _
        rw [k₃, ccBi, ccIf1e, ccE111 (by omega), ccBi, ccE112 (by omega), ccBi, e₈, e₉, a₁, ccBv, c₁, ccBi, tv, u₀.2.2.2.1]
      · unfold H197
        simp (disch := omega) only [hB, f₁, e₄, e₅, a₂ rs hB, c₂ rs hB, tw, t₀, true_and, and_true, false_and, and_false, if_true, if_false, ccIte, ccBi, ccBiX, ccBv, ccBvX, ccZ0, ccZ1, ccTZ, ccT0, ccT1, Bool.or_false, ccMckT, ccMckIn, ne_eq, not_true_eq_false, not_false_eq_true, if_pos, if_neg, reduceIte, eq_self, Bool.false_eq_true, Bool.true_eq_false, mix_N, N_add, N_mul, N_sub, N_div, ccMod, N_lt, N_le, N_eq, ccNm, ccMN, ccNm2, ccM2N, ccMM2, ccM2M, ccMlt, ccMle, ccNltM, ccNleM, ccM2lt, ccM2le, ccNlt2, ccNle2, Nat.reduceAdd, Nat.reduceMul, Nat.reduceSub, Nat.reduceLT, Nat.reduceLeDiff, Nat.reduceEqDiff, Nat.reduceDiv, Nat.reduceMod]
