/-! WORLD: a tremor. -/
theorem kwH196_18 {f B : Nat} {x1 x2 x3 x4 x5 : Int32} {mi : mMi} {rs : mRs} : H196_18 B (f + 1) 18 x1 x2 x3 x4 x5 mi rs = mckO (rs.2.1.1 B) (mckO (mIn (N 1) 6) (mifO (decide ((mi 6 B 1 1) ≤ x4)) (H196_151 B FU x1 x2 x3 x4 mi rs) (H196_18 B f 32 x1 x2 x3 x4 (N 0) mi rs))) := rfl
theorem kwH196_32 {f B : Nat} {x1 x2 x3 x4 x5 : Int32} {mi : mMi} {rs : mRs} : H196_18 B (f + 1) 32 x1 x2 x3 x4 x5 mi rs = mckO (rs.2.1.1 B) (mckO (mIn (N 0) 6) (mifO (decide (((mi 6 B 1 0) - x4) ≤ x5)) (H196_18 B f 18 x1 x2 x3 (x4 + (N 1)) (N 0) mi rs) (mckO (mIn (N 3) 6) (bI (H178 B x4 x5 mi rs) (fun v3 m3 r3 => mckO (r3.2.1.1 B) (mifO (decide (v3 = (N 0))) (H196_18 B f 32 x1 x2 x3 x4 (x5 + (N 1)) m3 r3) (mifO (decide (((x1 - ((mi 6 B 1 3) * (if 0 ≤ ((((N 2) * x5) + x4) - ((N 2) * x2)) then ((((N 2) * x5) + x4) - ((N 2) * x2)) else 0 - ((((N 2) * x5) + x4) - ((N 2) * x2))))) * (x4 + (N 1))) ≤ (N 0))) (H196_18 B f 32 x1 x2 x3 x4 (x5 + (N 1)) m3 r3) (mckO (mIn x4 10) (mckO (mIn x5 14) (mckO (mIn x4 10) (mckO (mIn x5 14) (mckO (mIn (m3 20 B (mix x4) (mix x5)) 40) (mckO (mIn x4 10) (mckO (mIn x5 14) (mckO (mIn (m3 21 B (mix x4) (mix x5)) 40) (mckO (!(decide (((m3 6 B 2 (mix (m3 20 B (mix x4) (mix x5)))) + (m3 6 B 2 (mix (m3 21 B (mix x4) (mix x5))))) = 0))) (mckO (mIn x5 14) (H196_18 B f 32 x1 x2 x3 x4 (x5 + (N 1)) (mset m3 23 B (mix x4) (mix x5) ((m3 23 B (mix x4) (mix x5)) + (((x1 - ((mi 6 B 1 3) * (if 0 ≤ ((((N 2) * x5) + x4) - ((N 2) * x2)) then ((((N 2) * x5) + x4) - ((N 2) * x2)) else 0 - ((((N 2) * x5) + x4) - ((N 2) * x2))))) * (x4 + (N 1))) / ((m3 6 B 2 (mix (m3 20 B (mix x4) (mix x5)))) + (m3 6 B 2 (mix (m3 21 B (mix x4) (mix x5)))))))) r3)))))))))))))))))) := rfl
def kwSk (m₀ m : mMi) (B : Nat) (C : Nat → Nat → Int32) (g : Nat → Int32) (b : Nat) : Prop := (∀ f a j p, ¬ (f = 23 ∧ a = B) → ¬ (f = 6 ∧ a = B ∧ j = 0 ∧ p = 21) → m f a j p = m₀ f a j p) ∧ m 6 B 0 21 = m₀ 6 B 0 21 + N 1 ∧ ∀ L c, L < 8 → c < 12 → C 2 (12 * L + c) ≠ I (-1) → m 23 B L c = if 12 * L + c < b then C 5 (12 * L + c) + g (12 * L + c) else C 5 (12 * L + c)
/-- the castle with the wobbles as World has them -/
def kwCw (C : Nat → Nat → Int32) (m : mMi) (B : Nat) : Nat → Nat → Int32 := fun j p => if j = 5 then m 23 B (p / 12) (p % 12) else C j p
theorem kwSk_G {m₀ m : mMi} {B b : Nat} {C : Nat → Nat → Int32} {g : Nat → Int32} (h₁ : kwG m₀ B C) (h₂ : kwSk m₀ m B C g b) : kwG m B (kwCw C m B) := fun L c g₁ g₂ => by
  obtain ⟨e₁, e₂, e₃⟩ := h₁ L c g₁ g₂
  have d₁ : (12 * L + c) / 12 = L := by omega
  have d₂ : (12 * L + c) % 12 = c := by omega
  unfold kwCw
  rw [h₂.1 20 B L c (by omega) (by omega), h₂.1 24 B L c (by omega) (by omega), h₂.1 21 B L c (by omega) (by omega), h₂.1 22 B L c (by omega) (by omega), if_neg (by omega), if_neg (by omega), if_neg (by omega), if_neg (by omega), if_pos rfl, d₁, d₂]
  exact ⟨e₁, e₂, fun y => ⟨(e₃ y).1, (e₃ y).2.1, rfl⟩⟩
theorem kwCw_o {C : Nat → Nat → Int32} {m : mMi} {B j p : Nat} (h₁ : j ≠ 5) : kwCw C m B j p = C j p := by
  unfold kwCw
  rw [if_neg h₁]
theorem kwCw_d {C : Nat → Nat → Int32} {m : mMi} {B n : Nat} (h₁ : ccCd n C) : ccCd n (kwCw C m B) := by
  unfold ccCd
  simp (disch := omega) only [kwCw_o]
  exact h₁
theorem kwSk_S {m₀ m : mMi} {B b w l n lm dp cl bd : Nat} {C : Nat → Nat → Int32} {g : Nat → Int32} (h₁ : kwS m₀ B w l n lm dp cl bd) (h₂ : kwSk m₀ m B C g b) : kwS m B w l n lm dp cl bd := kwS_st (fun j p y => h₂.1 6 B j p (by omega) (by omega)) h₁
theorem kwN0 {z : Nat} (h₆ : 2 ≤ z) (h₇ : z ≤ 18) : (!(decide (N z = 0))) = true := by
  have e₃ : (0 : Int32) = N 0 := rfl
  rw [e₃]
  have e₄ : ¬ N z = N 0 := by rw [N_eq (by omega) (by omega)]; omega
  rw [decide_eq_false e₄]
  rfl
theorem kwL196st {B w l n lm dp cl bd L c : Nat} {x1 x2 x3 : Int32} {X : Nat → Bool} {β wt : Nat → Int32} {h t : Nat} {C : Nat → Nat → Int32} {s : Nat → Int32} {m₀ m : mMi} (q₀ : kwS m₀ B w l n lm dp cl bd) (q₁ : ccR X n β wt h t C s) (gg : kwG m₀ B C) (kk : kwK ccX0 n m₀ B C) (h₂ : L < l) (h₃ : L + c < w) (g₃ : kwSk m₀ m B C (ccWob x1 (N dp) x2 C) (12 * L + c)) :
    ∃ m₁, (∀ f rs, rs.2.1.1 B = true → H196_18 B (f + 1) 32 x1 x2 x3 (N L) (N c) m rs = H196_18 B f 32 x1 x2 x3 (N L) (N (c + 1)) m₁ rs) ∧ kwSk m₀ m₁ B C (ccWob x1 (N dp) x2 C) (12 * L + (c + 1)) := by
  have q₂ := kwSk_S q₀ g₃
  have cd : ccCd n C := ccCd_of q₁.2.1
  have g₀ := kwSk_G gg g₃
  have q₃ := q₂
  obtain ⟨q₄, _, _, q₅, _, _, _, b₁, b₂, b₃, b₄, b₅, _⟩ := q₃
  have p₁ : 12 * L + c < 96 := by omega
  have p₂ : (12 * L + c) / 12 = L := by omega
  have p₃ : (12 * L + c) % 12 = c := by omega
  have s₁ : ∀ rs : mRs, rs.2.1.1 B = true → H178 B (N L) (N c) m rs = rI (ccT (ccHP C w l L c)) m rs := fun rs hB => by
    rw [kwE178 hB q₂ g₀ (kwCw_d cd) (by omega) (by omega), ccHP_congr (C := C) (fun p => kwCw_o (by omega))]
  cases g₄ : ccP C (12 * L + c)
  · have e₃ : ccHP C w l L c = false := by unfold ccHP; rw [g₄, Bool.and_false]
    refine ⟨m, fun f rs hB => ?_, g₃.1, g₃.2.1, fun L₁ c₁ y₁ y₂ y₃ => ?_⟩
    · rw [kwH196_32, q₄]
      simp (disch := omega) only [hB, s₁ rs hB, e₃, true_and, and_true, false_and, and_false, if_true, if_false, ccIte, ccBi, ccBiX, ccBv, ccBvX, ccZ0, ccZ1, ccTZ, ccT0, ccT1, Bool.or_false, ccMckT, ccMckIn, ne_eq, not_true_eq_false, not_false_eq_true, if_pos, if_neg, reduceIte, eq_self, Bool.false_eq_true, Bool.true_eq_false, mix_N, N_add, N_mul, N_sub, N_div, ccMod, N_lt, N_le, N_eq, ccNm, ccMN, ccNm2, ccM2N, ccMM2, ccM2M, ccMlt, ccMle, ccNltM, ccNleM, ccM2lt, ccM2le, ccNlt2, ccNle2, Nat.reduceAdd, Nat.reduceMul, Nat.reduceSub, Nat.reduceLT, Nat.reduceLeDiff, Nat.reduceEqDiff, Nat.reduceDiv, Nat.reduceMod]
    · rw [g₃.2.2 L₁ c₁ y₁ y₂ y₃]
      by_cases y₄ : 12 * L₁ + c₁ = 12 * L + c
      · unfold ccP at g₄
        rw [← y₄, decide_eq_false y₃] at g₄
        cases g₄
      · by_cases y₅ : 12 * L₁ + c₁ < 12 * L + c
        · rw [if_pos y₅, if_pos (by omega)]
        · rw [if_neg y₅, if_neg (by omega)]
  · have g₅ : C 2 (12 * L + c) ≠ I (-1) := by
      unfold ccP at g₄
      simpa only [Bool.not_eq_true', decide_eq_false_iff_not] using g₄
    have e₃ : ccHP C w l L c = true := ccHP_i h₂ h₃ g₅
    obtain ⟨z, y₁, y₂, y₃⟩ := ccStf_pos q₁ b₅ p₁ g₅
    obtain ⟨a, b, f₁, f₂, f₃, f₄⟩ := cd.1 _ p₁ g₅
    obtain ⟨r₁, r₂, r₃⟩ := gg L c (by omega) (by omega)
    obtain ⟨r₄, _, _⟩ := r₃ g₅
    have v₁ : m 20 B L c = N a := by rw [g₃.1 20 B L c (by omega) (by omega), r₁]; exact f₃
    have v₂ : m 21 B L c = N b := by rw [g₃.1 21 B L c (by omega) (by omega), r₄]; exact f₄
    have v₃ : m 6 B 2 a = C 11 a := by rw [g₃.1 6 B 2 a (by omega) (by omega)]; exact (kk a f₁).1
    have v₄ : m 6 B 2 b = C 11 b := by rw [g₃.1 6 B 2 b (by omega) (by omega)]; exact (kk b f₂).1
    have v₅ : C 11 a + C 11 b = N z := by
      rw [← y₁]
      unfold ccStf
      rw [f₃, f₄, mix_N (by omega), mix_N (by omega)]
    have v₆ : m 23 B L c = C 5 (12 * L + c) := by rw [g₃.2.2 L c (by omega) (by omega) g₅, if_neg (by omega)]
    have n₀ := kwN0 y₂ y₃
    by_cases g₁ : ccShk x1 (N dp) x2 L c ≤ N 0
    · have w₀ : ccWob x1 (N dp) x2 C (12 * L + c) = N 0 := by
        unfold ccWob
        rw [p₂, p₃, if_pos g₁]
      refine ⟨m, fun f rs hB => ?_, g₃.1, g₃.2.1, fun L₁ c₁ k₁ k₂ k₃ => ?_⟩
      · unfold ccShk at g₁
        rw [kwH196_32, q₄, q₅]
        simp (disch := omega) only [hB, s₁ rs hB, e₃, g₁, true_and, and_true, false_and, and_false, if_true, if_false, ccIte, ccBi, ccBiX, ccBv, ccBvX, ccZ0, ccZ1, ccTZ, ccT0, ccT1, Bool.or_false, ccMckT, ccMckIn, ne_eq, not_true_eq_false, not_false_eq_true, if_pos, if_neg, reduceIte, eq_self, Bool.false_eq_true, Bool.true_eq_false, mix_N, N_add, N_mul, N_sub, N_div, ccMod, N_lt, N_le, N_eq, ccNm, ccMN, ccNm2, ccM2N, ccMM2, ccM2M, ccMlt, ccMle, ccNltM, ccNleM, ccM2lt, ccM2le, ccNlt2, ccNle2, Nat.reduceAdd, Nat.reduceMul, Nat.reduceSub, Nat.reduceLT, Nat.reduceLeDiff, Nat.reduceEqDiff, Nat.reduceDiv, Nat.reduceMod]
      · rw [g₃.2.2 L₁ c₁ k₁ k₂ k₃]
        by_cases k₄ : 12 * L₁ + c₁ = 12 * L + c
        · rw [k₄, if_neg (by omega), if_pos (by omega), w₀]
          have e₃ : N 0 = 0 := rfl
          rw [e₃]
          grind
        · by_cases k₅ : 12 * L₁ + c₁ < 12 * L + c
          · rw [if_pos k₅, if_pos (by omega)]
          · rw [if_neg k₅, if_neg (by omega)]
    · have w₀ : ccWob x1 (N dp) x2 C (12 * L + c) = ccShk x1 (N dp) x2 L c / N z := by
        unfold ccWob
        rw [p₂, p₃, if_neg g₁, y₁]
      refine ⟨mset m 23 B L c (C 5 (12 * L + c) + ccShk x1 (N dp) x2 L c / N z), fun f rs hB => ?_, fun f₅ a₅ j₅ p₅ k₁ k₂ => ?_, ?_, fun L₁ c₁ k₁ k₂ k₃ => ?_⟩
      · unfold ccShk at g₁ ⊢
        rw [kwH196_32, q₄, q₅]
        simp (disch := omega) only [hB, s₁ rs hB, e₃, g₁, v₁, v₂, v₃, v₄, v₅, v₆, n₀, true_and, and_true, false_and, and_false, if_true, if_false, ccIte, ccBi, ccBiX, ccBv, ccBvX, ccZ0, ccZ1, ccTZ, ccT0, ccT1, Bool.or_false, ccMckT, ccMckIn, ne_eq, not_true_eq_false, not_false_eq_true, if_pos, if_neg, reduceIte, eq_self, Bool.false_eq_true, Bool.true_eq_false, mix_N, N_add, N_mul, N_sub, N_div, ccMod, N_lt, N_le, N_eq, ccNm, ccMN, ccNm2, ccM2N, ccMM2, ccM2M, ccMlt, ccMle, ccNltM, ccNleM, ccM2lt, ccM2le, ccNlt2, ccNle2, Nat.reduceAdd, Nat.reduceMul, Nat.reduceSub, Nat.reduceLT, Nat.reduceLeDiff, Nat.reduceEqDiff, Nat.reduceDiv, Nat.reduceMod]
      · rw [ccRd, if_neg (by omega)]
        exact g₃.1 f₅ a₅ j₅ p₅ k₁ k₂
      · rw [ccRd, if_neg (by omega)]
        exact g₃.2.1
      · by_cases k₄ : L₁ = L ∧ c₁ = c
        · obtain ⟨rfl, rfl⟩ := k₄
          rw [ccRd, if_pos ⟨rfl, rfl, rfl, rfl⟩, if_pos (by omega), w₀]
        · rw [ccRd, if_neg (by omega), g₃.2.2 L₁ c₁ k₁ k₂ k₃]
          by_cases k₅ : 12 * L₁ + c₁ < 12 * L + c
          · rw [if_pos k₅, if_pos (by omega)]
          · rw [if_neg k₅, if_neg (by omega)]
theorem kwL196in {B w l n lm dp cl bd L : Nat} {x1 x2 x3 : Int32} {X : Nat → Bool} {β wt : Nat → Int32} {h t : Nat} {C : Nat → Nat → Int32} {s : Nat → Int32} {m₀ : mMi} (q₀ : kwS m₀ B w l n lm dp cl bd) (q₁ : ccR X n β wt h t C s) (gg : kwG m₀ B C) (kk : kwK ccX0 n m₀ B C) (q₃ : ccPlc w l C) (h₂ : L < l) : ∀ e c m, c + e = w - L → kwSk m₀ m B C (ccWob x1 (N dp) x2 C) (12 * L + c) →
    ∃ m₁, (∀ f rs, rs.2.1.1 B = true → H196_18 B (f + e + 1) 32 x1 x2 x3 (N L) (N c) m rs = H196_18 B f 18 x1 x2 x3 (N (L + 1)) (N 0) m₁ rs) ∧ kwSk m₀ m₁ B C (ccWob x1 (N dp) x2 C) (12 * (L + 1)) := by
  have b₂ : w ≤ 12 := q₀.2.2.2.2.2.2.2.2.1
  have b₄ : l ≤ 8 := q₀.2.2.2.2.2.2.2.2.2.2.1
  intro e
  induction e with
  | zero =>
    intro c m g₁ g₃
    have q₄ : m 6 B 1 0 = N w := (kwSk_S q₀ g₃).1
    refine ⟨m, fun f rs hB => ?_, g₃.1, g₃.2.1, fun L₁ c₁ y₁ y₂ y₃ => ?_⟩
    · rw [kwH196_32, q₄]
      by_cases y₁ : L ≤ w
      · simp (disch := omega) only [hB, true_and, and_true, false_and, and_false, if_true, if_false, ccIte, ccBi, ccBiX, ccBv, ccBvX, ccZ0, ccZ1, ccTZ, ccT0, ccT1, Bool.or_false, ccMckT, ccMckIn, ne_eq, not_true_eq_false, not_false_eq_true, if_pos, if_neg, reduceIte, eq_self, Bool.false_eq_true, Bool.true_eq_false, mix_N, N_add, N_mul, N_sub, N_div, ccMod, N_lt, N_le, N_eq, ccNm, ccMN, ccNm2, ccM2N, ccMM2, ccM2M, ccMlt, ccMle, ccNltM, ccNleM, ccM2lt, ccM2le, ccNlt2, ccNle2, Nat.reduceAdd, Nat.reduceMul, Nat.reduceSub, Nat.reduceLT, Nat.reduceLeDiff, Nat.reduceEqDiff, Nat.reduceDiv, Nat.reduceMod]
      · simp (disch := omega) only [hB, ccMckT, ccMckIn, ccIte, ccSubLe, if_true, N_add]
    · rw [g₃.2.2 L₁ c₁ y₁ y₂ y₃]
      by_cases y₄ : 12 * L₁ + c₁ < 12 * L + c
      · rw [if_pos y₄, if_pos (by omega)]
      · have y₆ := (q₃ (12 * L₁ + c₁) (by omega)).1 y₃
        rw [if_neg y₄, if_neg (by omega)]
  | succ e i₁ =>
    intro c m g₁ g₃
    obtain ⟨m₁, a₁, a₃⟩ := kwL196st (x3 := x3) q₀ q₁ gg kk h₂ (by omega) g₃
    obtain ⟨m₂, c₁, c₃⟩ := i₁ (c + 1) m₁ (by omega) a₃
    refine ⟨m₂, fun f rs hB => ?_, c₃⟩
    have e₁ : f + (e + 1) + 1 = f + e + 1 + 1 := by omega
    rw [e₁, a₁ _ _ hB]
    exact c₁ f rs hB
theorem kwL196out {B w l n lm dp cl bd : Nat} {x1 x2 x3 : Int32} {X : Nat → Bool} {β wt : Nat → Int32} {h t : Nat} {C : Nat → Nat → Int32} {s : Nat → Int32} {m₀ : mMi} (q₀ : kwS m₀ B w l n lm dp cl bd) (q₁ : ccR X n β wt h t C s) (gg : kwG m₀ B C) (kk : kwK ccX0 n m₀ B C) (q₃ : ccPlc w l C) : ∀ k L m, L + k = l → kwSk m₀ m B C (ccWob x1 (N dp) x2 C) (12 * L) →
    ∃ m₁ T, T ≤ 15 * k + 1 ∧ (∀ f y rs, rs.2.1.1 B = true → H196_18 B (f + T) 18 x1 x2 x3 (N L) y m rs = H196_151 B FU x1 x2 x3 (N l) m₁ rs) ∧ kwSk m₀ m₁ B C (ccWob x1 (N dp) x2 C) 96 := by
  have b₂ : w ≤ 12 := q₀.2.2.2.2.2.2.2.2.1
  have b₄ : l ≤ 8 := q₀.2.2.2.2.2.2.2.2.2.2.1
  intro k
  induction k with
  | zero =>
    intro L m g₁ g₃
    have q₄ : m 6 B 1 1 = N l := (kwSk_S q₀ g₃).2.1
    have e₀ : L = l := by omega
    subst e₀
    refine ⟨m, 1, by omega, fun f y rs hB => ?_, g₃.1, g₃.2.1, fun L₁ c₁ y₁ y₂ y₃ => ?_⟩
    · rw [kwH196_18, q₄]
      simp (disch := omega) only [hB, true_and, and_true, false_and, and_false, if_true, if_false, ccIte, ccBi, ccBiX, ccBv, ccBvX, ccZ0, ccZ1, ccTZ, ccT0, ccT1, Bool.or_false, ccMckT, ccMckIn, ne_eq, not_true_eq_false, not_false_eq_true, if_pos, if_neg, reduceIte, eq_self, Bool.false_eq_true, Bool.true_eq_false, mix_N, N_add, N_mul, N_sub, N_div, ccMod, N_lt, N_le, N_eq, ccNm, ccMN, ccNm2, ccM2N, ccMM2, ccM2M, ccMlt, ccMle, ccNltM, ccNleM, ccM2lt, ccM2le, ccNlt2, ccNle2, Nat.reduceAdd, Nat.reduceMul, Nat.reduceSub, Nat.reduceLT, Nat.reduceLeDiff, Nat.reduceEqDiff, Nat.reduceDiv, Nat.reduceMod]
    · rw [g₃.2.2 L₁ c₁ y₁ y₂ y₃]
      have y₆ := (q₃ (12 * L₁ + c₁) (by omega)).1 y₃
      rw [if_pos (by omega), if_pos (by omega)]
  | succ k i₁ =>
    intro L m g₁ g₃
    have q₄ : m 6 B 1 1 = N l := (kwSk_S q₀ g₃).2.1
    obtain ⟨m₁, a₁, a₃⟩ := kwL196in (x3 := x3) q₀ q₁ gg kk q₃ (by omega : L < l) (w - L) 0 m (by omega) g₃
    obtain ⟨m₂, T, c₁, c₂, c₃⟩ := i₁ (L + 1) m₁ (by omega) a₃
    refine ⟨m₂, T + (w - L) + 1 + 1, by omega, fun f y rs hB => ?_, c₃⟩
    have e₁ : f + (T + (w - L) + 1 + 1) = (f + T) + (w - L) + 1 + 1 := by omega
    rw [e₁, kwH196_18, q₄]
    simp (disch := omega) only [hB, true_and, and_true, false_and, and_false, if_true, if_false, ccIte, ccBi, ccBiX, ccBv, ccBvX, ccZ0, ccZ1, ccTZ, ccT0, ccT1, Bool.or_false, ccMckT, ccMckIn, ne_eq, not_true_eq_false, not_false_eq_true, if_pos, if_neg, reduceIte, eq_self, Bool.false_eq_true, Bool.true_eq_false, mix_N, N_add, N_mul, N_sub, N_div, ccMod, N_lt, N_le, N_eq, ccNm, ccMN, ccNm2, ccM2N, ccMM2, ccM2M, ccMlt, ccMle, ccNltM, ccNleM, ccM2lt, ccM2le, ccNlt2, ccNle2, Nat.reduceAdd, Nat.reduceMul, Nat.reduceSub, Nat.reduceLT, Nat.reduceLeDiff, Nat.reduceEqDiff, Nat.reduceDiv, Nat.reduceMod]
    rw [a₁ _ _ hB]
    exact c₂ f (N 0) rs hB
theorem ccJ_gh {mc mm : mMi} {i w l n bd h t : Nat} {β wt : Nat → Int32} {W : Nat → Nat} {x : Int32} (q : ccJ mc mm i w l n bd β wt W h t) : ccJ mc (mset mm 4 0 0 5 x) i w l n bd β wt W h t := by
  obtain ⟨⟨q₁, q₂, q₃, q₄, q₅, q₆, q₇, q₈⟩, a₁, a₂, a₃, a₄⟩ := q
  have e₁ : (mset mm 4 0 0 5 x) 4 0 3 = mm 4 0 3 := by
    funext p
    rw [ccRd, if_neg (by omega)]
  refine ⟨⟨q₁, q₂, ?_, by rw [ccRd, if_neg (by omega)]; exact q₄, q₅, by rw [e₁]; exact q₆, q₇, q₈⟩, a₁, a₂, fun k y => by rw [ccRd, if_neg (by omega)]; exact a₃ k y, a₄⟩
  unfold ccMo at q₃ ⊢
  rw [ccRd, if_neg (by omega), ccRd, if_neg (by omega), ccRd, if_neg (by omega)]
  exact q₃
/-- the ties behind the shaking -/
theorem kwSk_U {mc m₃ mw m₄ : mMi} {i B n t : Nat} {β : Nat → Int32} {bx : Bool} {g : Nat → Int32} (u : kwU n t β bx mw B (mc 0 i)) (h₁ : ccShaken (mc 0 i) (m₃ 0 i) g 96) (h₂ : kwSk mw m₄ B (mc 0 i) g 96) : kwU n t β bx m₄ B (m₃ 0 i) := by
  obtain ⟨u₁, u₂, ⟨u₃, a, h, u₄, u₅, u₆⟩, u₇, u₈⟩ := u
  obtain ⟨d₁, d₂, d₃⟩ := h₁
  obtain ⟨e₁, e₂, e₃⟩ := h₂
  refine ⟨fun L c g₁ g₂ => ?_, fun k g₁ => ?_, ⟨?_, a, h, ?_, ?_, u₆⟩, ?_, fun y => ?_⟩
  · rw [e₁ 20 B L c (by omega) (by omega), e₁ 24 B L c (by omega) (by omega), e₁ 21 B L c (by omega) (by omega), e₁ 22 B L c (by omega) (by omega), d₁ 2 _ (by omega) (by omega), d₁ 6 _ (by omega) (by omega), d₁ 3 _ (by omega) (by omega), d₁ 4 _ (by omega) (by omega)]
    obtain ⟨f₁, f₂, f₃⟩ := u₁ L c g₁ g₂
    refine ⟨f₁, f₂, fun y => ⟨(f₃ y).1, (f₃ y).2.1, ?_⟩⟩
    have y₃ : ccP (mc 0 i) (12 * L + c) = true := by unfold ccP; rw [decide_eq_false y]; rfl
    rw [e₃ L c g₁ g₂ y, d₃ _ (by omega), if_pos (by omega), if_pos ⟨by omega, y₃⟩]
  · obtain ⟨f₁, f₂⟩ := u₂ k g₁
    refine ⟨by rw [e₁ 6 B 2 k (by omega) (by omega), d₁ 11 _ (by omega) (by omega)]; exact f₁, ?_⟩
    rcases f₂ with f₂ | f₂
    · exact Or.inl f₂
    · refine Or.inr ?_
      have w₄ : m₄ 6 B 4 k = mw 6 B 4 k := e₁ 6 B 4 k (by omega) (by omega)
      have w₅ : m₄ 6 B 5 k = mw 6 B 5 k := e₁ 6 B 5 k (by omega) (by omega)
      have w₆ : m₄ 6 B 6 k = mw 6 B 6 k := e₁ 6 B 6 k (by omega) (by omega)
      have c₂ : ∀ p, m₃ 0 i 2 p = mc 0 i 2 p := fun p => d₁ 2 p (by omega) (by omega)
      have c₃ : ∀ p, m₃ 0 i 3 p = mc 0 i 3 p := fun p => d₁ 3 p (by omega) (by omega)
      have c₆ : ∀ p, m₃ 0 i 6 p = mc 0 i 6 p := fun p => d₁ 6 p (by omega) (by omega)
      have c₇ : ∀ p, m₃ 0 i 13 p = mc 0 i 13 p := fun p => d₁ 13 p (by omega) (by omega)
      unfold kwL at f₂ ⊢
      simp only [w₄, w₅, w₆, c₂, c₃, c₆, c₇]
      exact f₂
  · rw [e₁ 6 B 0 20 (by omega) (by omega), d₁ 7 2 (by omega) (by omega)]
    exact u₃
  · rw [e₁ 6 B 0 18 (by omega) (by omega)]
    exact u₄
  · rw [d₁ 10 5 (by omega) (by omega)]
    exact u₅
  · rw [d₁ 7 2 (by omega) (by omega)]
    exact u₇
  · obtain ⟨x₁, x₂, ⟨x₃, x₄⟩, x₅, x₆, x₇⟩ := u₈ y
    refine ⟨fun u e g₁ g₂ g₃ => ?_, fun u g₁ => ?_, ⟨?_, fun h g₁ g₂ u g₃ => ?_⟩, fun k g₁ => ?_, ?_, ?_⟩
    · rw [e₁ 25 B u e (by omega) (by omega), d₁ 8 _ (by omega) (by omega)]
      exact x₁ u e g₁ g₂ g₃
    · rw [e₁ 6 B 16 u (by omega) (by omega), d₁ 9 _ (by omega) (by omega)]
      exact x₂ u g₁
    · rw [e₁ 6 B 0 18 (by omega) (by omega), d₁ 10 _ (by omega) (by omega)]
      exact x₃
    · rw [d₁ 10 _ (by omega) (by omega)] at g₁
      rw [e₁ 6 B 9 u (by omega) (by omega), d₁ 14 _ (by omega) (by omega)]
      exact x₄ h g₁ g₂ u g₃
    · rw [e₁ 6 B 7 k (by omega) (by omega), e₁ 6 B 8 k (by omega) (by omega), d₁ 12 _ (by omega) (by omega), d₁ 11 _ (by omega) (by omega)]
      exact x₅ k g₁
    · rw [e₁ 6 B 0 19 (by omega) (by omega), d₁ 0 5 (by omega) (by omega)]
      exact x₆
    · rw [e₂, d₂, x₇]
theorem kwSk_fr {m₀ m : mMi} {B b : Nat} {C : Nat → Nat → Int32} {g : Nat → Int32} (h₁ : kwSk m₀ m B C g b) : kwFr B m₀ m ∧ kwSt B m₀ m := ⟨fun f a j p g₁ g₂ => h₁.1 f a j p (by omega) (by omega), fun j p g₁ => h₁.1 6 B j p (by omega) (by omega)⟩
/-- a tremor of both -/
theorem kwQuake {i B w l n lm dp cl bd h t : Nat} {β wt : Nat → Int32} {W : Nat → Nat} {bx : Bool} {x1 x2 : Int32} {mc mw : mMi} (q : kwJ mc mw i B w l n lm dp cl bd β wt W bx h t) (hd : mc 1 (RO i) 1 3 = N dp) (hx : mc 1 (RO i) 1 2 = N lm) :
    ∃ m₁ m₂ u v, (∀ rs, F35 i x1 x2 mc rs = rI (N v - N t) m₁ rs) ∧ (∀ rs, rs.2.1.1 B = true → H196 B x1 x2 mw rs = rI (N v - N t) m₂ rs) ∧ kwJ m₁ m₂ i B w l n lm dp cl bd β wt W bx u v ∧ ccFr i mc m₁ ∧ kwFr B mw m₂ ∧ kwSt B mw m₂ ∧ ccQt W (m₁ 0 i) w l := by
  have q₉ := q
  obtain ⟨⟨mm, j₀⟩, s₀, u₀, w₀⟩ := q
  have j₅ := ccJ_gh (x := N dp) j₀
  obtain ⟨mn, hmn⟩ : ∃ m, m = mset mm 4 0 0 5 (N dp) := ⟨_, rfl⟩
  rw [← hmn] at j₅
  have hd₂ : mn 4 0 0 5 = N dp := by rw [hmn, ccRd, if_pos ⟨rfl, rfl, rfl, rfl⟩]
  have b₃ : n ≤ 40 := j₅.1.1.2.2.2.2.2.2.2
  have b₂ : l ≤ 8 := j₅.1.1.2.2.2.2.2.2.1
  have r₀ := j₅.1.2.2.2.2.2.1
  obtain ⟨m₃, a₁, a₂, a₃⟩ := ccL35a (i := i) (x1 := x1) (x2 := x2) (x3 := mc 0 i 7 2) (m₀ := mc) r₀ b₃ 96 0 (mset mc 0 i 0 6 (mc 0 i 0 6 + N 1)) (by omega) (ccFr_set ccFr_rfl) ⟨fun j p y₁ y₂ => by rw [ccRd, if_neg (by omega)], by rw [ccRd, if_pos ⟨rfl, rfl, rfl, rfl⟩], fun p y₁ => by rw [ccRd, if_neg (by omega), if_neg (by omega)]⟩
  obtain ⟨m₄, T, c₁, c₂, c₃, c₄⟩ := ccL269out (x1 := x1) (x2 := x2) (x3 := mn 4 0 3 1) j₅.1.2.2.1 r₀ j₅.1.2.2.2.2.2.2.1 l 0 (mset mn 4 0 3 6 (mn 4 0 3 6 + N 1)) (by omega) (ccFq_set ccFq_rfl (by omega)) ⟨fun p y₁ y₂ => by rw [ccRd, if_neg (by omega)], by rw [ccRd, if_pos ⟨rfl, rfl, rfl, rfl⟩], fun p y₁ y₂ => by
    have y₃ : mc 0 i 2 p ≠ I (-1) := by
      unfold ccP at y₂
      simpa only [Bool.not_eq_true', decide_eq_false_iff_not] using y₂
    rw [ccRd, if_neg (by omega), if_neg (by omega)]
    exact ((r₀.1 p y₁).2.2 y₃).2.2⟩
  rw [hd] at a₃
  rw [hd₂] at c₄
  have j₁ : ccJ m₃ m₄ i w l n bd β wt W h t := by
    refine ccJ_ch j₅ a₂ c₃ (fun j p y₁ y₂ y₃ => a₃.1 j p y₂ (by omega)) (fun p y₁ y₂ y₃ => c₄.1 p y₂ (fun p₁ y₄ => (y₃ p₁ y₄).2)) (fun p y₁ y₂ => ⟨?_, ?_⟩) ⟨?_, ?_, ?_⟩
    · rw [c₄.1 _ (by omega) (fun p₁ y₄ => by omega), a₃.1 4 p (by omega) (by omega)]
      exact ((r₀.1 p y₁).2.2 y₂).2.1
    · have y₃ : ccP (mc 0 i) p = true := by unfold ccP; rw [decide_eq_false y₂]; rfl
      rw [c₄.2.2 p y₁ y₃, a₃.2.2 p y₁, if_pos y₁, if_pos ⟨y₁, y₃⟩]
    · rw [c₄.1 0 (by omega) (fun p₁ y₄ => by omega), a₃.1 0 5 (by omega) (by omega)]
      exact r₀.2.2.2.2.1.2.2.2.2.1
    · rw [c₄.2.1, a₃.2.1, r₀.2.2.2.2.1.2.2.2.2.2.1]
    · rw [a₃.1 0 5 (by omega) (by omega)]
      exact r₀.2.2.2.2.1.2.2.2.2.2.2
  obtain ⟨m₅, U, n₁, n₂, n₃⟩ := kwL196out (x1 := x1) (x2 := x2) (x3 := mw 6 B 0 20) s₀ r₀ u₀.1 u₀.2.1 j₅.1.2.2.2.2.2.2.1 l 0 (mset mw 6 B 0 21 (mw 6 B 0 21 + N 1)) (by omega) ⟨fun f a j p y₁ y₂ => by rw [ccRd, if_neg (by omega)], by rw [ccRd, if_pos ⟨rfl, rfl, rfl, rfl⟩], fun L c y₁ y₂ y₃ => by
    rw [ccRd, if_neg (by omega), if_neg (by omega)]
    exact ((u₀.1 L c y₁ y₂).2.2 y₃).2.2⟩
  obtain ⟨f₁, f₂⟩ := kwSk_fr n₃
  have J₁ : kwJ m₃ m₅ i B w l n lm dp cl bd β wt W bx h t := ⟨⟨m₄, j₁⟩, kwS_st f₂ s₀, kwSk_U u₀ a₃ n₃, kwW_st f₂ w₀⟩
  obtain ⟨m₆, m₇, u₆, v₆, k₁, k₂, k₃, k₄, k₅, k₆, k₇⟩ := kwSetW 96 0 (by omega) m₃ m₅ h t J₁ (by rw [a₂ 1 (RO i) 1 2 (by omega) (by omega)]; exact hx) (ccCnt_le 96)
  obtain ⟨m₈, m₉, u₈, v₈, i₁, i₂, i₃, i₄, i₅, i₆, i₇, i₈, i₉⟩ := kwE19 k₃
  refine ⟨m₈, m₉, u₈, v₈, fun rs => ?_, fun rs hB => ?_, i₃, ccFr_trans a₂ (ccFr_trans k₅ i₅), kwFr_trans f₁ (kwFr_trans k₆ i₆), kwSt_trans f₂ (kwSt_trans k₇ i₇), i₈⟩
  · obtain ⟨g, hg⟩ := ccFU (k := 96) (by omega)
    have e₈ := a₁ g rs
    have e₉ := k₁ g x1 x2 (mc 0 i 7 2) rs
    rw [← hg] at e₈ e₉
    unfold F35
    rw [e₈, e₉, i₁]
    show rI (m₈ 0 i 7 2 - mc 0 i 7 2) m₈ rs = _
    rw [i₃.2.2.1.2.2.2.1, u₀.2.2.2.1]
  · obtain ⟨g, hg⟩ := ccFU (k := 96) (by omega)
    have e₉ := k₂ g x1 x2 (mw 6 B 0 20) (N l) rs hB
    rw [← hg] at e₉
    have e₈ : FU = (100000 - U) + U := by unfold FU; omega
    have e₇ := n₂ (100000 - U) (N 0) rs hB
    rw [← e₈] at e₇
    unfold H196
    rw [hB, ccMckT, e₇, e₉, i₂ rs hB]
    show mckO (rs.2.1.1 B) (rI (m₉ 6 B 0 20 - mw 6 B 0 20) m₉ rs) = _
    rw [hB, ccMckT, i₃.2.2.1.2.2.1.1, i₃.2.2.1.2.2.2.1, u₀.2.2.1.1, u₀.2.2.2.1]
