/-! WORLD: cards in the hand; what may be leaned and laid. -/
theorem kwH176_4 {f B : Nat} {x1 x2 : Int32} {mi : mMi} {rs : mRs} : H176_4 B (f + 1) x1 x2 mi rs = mckO (rs.2.1.1 B) (mifO (decide ((mi 6 B 0 17) ≤ x2)) (some (.inl (some (mI x1)), mi, rs)) (mckO (mIn x2 40) (mifO (decide ((mi 6 B 4 (mix x2)) ≠ (N 0))) (H176_4 B f (x1 + (N 0)) (x2 + (N 1)) mi rs) (H176_4 B f (x1 + (N 1)) (x2 + (N 1)) mi rs)))) := rfl
theorem kwH180_4 {f B : Nat} {x1 x2 x3 : Int32} {mi : mMi} {rs : mRs} : H180_4 B (f + 1) x1 x2 x3 mi rs = mckO (rs.2.1.1 B) (mifO (decide ((mi 6 B 0 17) ≤ x3)) (some (.inl (some (mI (I (-1)))), mi, rs)) (mckO (mIn x3 40) (mifO (decide ((mi 6 B 4 (mix x3)) ≠ (N 0))) (H180_4 B f x1 x2 (x3 + (N 1)) mi rs) (mifO (decide (x2 ≠ (N 0))) (H180_4 B f x1 (x2 + (I (-1))) (x3 + (N 1)) mi rs) (some (.inl (some (mI x3)), mi, rs)))))) := rfl
theorem kwHd {n B k : Nat} {m : mMi} {C : Nat → Nat → Int32} (q : kwK ccX0 n m B C) (h₁ : k < n) : (m 6 B 4 k = N 0 ∧ ccHeld C k = true ∧ C 13 k = I (-1)) ∨ (¬ m 6 B 4 k = N 0 ∧ ccHeld C k = false ∧ ¬ C 13 k = I (-1)) := by
  unfold ccHeld
  rcases (q k h₁).2 with h | ⟨e₁, e₂⟩ | ⟨e₁, e₂⟩ | ⟨L, c, g₁, g₂, e₂, _, _, e₁⟩
  · cases h
  · exact Or.inl ⟨e₁, decide_eq_true e₂, e₂⟩
  · have e₃ : ¬ C 13 k = I (-1) := by rw [e₂]; decide
    exact Or.inr ⟨by rw [e₁]; decide, decide_eq_false e₃, e₃⟩
  · have e₃ : ¬ C 13 k = I (-1) := by
      rw [e₂]
      exact fun y => (ccNm (by omega)).mp y
    refine Or.inr ⟨?_, decide_eq_false e₃, e₃⟩
    rcases e₁ with ⟨e₁, _⟩ | ⟨e₁, _⟩
    · rw [e₁]; decide
    · rw [e₁]; decide
theorem kwL176 {B w l n lm dp cl bd : Nat} {m : mMi} {rs : mRs} {C : Nat → Nat → Int32} (hB : rs.2.1.1 B = true) (s : kwS m B w l n lm dp cl bd) (q : kwK ccX0 n m B C) : ∀ d p f, p + d = n → H176_4 B (f + d + 1) (N (ccCnt (ccHeld C) p)) (N p) m rs = rI (N (ccCnt (ccHeld C) n)) m rs := by
  have s₁ := s
  obtain ⟨_, _, _, _, _, _, s₇, _, _, _, _, b₅, _⟩ := s
  intro d
  induction d with
  | zero =>
    intro p f g₁
    have e₁ : p = n := by omega
    subst e₁
    rw [kwH176_4, s₇]
    simp (disch := omega) only [hB, true_and, and_true, false_and, and_false, if_true, if_false, ccIte, ccBi, ccBiX, ccBv, ccBvX, ccZ0, ccZ1, ccTZ, ccT0, ccT1, Bool.or_false, ccMckT, ccMckIn, ne_eq, not_true_eq_false, not_false_eq_true, if_pos, if_neg, reduceIte, eq_self, Bool.false_eq_true, Bool.true_eq_false, mix_N, N_add, N_mul, N_sub, N_div, ccMod, N_lt, N_le, N_eq, ccNm, ccMN, ccNm2, ccM2N, ccMM2, ccM2M, ccMlt, ccMle, ccNltM, ccNleM, ccM2lt, ccM2le, ccNlt2, ccNle2, Nat.reduceAdd, Nat.reduceMul, Nat.reduceSub, Nat.reduceLT, Nat.reduceLeDiff, Nat.reduceEqDiff, Nat.reduceDiv, Nat.reduceMod]
  | succ d i₁ =>
    intro p f g₁
    have e₁ : f + (d + 1) + 1 = f + d + 1 + 1 := by omega
    have e₂ := i₁ (p + 1) f (by omega)
    rw [ccCnt_s] at e₂
    rw [e₁, kwH176_4, s₇]
    rcases kwHd q (by omega : p < n) with ⟨g₂, g₃, _⟩ | ⟨g₂, g₃, _⟩
    · rw [g₃, if_pos rfl] at e₂
      simp (disch := omega) only [hB, g₂, true_and, and_true, false_and, and_false, if_true, if_false, ccIte, ccBi, ccBiX, ccBv, ccBvX, ccZ0, ccZ1, ccTZ, ccT0, ccT1, Bool.or_false, ccMckT, ccMckIn, ne_eq, not_true_eq_false, not_false_eq_true, if_pos, if_neg, reduceIte, eq_self, Bool.false_eq_true, Bool.true_eq_false, mix_N, N_add, N_mul, N_sub, N_div, ccMod, N_lt, N_le, N_eq, ccNm, ccMN, ccNm2, ccM2N, ccMM2, ccM2M, ccMlt, ccMle, ccNltM, ccNleM, ccM2lt, ccM2le, ccNlt2, ccNle2, Nat.reduceAdd, Nat.reduceMul, Nat.reduceSub, Nat.reduceLT, Nat.reduceLeDiff, Nat.reduceEqDiff, Nat.reduceDiv, Nat.reduceMod]
      exact e₂
    · rw [g₃, if_neg (by decide), Nat.add_zero] at e₂
      simp (disch := omega) only [hB, g₂, true_and, and_true, false_and, and_false, if_true, if_false, ccIte, ccBi, ccBiX, ccBv, ccBvX, ccZ0, ccZ1, ccTZ, ccT0, ccT1, Bool.or_false, ccMckT, ccMckIn, ne_eq, not_true_eq_false, not_false_eq_true, if_pos, if_neg, reduceIte, eq_self, Bool.false_eq_true, Bool.true_eq_false, mix_N, N_add, N_mul, N_sub, N_div, ccMod, N_lt, N_le, N_eq, ccNm, ccMN, ccNm2, ccM2N, ccMM2, ccM2M, ccMlt, ccMle, ccNltM, ccNleM, ccM2lt, ccM2le, ccNlt2, ccNle2, Nat.reduceAdd, Nat.reduceMul, Nat.reduceSub, Nat.reduceLT, Nat.reduceLeDiff, Nat.reduceEqDiff, Nat.reduceDiv, Nat.reduceMod]
      exact e₂
theorem kwE176 {B w l n lm dp cl bd : Nat} {m : mMi} {rs : mRs} {C : Nat → Nat → Int32} (hB : rs.2.1.1 B = true) (s : kwS m B w l n lm dp cl bd) (q : kwK ccX0 n m B C) : H176 B m rs = rI (N (ccCnt (ccHeld C) n)) m rs := by
  have b₅ : n ≤ 40 := s.2.2.2.2.2.2.2.2.2.2.2.1
  obtain ⟨g, hg⟩ := ccFU (k := n) (by omega)
  have e₁ := kwL176 hB s q n 0 g (by omega)
  unfold H176
  rw [hB, ccMckT, hg]
  exact e₁
/-- the e-th of those from p on, of d, where f holds -/
def kwNth (f : Nat → Bool) : Nat → Nat → Nat → Int32
  | 0, _, _ => I (-1)
  | d + 1, 0, p => if f p = true then N p else kwNth f d 0 (p + 1)
  | d + 1, e + 1, p => if f p = true then kwNth f d e (p + 1) else kwNth f d (e + 1) (p + 1)
theorem kwNth_is {f : Nat → Bool} : ∀ d e p, kwNth f d e p = I (-1) ∨ ∃ q, kwNth f d e p = N q ∧ p ≤ q ∧ q < p + d ∧ f q = true := by
  intro d
  induction d with
  | zero => intro e p; exact Or.inl rfl
  | succ d i₁ =>
    intro e p
    cases e with
    | zero =>
      show (if f p = true then N p else kwNth f d 0 (p + 1)) = I (-1) ∨ ∃ q, (if f p = true then N p else kwNth f d 0 (p + 1)) = N q ∧ _
      by_cases h₁ : f p = true
      · rw [if_pos h₁]
        exact Or.inr ⟨p, rfl, by omega, by omega, h₁⟩
      · rw [if_neg h₁]
        rcases i₁ 0 (p + 1) with h₂ | ⟨q, h₂, h₃, h₄, h₅⟩
        · exact Or.inl h₂
        · exact Or.inr ⟨q, h₂, by omega, by omega, h₅⟩
    | succ e =>
      show (if f p = true then kwNth f d e (p + 1) else kwNth f d (e + 1) (p + 1)) = I (-1) ∨ ∃ q, (if f p = true then kwNth f d e (p + 1) else kwNth f d (e + 1) (p + 1)) = N q ∧ _
      by_cases h₁ : f p = true
      · rw [if_pos h₁]
        rcases i₁ e (p + 1) with h₂ | ⟨q, h₂, h₃, h₄, h₅⟩
        · exact Or.inl h₂
        · exact Or.inr ⟨q, h₂, by omega, by omega, h₅⟩
      · rw [if_neg h₁]
        rcases i₁ (e + 1) (p + 1) with h₂ | ⟨q, h₂, h₃, h₄, h₅⟩
        · exact Or.inl h₂
        · exact Or.inr ⟨q, h₂, by omega, by omega, h₅⟩
/-- a second one stands behind a first -/
theorem kwNth_2 {f : Nat → Bool} {b : Nat} : ∀ d p, kwNth f d 1 p = N b → p + d < 1000 → b < 1000 → ∃ a, kwNth f d 0 p = N a ∧ p ≤ a ∧ a < b ∧ f a = true := by
  intro d
  induction d with
  | zero =>
    intro p h₁ _ h₂
    have h₃ : I (-1) = N b := h₁
    exact False.elim ((ccNm (by omega)).mp h₃.symm)
  | succ d i₁ =>
    intro p h₁ h₂ h₃
    have h₄ : (if f p = true then kwNth f d 0 (p + 1) else kwNth f d 1 (p + 1)) = N b := h₁
    show ∃ a, (if f p = true then N p else kwNth f d 0 (p + 1)) = N a ∧ _
    by_cases h₅ : f p = true
    · rw [if_pos h₅] at h₄ ⊢
      refine ⟨p, rfl, by omega, ?_, h₅⟩
      rcases kwNth_is (f := f) d 0 (p + 1) with h₆ | ⟨q, h₆, h₇, _, _⟩
      · rw [h₆] at h₄
        exact False.elim ((ccNm (by omega)).mp h₄.symm)
      · have h₈ : q = b := ccNinj (by rw [← h₆, h₄]) (by omega) (by omega)
        omega
    · rw [if_neg h₅] at h₄ ⊢
      obtain ⟨a, g₁, g₂, g₃, g₄⟩ := i₁ (p + 1) h₄ (by omega) h₃
      exact ⟨a, g₁, by omega, g₃, g₄⟩
theorem kwL180 {B w l n lm dp cl bd : Nat} {m : mMi} {rs : mRs} {C : Nat → Nat → Int32} {y : Int32} (hB : rs.2.1.1 B = true) (s : kwS m B w l n lm dp cl bd) (q : kwK ccX0 n m B C) : ∀ d p e f, p + d = n → e < 1000 → H180_4 B (f + d + 1) y (N e) (N p) m rs = rI (kwNth (ccHeld C) d e p) m rs := by
  obtain ⟨_, _, _, _, _, _, s₇, _, _, _, _, b₅, _⟩ := s
  intro d
  induction d with
  | zero =>
    intro p e f g₁ _
    have e₁ : p = n := by omega
    subst e₁
    rw [kwH180_4, s₇]
    simp (disch := omega) only [hB, true_and, and_true, false_and, and_false, if_true, if_false, ccIte, ccBi, ccBiX, ccBv, ccBvX, ccZ0, ccZ1, ccTZ, ccT0, ccT1, Bool.or_false, ccMckT, ccMckIn, ne_eq, not_true_eq_false, not_false_eq_true, if_pos, if_neg, reduceIte, eq_self, Bool.false_eq_true, Bool.true_eq_false, mix_N, N_add, N_mul, N_sub, N_div, ccMod, N_lt, N_le, N_eq, ccNm, ccMN, ccNm2, ccM2N, ccMM2, ccM2M, ccMlt, ccMle, ccNltM, ccNleM, ccM2lt, ccM2le, ccNlt2, ccNle2, Nat.reduceAdd, Nat.reduceMul, Nat.reduceSub, Nat.reduceLT, Nat.reduceLeDiff, Nat.reduceEqDiff, Nat.reduceDiv, Nat.reduceMod]
    rfl
  | succ d i₁ =>
    intro p e f g₁ g₀
    have e₁ : f + (d + 1) + 1 = f + d + 1 + 1 := by omega
    rw [e₁, kwH180_4, s₇]
    cases e with
    | zero =>
      show _ = rI (if ccHeld C p = true then N p else kwNth (ccHeld C) d 0 (p + 1)) m rs
      have e₂ := i₁ (p + 1) 0 f (by omega) (by omega)
      rcases kwHd q (by omega : p < n) with ⟨g₂, g₃, _⟩ | ⟨g₂, g₃, _⟩
      · rw [g₃, if_pos rfl]
        simp (disch := omega) only [hB, g₂, true_and, and_true, false_and, and_false, if_true, if_false, ccIte, ccBi, ccBiX, ccBv, ccBvX, ccZ0, ccZ1, ccTZ, ccT0, ccT1, Bool.or_false, ccMckT, ccMckIn, ne_eq, not_true_eq_false, not_false_eq_true, if_pos, if_neg, reduceIte, eq_self, Bool.false_eq_true, Bool.true_eq_false, mix_N, N_add, N_mul, N_sub, N_div, ccMod, N_lt, N_le, N_eq, ccNm, ccMN, ccNm2, ccM2N, ccMM2, ccM2M, ccMlt, ccMle, ccNltM, ccNleM, ccM2lt, ccM2le, ccNlt2, ccNle2, Nat.reduceAdd, Nat.reduceMul, Nat.reduceSub, Nat.reduceLT, Nat.reduceLeDiff, Nat.reduceEqDiff, Nat.reduceDiv, Nat.reduceMod]
      · rw [g₃, if_neg (by decide)]
        simp (disch := omega) only [hB, g₂, true_and, and_true, false_and, and_false, if_true, if_false, ccIte, ccBi, ccBiX, ccBv, ccBvX, ccZ0, ccZ1, ccTZ, ccT0, ccT1, Bool.or_false, ccMckT, ccMckIn, ne_eq, not_true_eq_false, not_false_eq_true, if_pos, if_neg, reduceIte, eq_self, Bool.false_eq_true, Bool.true_eq_false, mix_N, N_add, N_mul, N_sub, N_div, ccMod, N_lt, N_le, N_eq, ccNm, ccMN, ccNm2, ccM2N, ccMM2, ccM2M, ccMlt, ccMle, ccNltM, ccNleM, ccM2lt, ccM2le, ccNlt2, ccNle2, Nat.reduceAdd, Nat.reduceMul, Nat.reduceSub, Nat.reduceLT, Nat.reduceLeDiff, Nat.reduceEqDiff, Nat.reduceDiv, Nat.reduceMod]
        exact e₂
    | succ e =>
      show _ = rI (if ccHeld C p = true then kwNth (ccHeld C) d e (p + 1) else kwNth (ccHeld C) d (e + 1) (p + 1)) m rs
      have e₀ : N (e + 1) + I (-1) = N e := ccLv_dec (k := e + 1) (by omega)
      have e₉ : ¬ N (e + 1) = N 0 := by rw [N_eq (by omega) (by omega)]; omega
      rcases kwHd q (by omega : p < n) with ⟨g₂, g₃, _⟩ | ⟨g₂, g₃, _⟩
      · have e₂ := i₁ (p + 1) e f (by omega) (by omega)
        rw [g₃, if_pos rfl]
        simp (disch := omega) only [hB, g₂, e₀, e₉, true_and, and_true, false_and, and_false, if_true, if_false, ccIte, ccBi, ccBiX, ccBv, ccBvX, ccZ0, ccZ1, ccTZ, ccT0, ccT1, Bool.or_false, ccMckT, ccMckIn, ne_eq, not_true_eq_false, not_false_eq_true, if_pos, if_neg, reduceIte, eq_self, Bool.false_eq_true, Bool.true_eq_false, mix_N, N_add, N_mul, N_sub, N_div, ccMod, N_lt, N_le, N_eq, ccNm, ccMN, ccNm2, ccM2N, ccMM2, ccM2M, ccMlt, ccMle, ccNltM, ccNleM, ccM2lt, ccM2le, ccNlt2, ccNle2, Nat.reduceAdd, Nat.reduceMul, Nat.reduceSub, Nat.reduceLT, Nat.reduceLeDiff, Nat.reduceEqDiff, Nat.reduceDiv, Nat.reduceMod]
        exact e₂
      · have e₂ := i₁ (p + 1) (e + 1) f (by omega) (by omega)
        rw [g₃, if_neg (by decide)]
        simp (disch := omega) only [hB, g₂, true_and, and_true, false_and, and_false, if_true, if_false, ccIte, ccBi, ccBiX, ccBv, ccBvX, ccZ0, ccZ1, ccTZ, ccT0, ccT1, Bool.or_false, ccMckT, ccMckIn, ne_eq, not_true_eq_false, not_false_eq_true, if_pos, if_neg, reduceIte, eq_self, Bool.false_eq_true, Bool.true_eq_false, mix_N, N_add, N_mul, N_sub, N_div, ccMod, N_lt, N_le, N_eq, ccNm, ccMN, ccNm2, ccM2N, ccMM2, ccM2M, ccMlt, ccMle, ccNltM, ccNleM, ccM2lt, ccM2le, ccNlt2, ccNle2, Nat.reduceAdd, Nat.reduceMul, Nat.reduceSub, Nat.reduceLT, Nat.reduceLeDiff, Nat.reduceEqDiff, Nat.reduceDiv, Nat.reduceMod]
        exact e₂
theorem kwE180 {B w l n lm dp cl bd e : Nat} {m : mMi} {rs : mRs} {C : Nat → Nat → Int32} (hB : rs.2.1.1 B = true) (s : kwS m B w l n lm dp cl bd) (q : kwK ccX0 n m B C) (h₁ : e < 1000) : H180 B (N e) m rs = rI (kwNth (ccHeld C) n e 0) m rs := by
  have b₅ : n ≤ 40 := s.2.2.2.2.2.2.2.2.2.2.2.1
  obtain ⟨g, hg⟩ := ccFU (k := n) (by omega)
  unfold H180
  rw [hB, ccMckT, hg]
  exact kwL180 hB s q n 0 e g (by omega) h₁
