/-! A TREMOR, on both sides. -/
def ccShk (f dm a : Int32) (L c : Nat) : Int32 := (f - dm * (if 0 ≤ (N (2 * c + L) - N 2 * a) then (N (2 * c + L) - N 2 * a) else 0 - (N (2 * c + L) - N 2 * a))) * N (L + 1)
/-- how much the wobble of a pair grows -/
def ccWob (f dm a : Int32) (C : Nat → Nat → Int32) (p : Nat) : Int32 := if ccShk f dm a (p / 12) (p % 12) ≤ N 0 then N 0 else ccShk f dm a (p / 12) (p % 12) / ccStf C p
theorem ccStf_pos {X : Nat → Bool} {n h t p : Nat} {β wt : Nat → Int32} {C : Nat → Nat → Int32} {s : Nat → Int32} (h₁ : ccR X n β wt h t C s) (h₂ : n ≤ 40) (h₃ : p < 96) (h₄ : C 2 p ≠ I (-1)) : ∃ z, ccStf C p = N z ∧ 2 ≤ z ∧ z ≤ 18 := by
  obtain ⟨a, b, e₁, e₂, _, e₃, e₄, _⟩ := h₁.2.1.1 p h₃ h₄
  obtain ⟨x, f₁, _, f₂, f₃⟩ := ccR_a h₁ e₁
  obtain ⟨y, g₁, _, g₂, g₃⟩ := ccR_a h₁ e₂
  refine ⟨x + y, ?_, by omega, by omega⟩
  unfold ccStf
  rw [e₃, e₄, mix_N (by omega), mix_N (by omega), f₁, g₁, N_add]
theorem ccE36 {m : mMi} {rs : mRs} {i n p z : Nat} {x1 x2 : Int32} {C : Nat → Nat → Int32} (h₀ : m 0 i = C) (h₁ : ccCd n C) (h₂ : n ≤ 40) (h₃ : p < 96) (h₄ : C 2 p ≠ I (-1)) (h₅ : ccStf C p = N z) (h₆ : 2 ≤ z) (h₇ : z ≤ 18) : F36 i x1 x2 (N p) m rs = rI (ccWob x1 (m 1 (RO i) 1 3) x2 C p) m rs := by
  have e₂ : (!(decide (N z = 0))) = true := by
    have e₃ : (0 : Int32) = N 0 := rfl
    rw [e₃]
    have e₄ : ¬ N z = N 0 := by rw [N_eq (by omega) (by omega)]; omega
    rw [decide_eq_false e₄]
    rfl
  by_cases g₁ : ccShk x1 (m 1 (RO i) 1 3) x2 (p / 12) (p % 12) ≤ N 0
  · have g₂ := g₁
    unfold ccShk at g₂
    unfold ccWob
    rw [if_pos g₁]
    unfold F36
    simp (disch := omega) only [ccE111, ccE112, ccE25 h₀ h₁ h₂ h₃ h₄, h₅, ccBi, ccIte, N_add, N_mul, if_pos g₂]
  · have g₂ := g₁
    unfold ccWob
    rw [if_neg g₁, h₅]
    unfold ccShk at g₂ ⊢
    unfold F36
    simp (disch := omega) only [ccE111, ccE112, ccE25 h₀ h₁ h₂ h₃ h₄, h₅, ccBi, ccIte, N_add, N_mul, N_le, if_neg g₂, if_neg, e₂, ccMckT]
/-- the castle behind the shaking, ahead of the falls: places below b -/
def ccShaken (C D : Nat → Nat → Int32) (g : Nat → Int32) (b : Nat) : Prop := (∀ j p, j ≠ 5 → ¬ (j = 0 ∧ p = 6) → D j p = C j p) ∧ D 0 6 = C 0 6 + N 1 ∧ (∀ p, p < 96 → D 5 p = if p < b ∧ ccP C p = true then C 5 p + g p else C 5 p)
theorem ccL35a {i n : Nat} {x1 x2 x3 : Int32} {X : Nat → Bool} {β wt : Nat → Int32} {h t : Nat} {C : Nat → Nat → Int32} {s : Nat → Int32} {m₀ : mMi} (q₁ : ccR X n β wt h t C s) (b₃ : n ≤ 40) : ∀ d p m, p + d = 96 → ccFr i m₀ m → ccShaken C (m 0 i) (ccWob x1 (m₀ 1 (RO i) 1 3) x2 C) p →
    ∃ m₁, (∀ f rs, F35_21 i (f + d + 1) x1 x2 x3 (N p) m rs = F35_70 i FU x1 x2 x3 (N 0) m₁ rs) ∧ ccFr i m₀ m₁ ∧ ccShaken C (m₁ 0 i) (ccWob x1 (m₀ 1 (RO i) 1 3) x2 C) 96 := by
  intro d
  induction d with
  | zero =>
    intro p m g₁ g₂ g₃
    have e₁ : p = 96 := by omega
    subst e₁
    refine ⟨m, fun f rs => ?_, g₂, g₃⟩
    rw [ccL35_21]
    simp (disch := omega) only [true_and, and_true, false_and, and_false, if_true, if_false, ccIte, ccBi, ccBiX, ccBv, ccBvX, ccZ0, ccZ1, ccTZ, ccT0, ccT1, Bool.or_false, ccMckT, ccMckIn, ne_eq, not_true_eq_false, not_false_eq_true, if_pos, if_neg, reduceIte, eq_self, Bool.false_eq_true, Bool.true_eq_false, mix_N, N_add, N_mul, N_sub, N_div, ccMod, N_lt, N_le, N_eq, ccNm, ccMN, ccNm2, ccM2N, ccMM2, ccM2M, ccMlt, ccMle, ccNltM, ccNleM, ccM2lt, ccM2le, ccNlt2, ccNle2, Nat.reduceAdd, Nat.reduceMul, Nat.reduceSub, Nat.reduceLT, Nat.reduceLeDiff, Nat.reduceEqDiff, Nat.reduceDiv, Nat.reduceMod]
  | succ d i₁ =>
    intro p m g₁ g₂ g₃
    have p₁ : p < 96 := by omega
    have e₀ : ∀ f, f + (d + 1) + 1 = f + d + 1 + 1 := fun f => by omega
    have cd : ccCd n (m 0 i) := by
      have c₁ := ccCd_of q₁.2.1
      refine ⟨fun x y₁ y₂ => ?_, fun x y₁ y₂ => ?_⟩
      · rw [g₃.1 2 x (by omega) (by omega), g₃.1 3 x (by omega) (by omega)] at *
        exact c₁.1 x y₁ y₂
      · rw [g₃.1 6 x (by omega) (by omega)] at *
        exact c₁.2 x y₁ y₂
    have e₁ : ccP (m 0 i) p = ccP C p := by unfold ccP; rw [g₃.1 2 p (by omega) (by omega)]
    cases g₄ : ccP C p
    · obtain ⟨m₁, a₁, a₂, a₃⟩ := i₁ (p + 1) m (by omega) g₂ ⟨g₃.1, g₃.2.1, fun x y₁ => by
        rw [g₃.2.2 x y₁]
        by_cases y₂ : x = p
        · subst y₂
          rw [if_neg (by omega), if_neg (fun y₃ => by rw [g₄] at y₃; cases y₃.2)]
        · by_cases y₃ : x < p ∧ ccP C x = true
          · rw [if_pos y₃, if_pos ⟨by omega, y₃.2⟩]
          · rw [if_neg y₃, if_neg (fun y₄ => y₃ ⟨by omega, y₄.2⟩)]⟩
      refine ⟨m₁, fun f rs => ?_, a₂, a₃⟩
      rw [e₀, ccL35_21]
      simp (disch := omega) only [ccE51, e₁, g₄, true_and, and_true, false_and, and_false, if_true, if_false, ccIte, ccBi, ccBiX, ccBv, ccBvX, ccZ0, ccZ1, ccTZ, ccT0, ccT1, Bool.or_false, ccMckT, ccMckIn, ne_eq, not_true_eq_false, not_false_eq_true, if_pos, if_neg, reduceIte, eq_self, Bool.false_eq_true, Bool.true_eq_false, mix_N, N_add, N_mul, N_sub, N_div, ccMod, N_lt, N_le, N_eq, ccNm, ccMN, ccNm2, ccM2N, ccMM2, ccM2M, ccMlt, ccMle, ccNltM, ccNleM, ccM2lt, ccM2le, ccNlt2, ccNle2, Nat.reduceAdd, Nat.reduceMul, Nat.reduceSub, Nat.reduceLT, Nat.reduceLeDiff, Nat.reduceEqDiff, Nat.reduceDiv, Nat.reduceMod]
      exact a₁ f rs
    · have g₅ : C 2 p ≠ I (-1) := by
        unfold ccP at g₄
        simpa only [Bool.not_eq_true', decide_eq_false_iff_not] using g₄
      obtain ⟨z, y₁, y₂, y₃⟩ := ccStf_pos q₁ b₃ p₁ g₅
      have y₄ : ccStf (m 0 i) p = N z := by
        rw [← y₁]
        unfold ccStf
        rw [g₃.1 2 p (by omega) (by omega), g₃.1 3 p (by omega) (by omega), g₃.1 11 _ (by omega) (by omega), g₃.1 11 _ (by omega) (by omega)]
      have y₅ : ∀ rs, F36 i x1 x2 (N p) m rs = rI (ccWob x1 (m₀ 1 (RO i) 1 3) x2 C p) m rs := fun rs => by
        rw [ccE36 rfl cd b₃ p₁ (by rw [g₃.1 2 p (by omega) (by omega)]; exact g₅) y₄ y₂ y₃, g₂ 1 (RO i) 1 3 (by omega) (by omega)]
        unfold ccWob
        rw [y₄, y₁]
      have y₆ : m 0 i 5 p = C 5 p := by rw [g₃.2.2 p p₁, if_neg (by omega)]
      obtain ⟨m₁, a₁, a₂, a₃⟩ := i₁ (p + 1) (mset m 0 i 5 p (C 5 p + ccWob x1 (m₀ 1 (RO i) 1 3) x2 C p)) (by omega) (ccFr_set g₂) ⟨fun j x y₇ y₈ => by
        rw [ccRd, if_neg (by omega)]
        exact g₃.1 j x y₇ y₈, by
        rw [ccRd, if_neg (by omega)]
        exact g₃.2.1, fun x y₇ => by
        rw [ccRd]
        by_cases y₈ : x = p
        · subst y₈
          rw [if_pos ⟨rfl, rfl, rfl, rfl⟩, if_pos ⟨by omega, g₄⟩]
        · rw [if_neg (fun y₉ => y₈ y₉.2.2.2), g₃.2.2 x y₇]
          by_cases y₃ : x < p ∧ ccP C x = true
          · rw [if_pos y₃, if_pos ⟨by omega, y₃.2⟩]
          · rw [if_neg y₃, if_neg (fun y₄ => y₃ ⟨by omega, y₄.2⟩)]⟩
      refine ⟨m₁, fun f rs => ?_, a₂, a₃⟩
      rw [e₀, ccL35_21]
      simp (disch := omega) only [ccE51, e₁, g₄, y₅, y₆, true_and, and_true, false_and, and_false, if_true, if_false, ccIte, ccBi, ccBiX, ccBv, ccBvX, ccZ0, ccZ1, ccTZ, ccT0, ccT1, Bool.or_false, ccMckT, ccMckIn, ne_eq, not_true_eq_false, not_false_eq_true, if_pos, if_neg, reduceIte, eq_self, Bool.false_eq_true, Bool.true_eq_false, mix_N, N_add, N_mul, N_sub, N_div, ccMod, N_lt, N_le, N_eq, ccNm, ccMN, ccNm2, ccM2N, ccMM2, ccM2M, ccMlt, ccMle, ccNltM, ccNleM, ccM2lt, ccM2le, ccNlt2, ccNle2, Nat.reduceAdd, Nat.reduceMul, Nat.reduceSub, Nat.reduceLT, Nat.reduceLeDiff, Nat.reduceEqDiff, Nat.reduceDiv, Nat.reduceMod]
      exact a₁ f rs
/-- the row behind the shaking: places below b -/
def ccShakm (s u : Nat → Int32) (C : Nat → Nat → Int32) (g : Nat → Int32) (b : Nat) : Prop := (∀ q, q ≠ 6 → (∀ p, p < 96 → q ≠ 251 + 4 * p) → u q = s q) ∧ u 6 = s 6 + N 1 ∧ (∀ p, p < 96 → ccP C p = true → u (251 + 4 * p) = if p < b then C 5 p + g p else C 5 p)
theorem ccE270 {m : mMi} {w l n L c z : Nat} {W : Nat → Nat} {x1 x2 : Int32} {C : Nat → Nat → Int32} {v : Int32} (h₁ : 12 * L + c < 96) (h₂ : c < 12) (h₃ : ∀ rs, F220 (N (12 * L + c)) m rs = rI (ccStf C (12 * L + c)) m rs) (h₅ : ccStf C (12 * L + c) = N z) (h₆ : 2 ≤ z) (h₇ : z ≤ 18) (h₈ : m 4 0 3 (251 + 4 * (12 * L + c)) = v) :
    ∃ m₁, (∀ rs, F270 (N L) (N c) x1 x2 m rs = rV m₁ rs) ∧ ccFq m m₁ ∧ (∀ q, q ≠ 251 + 4 * (12 * L + c) → m₁ 4 0 3 q = m 4 0 3 q) ∧ m₁ 4 0 3 (251 + 4 * (12 * L + c)) = v + ccWob x1 (m 4 0 0 5) x2 C (12 * L + c) := by
  have e₂ : (!(decide (N z = 0))) = true := by
    have e₃ : (0 : Int32) = N 0 := rfl
    rw [e₃]
    have e₄ : ¬ N z = N 0 := by rw [N_eq (by omega) (by omega)]; omega
    rw [decide_eq_false e₄]
    rfl
  have b₅ : (12 * L + c) / 12 = L := by omega
  have b₆ : (12 * L + c) % 12 = c := by omega
  by_cases g₁ : ccShk x1 (m 4 0 0 5) x2 L c ≤ N 0
  · refine ⟨m, fun rs => ?_, ccFq_rfl, fun q _ => rfl, ?_⟩
    · have g₂ := g₁
      unfold ccShk at g₂
      unfold F270
      simp (disch := omega) only [ccE200, ccBi, ccIte, N_add, N_mul, if_pos g₂]
    · unfold ccWob
      rw [b₅, b₆, if_pos g₁, h₈]
      have e₃ : N 0 = 0 := rfl
      rw [e₃]
      grind
  · refine ⟨mset m 4 0 3 (251 + 4 * (12 * L + c)) (v + ccShk x1 (m 4 0 0 5) x2 L c / N z), fun rs => ?_, ccFq_set ccFq_rfl (by omega), fun q y₁ => ?_, ?_⟩
    · have g₂ := g₁
      unfold ccShk at g₂ ⊢
      unfold F270
      simp (disch := omega) only [ccE200, ccBi, ccBv, ccIte, N_add, N_mul, if_neg g₂, ccE201d, h₃, h₅, h₈, e₂, ccMckT, ccE206d]
    · rw [ccRd, if_neg (by omega)]
    · unfold ccWob
      rw [ccRd, if_pos ⟨rfl, rfl, rfl, rfl⟩, b₅, b₆, if_neg g₁, h₅]
