/-! WORLD against a castle of the class: the tie, and the small changes. -/
def kwS (m : mMi) (B w l n lm dp cl bd : Nat) : Prop := m 6 B 1 0 = N w ∧ m 6 B 1 1 = N l ∧ m 6 B 1 2 = N lm ∧ m 6 B 1 3 = N dp ∧ m 6 B 1 4 = N cl ∧ m 6 B 1 5 = N bd ∧ m 6 B 0 17 = N n ∧ 2 ≤ w ∧ w ≤ 12 ∧ 1 ≤ l ∧ l ≤ 8 ∧ n ≤ 40 ∧ lm ≤ 99 ∧ dp ≤ 9 ∧ cl ≤ 20 ∧ bd ≤ 8
/-- the grid -/
def kwG (m : mMi) (B : Nat) (C : Nat → Nat → Int32) : Prop := ∀ L c, L < 8 → c < 12 → m 20 B L c = C 2 (12 * L + c) ∧ m 24 B L c = C 6 (12 * L + c) ∧ (C 2 (12 * L + c) ≠ I (-1) → m 21 B L c = C 3 (12 * L + c) ∧ m 22 B L c = C 4 (12 * L + c) ∧ m 23 B L c = C 5 (12 * L + c))
/-- where a card is -/
def kwL (m : mMi) (B : Nat) (C : Nat → Nat → Int32) (k : Nat) : Prop := (m 6 B 4 k = N 0 ∧ C 13 k = I (-1)) ∨ (m 6 B 4 k = N 1 ∧ C 13 k = I (-2)) ∨ ∃ L c, L < 8 ∧ c < 12 ∧ C 13 k = N (12 * L + c) ∧ m 6 B 5 k = N L ∧ m 6 B 6 k = N c ∧ ((m 6 B 4 k = N 2 ∧ C 2 (12 * L + c) ≠ I (-1) ∧ (C 2 (12 * L + c) = N k ∨ C 3 (12 * L + c) = N k)) ∨ (m 6 B 4 k = N 3 ∧ C 6 (12 * L + c) = N k))
def kwK (X : Nat → Bool) (n : Nat) (m : mMi) (B : Nat) (C : Nat → Nat → Int32) : Prop := ∀ k, k < n → m 6 B 2 k = C 11 k ∧ (X k = true ∨ kwL m B C k)
def kwF (m : mMi) (B : Nat) (C : Nat → Nat → Int32) : Prop := m 6 B 0 20 = C 7 2 ∧ ∃ a h, m 6 B 0 18 = N a ∧ C 10 5 = N h ∧ a ≤ h ∧ h ≤ 40
/-- what a World of its own knows besides: the log, the heap, how cards were bent, the time -/
def kwX (n t : Nat) (β : Nat → Int32) (m : mMi) (B : Nat) (C : Nat → Nat → Int32) : Prop := (∀ u e, u < 30 → u < t → e < 5 → m 25 B u e = C 8 (u * 5 + e)) ∧ (∀ u, u < 4 → m 6 B 16 u = C 9 u) ∧ (m 6 B 0 18 = C 10 5 ∧ ∀ h, C 10 5 = N h → h ≤ 40 → ∀ u, u < h → m 6 B 9 u = C 14 u) ∧ (∀ k, k < n → m 6 B 7 k = C 12 k ∧ ∃ z y, C 11 k = N z ∧ m 6 B 8 k = N y ∧ β k = N (z + y) ∧ 1 ≤ z ∧ z + y ≤ 9) ∧ m 6 B 0 19 = C 0 5 ∧ m 6 B 0 21 = C 0 6
/-- what may change of a World -/
def kwFr (B : Nat) (m m₁ : mMi) : Prop := ∀ f a j p, ¬ (f = 6 ∧ a = B) → ¬ (20 ≤ f ∧ f ≤ 25 ∧ a = B) → m₁ f a j p = m f a j p
theorem kwFr_rfl {B : Nat} {m : mMi} : kwFr B m m := fun _ _ _ _ _ _ => rfl
theorem kwFr_trans {B : Nat} {m m₁ m₂ : mMi} (h₁ : kwFr B m m₁) (h₂ : kwFr B m₁ m₂) : kwFr B m m₂ := fun f a j p g₁ g₂ => Eq.trans (h₂ f a j p g₁ g₂) (h₁ f a j p g₁ g₂)
theorem kwFr_6 {B j p : Nat} {v : Int32} {m m₁ : mMi} (h₁ : kwFr B m m₁) : kwFr B m (mset m₁ 6 B j p v) := fun f a j₁ p₁ g₁ g₂ => by
  rw [ccRd, if_neg (by omega)]
  exact h₁ f a j₁ p₁ g₁ g₂
theorem kwFr_r {B f₁ j p : Nat} {v : Int32} {m m₁ : mMi} (h₁ : kwFr B m m₁) (h₂ : 20 ≤ f₁ ∧ f₁ ≤ 25) : kwFr B m (mset m₁ f₁ B j p v) := fun f a j₁ p₁ g₁ g₂ => by
  rw [ccRd, if_neg (by omega)]
  exact h₁ f a j₁ p₁ g₁ g₂
/-- settings and weights stay -/
def kwSt (B : Nat) (m m₁ : mMi) : Prop := ∀ j p, (j = 1 ∨ j = 3 ∨ (j = 0 ∧ (p = 17 ∨ p = 19))) → m₁ 6 B j p = m 6 B j p
theorem kwSt_rfl {B : Nat} {m : mMi} : kwSt B m m := fun _ _ _ => rfl
theorem kwSt_trans {B : Nat} {m m₁ m₂ : mMi} (h₁ : kwSt B m m₁) (h₂ : kwSt B m₁ m₂) : kwSt B m m₂ := fun j p g₁ => Eq.trans (h₂ j p g₁) (h₁ j p g₁)
theorem kwSt_6 {B j p : Nat} {v : Int32} {m m₁ : mMi} (h₁ : kwSt B m m₁) (h₂ : ¬ (j = 1 ∨ j = 3 ∨ (j = 0 ∧ (p = 17 ∨ p = 19)))) : kwSt B m (mset m₁ 6 B j p v) := fun j₁ p₁ g₁ => by
  rw [ccRd, if_neg (by omega)]
  exact h₁ j₁ p₁ g₁
theorem kwSt_r {B f₁ j p : Nat} {v : Int32} {m m₁ : mMi} (h₁ : kwSt B m m₁) (h₂ : 20 ≤ f₁) : kwSt B m (mset m₁ f₁ B j p v) := fun j₁ p₁ g₁ => by
  rw [ccRd, if_neg (by omega)]
  exact h₁ j₁ p₁ g₁
def kwSw (B : Nat) (m m₁ : mMi) : Prop := ∀ j p, (j = 1 ∨ j = 3 ∨ (j = 0 ∧ p = 17)) → m₁ 6 B j p = m 6 B j p
theorem kwSw_trans {B : Nat} {m m₁ m₂ : mMi} (h₁ : kwSw B m m₁) (h₂ : kwSw B m₁ m₂) : kwSw B m m₂ := fun j p g₁ => Eq.trans (h₂ j p g₁) (h₁ j p g₁)
theorem kwSt_w {B : Nat} {m m₁ : mMi} (h₁ : kwSt B m m₁) : kwSw B m m₁ := fun j p g₁ => h₁ j p (by omega)
theorem kwS_sw {B w l n lm dp cl bd : Nat} {m m₁ : mMi} (h₁ : kwSw B m m₁) (h₂ : kwS m B w l n lm dp cl bd) : kwS m₁ B w l n lm dp cl bd := by
  obtain ⟨a₁, a₂, a₃, a₄, a₅, a₆, a₇, a₈⟩ := h₂
  exact ⟨by rw [h₁ 1 0 (by omega)]; exact a₁, by rw [h₁ 1 1 (by omega)]; exact a₂, by rw [h₁ 1 2 (by omega)]; exact a₃, by rw [h₁ 1 3 (by omega)]; exact a₄, by rw [h₁ 1 4 (by omega)]; exact a₅, by rw [h₁ 1 5 (by omega)]; exact a₆, by rw [h₁ 0 17 (by omega)]; exact a₇, a₈⟩
theorem kwS_st {B w l n lm dp cl bd : Nat} {m m₁ : mMi} (h₁ : kwSt B m m₁) (h₂ : kwS m B w l n lm dp cl bd) : kwS m₁ B w l n lm dp cl bd := kwS_sw (kwSt_w h₁) h₂
/-! a fall is noted -/
def kwNote (m : mMi) (B t L c kd cs : Nat) : mMi := mset (mset (mset (mset (mset (mset (mset m 25 B (t % 30) 0 (m 6 B 0 19)) 25 B (t % 30) 1 (N L)) 25 B (t % 30) 2 (N c)) 25 B (t % 30) 3 (N kd)) 25 B (t % 30) 4 (N cs)) 6 B 0 20 (N (t + 1))) 6 B 16 cs (m 6 B 16 cs + N 1)
theorem kwE192 {m : mMi} {rs : mRs} {B t L c kd cs : Nat} (hB : rs.2.1.1 B = true) (h₁ : m 6 B 0 20 = N t) (h₂ : t < 1000000000) (h₃ : cs < 4) : H192 B (N L) (N c) (N kd) (N cs) m rs = rV (kwNote m B t L c kd cs) rs := by
  have b₁ : t % 30 < 30 := by omega
  unfold H192 kwNote
  rw [h₁]
  simp (disch := omega) only [hB, true_and, and_true, false_and, and_false, if_true, if_false, ccIte, ccBi, ccBiX, ccBv, ccBvX, ccZ0, ccZ1, ccTZ, ccT0, ccT1, Bool.or_false, ccMckT, ccMckIn, ne_eq, not_true_eq_false, not_false_eq_true, if_pos, if_neg, reduceIte, eq_self, Bool.false_eq_true, Bool.true_eq_false, mix_N, N_add, N_mul, N_sub, N_div, ccMod, N_lt, N_le, N_eq, ccNm, ccMN, ccNm2, ccM2N, ccMM2, ccM2M, ccMlt, ccMle, ccNltM, ccNleM, ccM2lt, ccM2le, ccNlt2, ccNle2, Nat.reduceAdd, Nat.reduceMul, Nat.reduceSub, Nat.reduceLT, Nat.reduceLeDiff, Nat.reduceEqDiff, Nat.reduceDiv, Nat.reduceMod, ccRd, h₁]
theorem kwNote_fr {m : mMi} {B t L c kd cs : Nat} : kwFr B m (kwNote m B t L c kd cs) := kwFr_6 (kwFr_6 (kwFr_r (kwFr_r (kwFr_r (kwFr_r (kwFr_r kwFr_rfl (by omega)) (by omega)) (by omega)) (by omega)) (by omega)))
theorem kwNote_st {m : mMi} {B t L c kd cs : Nat} : kwSt B m (kwNote m B t L c kd cs) := kwSt_6 (kwSt_6 (kwSt_r (kwSt_r (kwSt_r (kwSt_r (kwSt_r kwSt_rfl (by omega)) (by omega)) (by omega)) (by omega)) (by omega)) (by omega)) (by omega)
theorem kwNote_o {m : mMi} {B t L c kd cs f j p : Nat} (h₁ : f ≠ 25) (h₂ : ¬ (f = 6 ∧ (j = 0 ∧ p = 20 ∨ j = 16))) : kwNote m B t L c kd cs f B j p = m f B j p := by
  unfold kwNote
  rw [ccRd, if_neg (by omega), ccRd, if_neg (by omega), ccRd, if_neg (by omega), ccRd, if_neg (by omega), ccRd, if_neg (by omega), ccRd, if_neg (by omega), ccRd, if_neg (by omega)]
theorem ccKn_o {C : Nat → Nat → Int32} {t L c kd cs j p : Nat} (h₁ : j ≠ 7) (h₂ : j ≠ 8) (h₃ : j ≠ 9) : ccKn C t L c kd cs j p = C j p := by
  unfold ccKn ccU
  rw [if_neg (by omega), if_neg (by omega), if_neg (by omega), if_neg (by omega), if_neg (by omega), if_neg (by omega), if_neg (by omega)]
theorem kwG_n {m : mMi} {B t L c kd cs : Nat} {C : Nat → Nat → Int32} (h₁ : kwG m B C) : kwG (kwNote m B t L c kd cs) B (ccKn C t L c kd cs) := fun L₁ c₁ g₁ g₂ => by
  rw [kwNote_o (by omega) (by omega), kwNote_o (by omega) (by omega), kwNote_o (by omega) (by omega), kwNote_o (by omega) (by omega), kwNote_o (by omega) (by omega), ccKn_o (by omega) (by omega) (by omega), ccKn_o (by omega) (by omega) (by omega), ccKn_o (by omega) (by omega) (by omega), ccKn_o (by omega) (by omega) (by omega), ccKn_o (by omega) (by omega) (by omega)]
  exact h₁ L₁ c₁ g₁ g₂
theorem kwK_n {m : mMi} {B n t L c kd cs : Nat} {X : Nat → Bool} {C : Nat → Nat → Int32} (h₁ : kwK X n m B C) : kwK X n (kwNote m B t L c kd cs) B (ccKn C t L c kd cs) := fun k g₁ => by
  obtain ⟨e₁, e₂⟩ := h₁ k g₁
  refine ⟨by rw [kwNote_o (by omega) (by omega), ccKn_o (by omega) (by omega) (by omega)]; exact e₁, ?_⟩
  rcases e₂ with e₂ | e₂
  · exact Or.inl e₂
  · refine Or.inr ?_
    unfold kwL at e₂ ⊢
    simp (disch := omega) only [kwNote_o, ccKn_o]
    exact e₂
theorem kwF_n {m : mMi} {B t L c kd cs : Nat} {C : Nat → Nat → Int32} (h₁ : kwF m B C) (h₂ : cs < 4) : kwF (kwNote m B t L c kd cs) B (ccKn C t L c kd cs) := by
  obtain ⟨e₁, a, h, e₂, e₃, e₄⟩ := h₁
  refine ⟨?_, a, h, by rw [kwNote_o (by omega) (by omega)]; exact e₂, by rw [ccKn_o (by omega) (by omega) (by omega)]; exact e₃, e₄⟩
  unfold kwNote ccKn ccU
  rw [ccRd, if_neg (by omega), ccRd, if_pos ⟨rfl, rfl, rfl, rfl⟩, if_pos ⟨rfl, rfl⟩]
theorem kwX_n {m : mMi} {B n t L c kd cs : Nat} {β : Nat → Int32} {C : Nat → Nat → Int32} (h₁ : kwX n t β m B C) (h₂ : cs < 4) : kwX n (t + 1) β (kwNote m B t L c kd cs) B (ccKn C t L c kd cs) := by
  obtain ⟨e₁, e₂, ⟨e₃, e₄⟩, e₅, e₆, e₇⟩ := h₁
  refine ⟨fun u e g₁ g₂ g₃ => ?_, fun u g₁ => ?_, ⟨?_, fun h g₁ g₂ u g₃ => ?_⟩, fun k g₁ => ?_, ?_, ?_⟩
  · by_cases h₃ : u = t % 30
    · subst h₃
      have h₄ : e = 0 ∨ e = 1 ∨ e = 2 ∨ e = 3 ∨ e = 4 := by omega
      unfold kwNote ccKn ccU
      rcases h₄ with h₄ | h₄ | h₄ | h₄ | h₄ <;> subst h₄ <;> simp (disch := omega) only [ccRd, if_neg, if_pos, Nat.reduceEqDiff, eq_self, true_and, and_true, false_and, and_false, if_true, if_false] <;> exact e₆
    · unfold kwNote ccKn ccU
      simp (disch := omega) only [ccRd, if_neg]
      exact e₁ u e g₁ (by omega) g₃
  · unfold kwNote ccKn ccU
    by_cases h₃ : u = cs
    · subst h₃
      simp (disch := omega) only [ccRd, if_neg, if_pos, Nat.reduceEqDiff, eq_self, true_and, and_true, false_and, and_false, if_true, if_false, e₂ u g₁]
    · simp (disch := omega) only [ccRd, if_neg]
      exact e₂ u g₁
  · rw [kwNote_o (by omega) (by omega), ccKn_o (by omega) (by omega) (by omega)]
    exact e₃
  · rw [ccKn_o (by omega) (by omega) (by omega)] at g₁ ⊢
    rw [kwNote_o (by omega) (by omega)]
    exact e₄ h g₁ g₂ u g₃
  · rw [kwNote_o (by omega) (by omega), kwNote_o (by omega) (by omega), ccKn_o (by omega) (by omega) (by omega), ccKn_o (by omega) (by omega) (by omega)]
    exact e₅ k g₁
  · rw [kwNote_o (by omega) (by omega), ccKn_o (by omega) (by omega) (by omega)]
    exact e₆
  · rw [kwNote_o (by omega) (by omega), ccKn_o (by omega) (by omega) (by omega)]
    exact e₇
/-! a pair, a flat card leaves the grid -/
theorem kwPl {L c L₁ c₁ : Nat} (h₁ : c < 12) (h₂ : c₁ < 12) : 12 * L₁ + c₁ = 12 * L + c ↔ L₁ = L ∧ c₁ = c := by omega
theorem kwG_p {m : mMi} {B L c : Nat} {C : Nat → Nat → Int32} (h₁ : kwG m B C) (h₂ : c < 12) : kwG (mset m 20 B L c (I (-1))) B (ccU C 2 (12 * L + c) (I (-1))) := fun L₁ c₁ g₁ g₂ => by
  obtain ⟨e₁, e₂, e₃⟩ := h₁ L₁ c₁ g₁ g₂
  unfold ccU
  by_cases h₃ : L₁ = L ∧ c₁ = c
  · obtain ⟨rfl, rfl⟩ := h₃
    simp (disch := omega) only [ccRd, if_neg, if_pos, Nat.reduceEqDiff, eq_self, true_and, and_true, false_and, and_false, if_true, if_false]
    exact ⟨e₂, fun q => absurd rfl q⟩
  · simp (disch := omega) only [ccRd, if_neg, Nat.reduceEqDiff, eq_self, true_and, and_true, false_and, and_false, if_true, if_false]
    exact ⟨e₁, e₂, e₃⟩
theorem kwG_f {m : mMi} {B L c : Nat} {C : Nat → Nat → Int32} (h₁ : kwG m B C) (h₂ : c < 12) : kwG (mset m 24 B L c (I (-1))) B (ccU C 6 (12 * L + c) (I (-1))) := fun L₁ c₁ g₁ g₂ => by
  obtain ⟨e₁, e₂, e₃⟩ := h₁ L₁ c₁ g₁ g₂
  unfold ccU
  by_cases h₃ : L₁ = L ∧ c₁ = c
  · obtain ⟨rfl, rfl⟩ := h₃
    simp (disch := omega) only [ccRd, if_neg, if_pos, Nat.reduceEqDiff, eq_self, true_and, and_true, false_and, and_false, if_true, if_false]
    exact ⟨e₁, e₃⟩
  · simp (disch := omega) only [ccRd, if_neg, Nat.reduceEqDiff, eq_self, true_and, and_true, false_and, and_false, if_true, if_false]
    exact ⟨e₁, e₂, e₃⟩
theorem kwK_p {m : mMi} {B n L c a b : Nat} {C : Nat → Nat → Int32} (h₁ : kwK ccX0 n m B C) (h₂ : c < 12) (h₃ : n ≤ 40) (h₄ : a < n) (h₅ : b < n) (h₆ : C 2 (12 * L + c) = N a) (h₇ : C 3 (12 * L + c) = N b) : kwK (ccX2 a b) n (mset m 20 B L c (I (-1))) B (ccU C 2 (12 * L + c) (I (-1))) := fun k g₁ => by
  obtain ⟨e₁, e₂⟩ := h₁ k g₁
  unfold ccU
  refine ⟨by simp (disch := omega) only [ccRd, if_neg]; exact e₁, ?_⟩
  rcases e₂ with e₂ | e₂
  · cases e₂
  · by_cases h₈ : k = a ∨ k = b
    · refine Or.inl ?_
      unfold ccX2
      rcases h₈ with h₈ | h₈
      · rw [h₈]; simp
      · rw [h₈]; simp
    · refine Or.inr ?_
      unfold kwL at e₂ ⊢
      simp (disch := omega) only [ccRd, if_neg]
      rcases e₂ with e₂ | e₂ | ⟨L₁, c₁, f₁, f₂, f₃, f₄, f₅, f₆⟩
      · exact Or.inl e₂
      · exact Or.inr (Or.inl e₂)
      · refine Or.inr (Or.inr ⟨L₁, c₁, f₁, f₂, f₃, f₄, f₅, ?_⟩)
        rcases f₆ with ⟨f₆, f₇, f₈⟩ | f₆
        · have h₉ : ¬ (L₁ = L ∧ c₁ = c) := fun q => by
            rw [q.1, q.2, h₆, h₇] at f₈
            rcases f₈ with f₈ | f₈
            · exact h₈ (Or.inl (ccNinj f₈ (by omega) (by omega)).symm)
            · exact h₈ (Or.inr (ccNinj f₈ (by omega) (by omega)).symm)
          refine Or.inl ⟨f₆, ?_⟩
          rw [if_neg (fun q => h₉ ((kwPl h₂ f₂).mp q.2))]
          exact ⟨f₇, f₈⟩
        · exact Or.inr f₆
theorem kwK_f {m : mMi} {B n L c a : Nat} {C : Nat → Nat → Int32} (h₁ : kwK ccX0 n m B C) (h₂ : c < 12) (h₃ : n ≤ 40) (h₄ : a < n) (h₆ : C 6 (12 * L + c) = N a) : kwK (ccX1 a) n (mset m 24 B L c (I (-1))) B (ccU C 6 (12 * L + c) (I (-1))) := fun k g₁ => by
  obtain ⟨e₁, e₂⟩ := h₁ k g₁
  unfold ccU
  refine ⟨by simp (disch := omega) only [ccRd, if_neg]; exact e₁, ?_⟩
  rcases e₂ with e₂ | e₂
  · cases e₂
  · by_cases h₈ : k = a
    · refine Or.inl ?_
      unfold ccX1
      rw [h₈]; simp
    · refine Or.inr ?_
      unfold kwL at e₂ ⊢
      simp (disch := omega) only [ccRd, if_neg]
      rcases e₂ with e₂ | e₂ | ⟨L₁, c₁, f₁, f₂, f₃, f₄, f₅, f₆⟩
      · exact Or.inl e₂
      · exact Or.inr (Or.inl e₂)
      · refine Or.inr (Or.inr ⟨L₁, c₁, f₁, f₂, f₃, f₄, f₅, ?_⟩)
        rcases f₆ with f₆ | ⟨f₆, f₇⟩
        · exact Or.inl f₆
        · have h₉ : ¬ (L₁ = L ∧ c₁ = c) := fun q => by
            rw [q.1, q.2, h₆] at f₇
            exact h₈ (ccNinj f₇ (by omega) (by omega)).symm
          refine Or.inr ⟨f₆, ?_⟩
          rw [if_neg (fun q => h₉ ((kwPl h₂ f₂).mp q.2))]
          exact f₇
theorem kwF_u {m : mMi} {B f L c p : Nat} {C : Nat → Nat → Int32} {v : Int32} {j : Nat} (h₁ : kwF m B C) (h₂ : 20 ≤ f) (h₃ : j = 2 ∨ j = 6) : kwF (mset m f B L c v) B (ccU C j p v) := by
  unfold kwF ccU at *
  simp (disch := omega) only [ccRd, if_neg]
  exact h₁
theorem kwX_u {m : mMi} {B n t f L c p : Nat} {β : Nat → Int32} {C : Nat → Nat → Int32} {v : Int32} {j : Nat} (h₁ : kwX n t β m B C) (h₂ : 20 ≤ f ∧ f ≤ 24) (h₃ : j = 2 ∨ j = 6) : kwX n t β (mset m f B L c v) B (ccU C j p v) := by
  unfold kwX ccU at *
  simp (disch := omega) only [ccRd, if_neg]
  exact h₁
