/-! A FALL as it is called. -/
theorem ccPow7 {d : Nat} (h₁ : d ≤ 8) : 4 ^ d ≤ 65536 := by
  have h₂ : d = 0 ∨ d = 1 ∨ d = 2 ∨ d = 3 ∨ d = 4 ∨ d = 5 ∨ d = 6 ∨ d = 7 ∨ d = 8 := by omega
  rcases h₂ with h₂ | h₂ | h₂ | h₂ | h₂ | h₂ | h₂ | h₂ | h₂ <;> subst h₂ <;> decide
/-- behind a fall, seen from outside -/
def ccBeh (mc mm m₁ m₂ : mMi) (i w l n bd : Nat) (β wt : Nat → Int32) (t : Nat) : Prop := (∃ u v, ccInv m₁ m₂ i w l n bd β wt u v ∧ ccG (mc 0 i) (m₁ 0 i) t v) ∧ ccFr i mc m₁ ∧ ccFq mm m₂ ∧ ccGv (mc 0 i) (m₁ 0 i)
theorem ccFallP {mc mm : mMi} {i w l n bd h t L c cs : Nat} {x : Int32} {β wt : Nat → Int32} (q₀ : ccInv mc mm i w l n bd β wt h t) (h₂ : L < l) (h₃ : L + c < w) (h₄ : mc 0 i 2 (12 * L + c) ≠ I (-1)) (h₅ : cs < 4) :
    ∃ m₁ m₂, (∀ rs, F26 i (N L) (N c) (N cs) x mc rs = rV m₁ rs) ∧ (∀ rs, F222 (N (12 * L + c)) (N 0) (N cs) x mm rs = rV m₂ rs) ∧ ccBeh mc mm m₁ m₂ i w l n bd β wt t ∧ m₁ 0 i 2 (12 * L + c) = I (-1) := by
  have b₁ : w ≤ 12 := q₀.1.2.2.2.2.1
  have b₂ : l ≤ 8 := q₀.1.2.2.2.2.2.2.1
  obtain ⟨m₃, hm₃⟩ : ∃ m, m = mset mm 4 0 0 34 (N 0) := ⟨_, rfl⟩
  have s₃ : m₃ 4 0 3 = mm 4 0 3 := by
    rw [hm₃]
    funext y₁
    simp (disch := omega) only [ccRd, if_neg, Nat.reduceEqDiff, eq_self, true_and, and_true, false_and, and_false, if_true, if_false]
  have d₃ : ccFq mm m₃ := by rw [hm₃]; exact ccFq_w ccFq_rfl
  have k₃ : m₃ 4 0 0 34 = N 0 := by rw [hm₃]; simp (disch := omega) only [ccRd, if_pos, Nat.reduceEqDiff, eq_self, true_and, and_true, false_and, and_false, if_true, if_false]
  have I₃ : ccInv mc m₃ i w l n bd β wt h t := by
    obtain ⟨q₁, q₂, q₃, q₄, q₅, q₆, q₇, q₈⟩ := q₀
    exact ⟨q₁, q₂, ccMo_fq d₃ q₃, by rw [d₃ 4 0 0 7 (by omega) (by omega)]; exact q₄, q₅, by rw [s₃]; exact q₆, q₇, q₈⟩
  obtain ⟨d, hd⟩ : ∃ d, L + (d + 1) = 8 := ⟨7 - L, by omega⟩
  obtain ⟨m₁, m₂, T, a₁, a₂, a₃, ⟨a₄, a₅, a₆, a₇, a₈, a₉⟩, a₀⟩ := ccBodyP (ccPops d).2 (cs := cs) (x := x) I₃ hd h₂ h₃ h₄ h₅ (by omega) k₃
  have e₁ : 4 ^ d ≤ 65536 := ccPow7 (by omega)
  have e₂ : 4 ^ d ≤ 16384 := by
    have h₆ : d = 0 ∨ d = 1 ∨ d = 2 ∨ d = 3 ∨ d = 4 ∨ d = 5 ∨ d = 6 ∨ d = 7 := by omega
    rcases h₆ with h₆ | h₆ | h₆ | h₆ | h₆ | h₆ | h₆ | h₆ <;> rw [h₆] <;> decide
  refine ⟨m₁, m₂, fun rs => ?_, fun rs => ?_, ⟨a₄, a₅, ccFq_trans d₃ a₆, a₉⟩, ?_⟩
  · unfold F26
    exact a₁ 20 rs (by omega)
  · obtain ⟨g, hg⟩ : ∃ g, FU = g + 1 + T := ⟨99999 - T, by unfold FU; omega⟩
    unfold F222
    rw [← hm₃, hg, a₂ (g + 1), ccF222, a₇]
    simp (disch := omega) only [true_and, and_true, false_and, and_false, if_true, if_false, ccIte, ccBi, ccBiX, ccBv, ccBvX, ccZ0, ccZ1, ccTZ, ccT0, ccT1, Bool.or_false, ccMckT, ccMckIn, ne_eq, not_true_eq_false, not_false_eq_true, if_pos, if_neg, reduceIte, eq_self, Bool.false_eq_true, Bool.true_eq_false, mix_N, N_add, N_mul, N_sub, N_div, ccMod, N_lt, N_le, N_eq, ccNm, ccMN, ccNm2, ccM2N, ccMM2, ccM2M, ccMlt, ccMle, ccNltM, ccNleM, ccM2lt, ccM2le, ccNlt2, ccNle2, Nat.reduceAdd, Nat.reduceMul, Nat.reduceSub, Nat.reduceLT, Nat.reduceLeDiff, Nat.reduceEqDiff, Nat.reduceDiv, Nat.reduceMod]
  · obtain ⟨u, v, a₄, _⟩ := a₄
    exact ccHP_no a₄.2.2.2.2.2.2.1 a₀ (by omega) (by omega)
theorem ccFallF {mc mm : mMi} {i w l n bd h t L c cs : Nat} {x : Int32} {β wt : Nat → Int32} (q₀ : ccInv mc mm i w l n bd β wt h t) (h₂ : L < l) (h₃ : L + c < w) (h₄ : mc 0 i 6 (12 * L + c) ≠ I (-1)) (h₅ : cs < 4) :
    ∃ m₁ m₂, (∀ rs, F28 i (N L) (N c) (N cs) x mc rs = rV m₁ rs) ∧ (∀ rs, F222 (N (12 * L + c)) (N 1) (N cs) x mm rs = rV m₂ rs) ∧ ccBeh mc mm m₁ m₂ i w l n bd β wt t := by
  have b₁ : w ≤ 12 := q₀.1.2.2.2.2.1
  have b₂ : l ≤ 8 := q₀.1.2.2.2.2.2.2.1
  obtain ⟨m₃, hm₃⟩ : ∃ m, m = mset mm 4 0 0 34 (N 0) := ⟨_, rfl⟩
  have s₃ : m₃ 4 0 3 = mm 4 0 3 := by
    rw [hm₃]
    funext y₁
    simp (disch := omega) only [ccRd, if_neg, Nat.reduceEqDiff, eq_self, true_and, and_true, false_and, and_false, if_true, if_false]
  have d₃ : ccFq mm m₃ := by rw [hm₃]; exact ccFq_w ccFq_rfl
  have k₃ : m₃ 4 0 0 34 = N 0 := by rw [hm₃]; simp (disch := omega) only [ccRd, if_pos, Nat.reduceEqDiff, eq_self, true_and, and_true, false_and, and_false, if_true, if_false]
  have I₃ : ccInv mc m₃ i w l n bd β wt h t := by
    obtain ⟨q₁, q₂, q₃, q₄, q₅, q₆, q₇, q₈⟩ := q₀
    exact ⟨q₁, q₂, ccMo_fq d₃ q₃, by rw [d₃ 4 0 0 7 (by omega) (by omega)]; exact q₄, q₅, by rw [s₃]; exact q₆, q₇, q₈⟩
  obtain ⟨d, hd⟩ : ∃ d, L + d = 8 := ⟨8 - L, by omega⟩
  obtain ⟨m₁, m₂, T, a₁, a₂, a₃, ⟨a₄, a₅, a₆, a₇, a₈, a₉⟩, a₀⟩ := ccBodyF (ccPops d).1 (cs := cs) (x := x) I₃ hd h₂ h₃ h₄ h₅ (by omega) k₃
  have e₁ : 4 ^ d ≤ 65536 := ccPow7 (by omega)
  refine ⟨m₁, m₂, fun rs => ?_, fun rs => ?_, ⟨a₄, a₅, ccFq_trans d₃ a₆, a₉⟩⟩
  · unfold F28
    exact a₁ 20 rs (by omega)
  · obtain ⟨g, hg⟩ : ∃ g, FU = g + 1 + T := ⟨99999 - T, by unfold FU; omega⟩
    unfold F222
    rw [← hm₃, hg, a₂ (g + 1), ccF222, a₇]
    simp (disch := omega) only [true_and, and_true, false_and, and_false, if_true, if_false, ccIte, ccBi, ccBiX, ccBv, ccBvX, ccZ0, ccZ1, ccTZ, ccT0, ccT1, Bool.or_false, ccMckT, ccMckIn, ne_eq, not_true_eq_false, not_false_eq_true, if_pos, if_neg, reduceIte, eq_self, Bool.false_eq_true, Bool.true_eq_false, mix_N, N_add, N_mul, N_sub, N_div, ccMod, N_lt, N_le, N_eq, ccNm, ccMN, ccNm2, ccM2N, ccMM2, ccM2M, ccMlt, ccMle, ccNltM, ccNleM, ccM2lt, ccM2le, ccNlt2, ccNle2, Nat.reduceAdd, Nat.reduceMul, Nat.reduceSub, Nat.reduceLT, Nat.reduceLeDiff, Nat.reduceEqDiff, Nat.reduceDiv, Nat.reduceMod]
/-! LOADS -/
def ccFL (W : Nat → Nat) (C : Nat → Nat → Int32) (w l : Nat) : Nat → Nat → Nat → Nat
  | 0, _, _ => 0
  | d + 1, L, c => if ccHF C w l L c = true then W (mix (C 6 (12 * L + c))) + (if ccHP C w l L c = true then W (mix (C 2 (12 * L + c))) + W (mix (C 3 (12 * L + c))) + ((match c with
      | 0 => 0
      | c₁ + 1 => ccFL W C w l d (L + 1) c₁ / 2) + (ccFL W C w l d (L + 1) c - ccFL W C w l d (L + 1) c / 2)) else 0) else 0
/-- the load of a pair: d levels lie above it -/
def ccPL (W : Nat → Nat) (C : Nat → Nat → Int32) (w l d L c : Nat) : Nat := (match c with
  | 0 => 0
  | c₁ + 1 => ccFL W C w l d (L + 1) c₁ / 2) + (ccFL W C w l d (L + 1) c - ccFL W C w l d (L + 1) c / 2)
def ccWok (n : Nat) (W : Nat → Nat) : Prop := ∀ k, k < n → 1 ≤ W k ∧ W k ≤ 9
/-- the cards that stand in the grid are cards -/
def ccCd (n : Nat) (C : Nat → Nat → Int32) : Prop := (∀ p, p < 96 → C 2 p ≠ I (-1) → ∃ a b, a < n ∧ b < n ∧ C 2 p = N a ∧ C 3 p = N b) ∧ (∀ p, p < 96 → C 6 p ≠ I (-1) → ∃ a, a < n ∧ C 6 p = N a)
theorem ccCd_of {X : Nat → Bool} {n : Nat} {C : Nat → Nat → Int32} {s : Nat → Int32} (h₁ : ccRB X n C s) : ccCd n C := by
  refine ⟨fun p g₁ g₂ => ?_, fun p g₁ g₂ => ?_⟩
  · obtain ⟨a, b, e₁, e₂, _, e₄, e₅, _⟩ := h₁.1 p g₁ g₂
    exact ⟨a, b, e₁, e₂, e₄, e₅⟩
  · obtain ⟨a, e₁, e₂, _⟩ := h₁.2 p g₁ g₂
    exact ⟨a, e₁, e₂⟩
theorem ccHF_t {w l L c : Nat} {C : Nat → Nat → Int32} (h₁ : ccHF C w l L c = true) : L < l ∧ L + c < w ∧ C 6 (12 * L + c) ≠ I (-1) := by
  unfold ccHF ccPl ccF at h₁
  simp only [Bool.and_eq_true, decide_eq_true_eq, Bool.not_eq_true', decide_eq_false_iff_not] at h₁
  exact ⟨h₁.1.1, h₁.1.2, h₁.2⟩
theorem ccHP_t {w l L c : Nat} {C : Nat → Nat → Int32} (h₁ : ccHP C w l L c = true) : L < l ∧ L + c < w ∧ C 2 (12 * L + c) ≠ I (-1) := by
  unfold ccHP ccPl ccP at h₁
  simp only [Bool.and_eq_true, decide_eq_true_eq, Bool.not_eq_true', decide_eq_false_iff_not] at h₁
  exact ⟨h₁.1.1, h₁.1.2, h₁.2⟩
theorem ccHP_i {w l L c : Nat} {C : Nat → Nat → Int32} (h₁ : L < l) (h₂ : L + c < w) (h₃ : C 2 (12 * L + c) ≠ I (-1)) : ccHP C w l L c = true := by
  unfold ccHP ccPl ccP
  rw [decide_eq_true h₁, decide_eq_true h₂, decide_eq_false h₃]
  rfl
theorem ccHF_i {w l L c : Nat} {C : Nat → Nat → Int32} (h₁ : L < l) (h₂ : L + c < w) (h₃ : C 6 (12 * L + c) ≠ I (-1)) : ccHF C w l L c = true := by
  unfold ccHF ccPl ccF
  rw [decide_eq_true h₁, decide_eq_true h₂, decide_eq_false h₃]
  rfl
theorem ccFL_le {W : Nat → Nat} {C : Nat → Nat → Int32} {w l n : Nat} (q₁ : ccCd n C) (q₂ : ccWok n W) (q₃ : w ≤ 12) (q₄ : l ≤ 8) (q₅ : n ≤ 40) : ∀ d L c, ccFL W C w l d L c ≤ 27 * d := by
  intro d
  induction d with
  | zero => intro L c; exact Nat.zero_le 0
  | succ d i₁ =>
    intro L c
    unfold ccFL
    split
    · rename_i h₁
      obtain ⟨g₁, g₂, g₃⟩ := ccHF_t h₁
      obtain ⟨a, e₁, e₂⟩ := q₁.2 (12 * L + c) (by omega) g₃
      have e₃ := (q₂ a e₁).2
      rw [e₂, mix_N (by omega)]
      split
      · rename_i h₂
        obtain ⟨a₁, b₁, f₁, f₂, f₃, f₄⟩ := q₁.1 (12 * L + c) (by omega) (ccHP_t h₂).2.2
        have f₅ := (q₂ a₁ f₁).2
        have f₆ := (q₂ b₁ f₂).2
        rw [f₃, f₄, mix_N (by omega), mix_N (by omega)]
        have f₇ := i₁ (L + 1) c
        cases c with
        | zero =>
          show _ + (_ + _ + (0 + _)) ≤ _
          omega
        | succ c₁ =>
          have f₈ := i₁ (L + 1) c₁
          show _ + (_ + _ + (ccFL W C w l d (L + 1) c₁ / 2 + _)) ≤ _
          omega
      · omega
    · omega
theorem ccFL_0 {W : Nat → Nat} {C : Nat → Nat → Int32} {w l d L c : Nat} (h₁ : ccHF C w l L c = false) : ccFL W C w l d L c = 0 := by
  cases d with
  | zero => rfl
  | succ d =>
    unfold ccFL
    rw [h₁]
    simp only [Bool.false_eq_true, if_false]
theorem ccPL_le {W : Nat → Nat} {C : Nat → Nat → Int32} {w l n d L c : Nat} (q₁ : ccCd n C) (q₂ : ccWok n W) (q₃ : w ≤ 12) (q₄ : l ≤ 8) (q₅ : n ≤ 40) : ccPL W C w l d L c ≤ 27 * d := by
  have f₇ := ccFL_le q₁ q₂ q₃ q₄ q₅ d (L + 1) c
  unfold ccPL
  cases c with
  | zero =>
    show 0 + _ ≤ _
    omega
  | succ c₁ =>
    have f₈ := ccFL_le q₁ q₂ q₃ q₄ q₅ d (L + 1) c₁
    show ccFL W C w l d (L + 1) c₁ / 2 + _ ≤ _
    omega
