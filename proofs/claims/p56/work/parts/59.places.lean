/-! CALLS at a place: canLean, canLay. -/
theorem ccE197 {m : mMi} {rs : mRs} {w l n L c : Nat} {W : Nat → Nat} {C : Nat → Nat → Int32} (q₁ : ccWm m w l n W C) (h₁ : L < 1000) (h₂ : c < 1000) : F197 (N L) (N c) m rs = rI (ccT (ccMayLean C w l L c)) m rs := by
  unfold F197 ccMayLean
  by_cases h₃ : L = 0
  · subst h₃
    cases h₄ : ccHP C w l 0 c <;> simp (disch := omega) only [ccE198' q₁, true_and, and_true, false_and, and_false, if_true, if_false, ccIte, ccBi, ccBiX, ccBv, ccBvX, ccZ0, ccZ1, ccTZ, ccT0, ccT1, Bool.or_false, ccMckT, ccMckIn, ne_eq, not_true_eq_false, not_false_eq_true, if_pos, if_neg, reduceIte, eq_self, Bool.false_eq_true, Bool.true_eq_false, mix_N, N_add, N_mul, N_sub, N_div, ccMod, N_lt, N_le, N_eq, ccNm, ccMN, ccNm2, ccM2N, ccMM2, ccM2M, ccMlt, ccMle, ccNltM, ccNleM, ccM2lt, ccM2le, ccNlt2, ccNle2, Nat.reduceAdd, Nat.reduceMul, Nat.reduceSub, Nat.reduceLT, Nat.reduceLeDiff, Nat.reduceEqDiff, Nat.reduceDiv, Nat.reduceMod, h₄] <;> rfl
  · cases h₄ : ccHP C w l L c <;> cases h₅ : ccHF C w l L c <;> simp (disch := omega) only [ccE198' q₁, ccE202' q₁, true_and, and_true, false_and, and_false, if_true, if_false, ccIte, ccBi, ccBiX, ccBv, ccBvX, ccZ0, ccZ1, ccTZ, ccT0, ccT1, Bool.or_false, ccMckT, ccMckIn, ne_eq, not_true_eq_false, not_false_eq_true, if_pos, if_neg, reduceIte, eq_self, Bool.false_eq_true, Bool.true_eq_false, mix_N, N_add, N_mul, N_sub, N_div, ccMod, N_lt, N_le, N_eq, ccNm, ccMN, ccNm2, ccM2N, ccMM2, ccM2M, ccMlt, ccMle, ccNltM, ccNleM, ccM2lt, ccM2le, ccNlt2, ccNle2, Nat.reduceAdd, Nat.reduceMul, Nat.reduceSub, Nat.reduceLT, Nat.reduceLeDiff, Nat.reduceEqDiff, Nat.reduceDiv, Nat.reduceMod, h₃, h₄, h₅] <;> rfl
theorem ccE13m {m : mMi} {rs : mRs} {i c : Nat} (h₁ : c < 1000) : F13 i (I (-1)) (N c) m rs = rI (ccT false) m rs := by
  have e₁ : ∀ r₁, F80 (RO i) (I (-1)) m r₁ = rI (N 0) m r₁ := fun r₁ => by
    unfold F80
    simp (disch := omega) only [true_and, and_true, false_and, and_false, if_true, if_false, ccIte, ccBi, ccBiX, ccBv, ccBvX, ccZ0, ccZ1, ccTZ, ccT0, ccT1, Bool.or_false, ccMckT, ccMckIn, ne_eq, not_true_eq_false, not_false_eq_true, if_pos, if_neg, reduceIte, eq_self, Bool.false_eq_true, Bool.true_eq_false, mix_N, N_add, N_mul, N_sub, N_div, ccMod, N_lt, N_le, N_eq, ccNm, ccMN, ccNm2, ccM2N, ccMM2, ccM2M, ccMlt, ccMle, ccNltM, ccNleM, ccM2lt, ccM2le, ccNlt2, ccNle2, Nat.reduceAdd, Nat.reduceMul, Nat.reduceSub, Nat.reduceLT, Nat.reduceLeDiff, Nat.reduceEqDiff, Nat.reduceDiv, Nat.reduceMod]
  unfold F13 F81
  simp (disch := omega) only [e₁, ccE51m, true_and, and_true, false_and, and_false, if_true, if_false, ccIte, ccBi, ccBiX, ccBv, ccBvX, ccZ0, ccZ1, ccTZ, ccT0, ccT1, Bool.or_false, ccMckT, ccMckIn, ne_eq, not_true_eq_false, not_false_eq_true, if_pos, if_neg, reduceIte, eq_self, Bool.false_eq_true, Bool.true_eq_false, mix_N, N_add, N_mul, N_sub, N_div, ccMod, N_lt, N_le, N_eq, ccNm, ccMN, ccNm2, ccM2N, ccMM2, ccM2M, ccMlt, ccMle, ccNltM, ccNleM, ccM2lt, ccM2le, ccNlt2, ccNle2, Nat.reduceAdd, Nat.reduceMul, Nat.reduceSub, Nat.reduceLT, Nat.reduceLeDiff, Nat.reduceEqDiff, Nat.reduceDiv, Nat.reduceMod]
theorem ccE16 {m : mMi} {rs : mRs} {i w l n L c : Nat} (q₁ : ccRu m (RO i) w l n) (h₁ : L < 900) (h₂ : c < 900) : F16 i (N L) (N c) m rs = rI (ccT (ccMayLay (m 0 i) w l L c)) m rs := by
  have b₁ : w ≤ 12 := q₁.2.2.2.2.1
  have b₂ : l ≤ 8 := q₁.2.2.2.2.2.2.1
  unfold F16
  by_cases h₃ : L < l ∧ L + c < w
  · have e₁ : ccSp w l L c = N (12 * L + c) := if_pos h₃
    cases L with
    | zero =>
      have e₂ : N 0 - N 1 = I (-1) := rfl
      have e₃ : ∀ r₁, F13 i (N 0 - N 1) (N c) m r₁ = rI (ccT false) m r₁ := fun r₁ => by rw [e₂]; exact ccE13m (by omega)
      cases h₄ : ccHF (m 0 i) w l 0 c <;> simp (disch := omega) only [ccE81 q₁, e₁, ccE14 q₁, h₄, e₃, true_and, and_true, false_and, and_false, if_true, if_false, ccIte, ccBi, ccBiX, ccBv, ccBvX, ccZ0, ccZ1, ccTZ, ccT0, ccT1, Bool.or_false, ccMckT, ccMckIn, ne_eq, not_true_eq_false, not_false_eq_true, if_pos, if_neg, reduceIte, eq_self, Bool.false_eq_true, Bool.true_eq_false, mix_N, N_add, N_mul, N_sub, N_div, ccMod, N_lt, N_le, N_eq, ccNm, ccMN, ccNm2, ccM2N, ccMM2, ccM2M, ccMlt, ccMle, ccNltM, ccNleM, ccM2lt, ccM2le, ccNlt2, ccNle2, Nat.reduceAdd, Nat.reduceMul, Nat.reduceSub, Nat.reduceLT, Nat.reduceLeDiff, Nat.reduceEqDiff, Nat.reduceDiv, Nat.reduceMod] <;> rfl
    | succ K =>
      have e₂ : N (K + 1) - N 1 = N K := by rw [N_sub (by omega), Nat.add_sub_cancel]
      have e₃ : ccPl w l (K + 1) c = true := by unfold ccPl; rw [decide_eq_true h₃.1, decide_eq_true h₃.2]; rfl
      unfold ccMayLay
      cases h₄ : ccHF (m 0 i) w l (K + 1) c <;> cases h₅ : ccHP (m 0 i) w l K c <;> cases h₆ : ccHP (m 0 i) w l K (c + 1) <;> simp (disch := omega) only [ccE81 q₁, e₁, e₂, e₃, ccE14 q₁, ccE13 q₁, h₄, h₅, h₆, true_and, and_true, false_and, and_false, if_true, if_false, ccIte, ccBi, ccBiX, ccBv, ccBvX, ccZ0, ccZ1, ccTZ, ccT0, ccT1, Bool.or_false, ccMckT, ccMckIn, ne_eq, not_true_eq_false, not_false_eq_true, if_pos, if_neg, reduceIte, eq_self, Bool.false_eq_true, Bool.true_eq_false, mix_N, N_add, N_mul, N_sub, N_div, ccMod, N_lt, N_le, N_eq, ccNm, ccMN, ccNm2, ccM2N, ccMM2, ccM2M, ccMlt, ccMle, ccNltM, ccNleM, ccM2lt, ccM2le, ccNlt2, ccNle2, Nat.reduceAdd, Nat.reduceMul, Nat.reduceSub, Nat.reduceLT, Nat.reduceLeDiff, Nat.reduceEqDiff, Nat.reduceDiv, Nat.reduceMod] <;> rfl
  · have e₁ : ccSp w l L c = I (-1) := if_neg h₃
    have e₂ : ccMayLay (m 0 i) w l L c = false := by
      cases L with
      | zero => rfl
      | succ K =>
        have e₃ : ccPl w l (K + 1) c = false := by
          unfold ccPl
          rw [Bool.eq_false_iff]
          intro y₁
          simp only [Bool.and_eq_true, decide_eq_true_eq] at y₁
          exact h₃ y₁
        show (ccPl w l (K + 1) c && !ccHF (m 0 i) w l (K + 1) c && ccHP (m 0 i) w l K c && ccHP (m 0 i) w l K (c + 1)) = false
        rw [e₃]
        rfl
    simp (disch := omega) only [ccE81 q₁, e₁, e₂, true_and, and_true, false_and, and_false, if_true, if_false, ccIte, ccBi, ccBiX, ccBv, ccBvX, ccZ0, ccZ1, ccTZ, ccT0, ccT1, Bool.or_false, ccMckT, ccMckIn, ne_eq, not_true_eq_false, not_false_eq_true, if_pos, if_neg, reduceIte, eq_self, Bool.false_eq_true, Bool.true_eq_false, mix_N, N_add, N_mul, N_sub, N_div, ccMod, N_lt, N_le, N_eq, ccNm, ccMN, ccNm2, ccM2N, ccMM2, ccM2M, ccMlt, ccMle, ccNltM, ccNleM, ccM2lt, ccM2le, ccNlt2, ccNle2, Nat.reduceAdd, Nat.reduceMul, Nat.reduceSub, Nat.reduceLT, Nat.reduceLeDiff, Nat.reduceEqDiff, Nat.reduceDiv, Nat.reduceMod]
    rfl
theorem ccE209 {m : mMi} {rs : mRs} {w l n L c : Nat} {W : Nat → Nat} {C : Nat → Nat → Int32} (q₁ : ccWm m w l n W C) (h₁ : L < l) (h₂ : c < 900) : F209 (N L) (N c) m rs = rI (ccT (ccMayLay C w l L c)) m rs := by
  have b₁ : w ≤ 12 := q₁.1.2.2.2.2.1
  have b₂ : l ≤ 8 := q₁.1.2.2.2.2.2.2.1
  unfold F209
  cases L with
  | zero =>
    simp (disch := omega) only [true_and, and_true, false_and, and_false, if_true, if_false, ccIte, ccBi, ccBiX, ccBv, ccBvX, ccZ0, ccZ1, ccTZ, ccT0, ccT1, Bool.or_false, ccMckT, ccMckIn, ne_eq, not_true_eq_false, not_false_eq_true, if_pos, if_neg, reduceIte, eq_self, Bool.false_eq_true, Bool.true_eq_false, mix_N, N_add, N_mul, N_sub, N_div, ccMod, N_lt, N_le, N_eq, ccNm, ccMN, ccNm2, ccM2N, ccMM2, ccM2M, ccMlt, ccMle, ccNltM, ccNleM, ccM2lt, ccM2le, ccNlt2, ccNle2, Nat.reduceAdd, Nat.reduceMul, Nat.reduceSub, Nat.reduceLT, Nat.reduceLeDiff, Nat.reduceEqDiff, Nat.reduceDiv, Nat.reduceMod]
    rfl
  | succ K =>
    have e₂ : N (K + 1) - N 1 = N K := by rw [N_sub (by omega), Nat.add_sub_cancel]
    unfold ccMayLay
    cases h₅ : ccHP C w l K c <;> cases h₆ : ccHP C w l K (c + 1) <;> cases h₄ : ccHF C w l (K + 1) c
    all_goals
      first
        | (simp (disch := omega) only [e₂, ccE202' q₁, ccE198' q₁, h₄, h₅, h₆, true_and, and_true, false_and, and_false, if_true, if_false, ccIte, ccBi, ccBiX, ccBv, ccBvX, ccZ0, ccZ1, ccTZ, ccT0, ccT1, Bool.or_false, ccMckT, ccMckIn, ne_eq, not_true_eq_false, not_false_eq_true, if_pos, if_neg, reduceIte, eq_self, Bool.false_eq_true, Bool.true_eq_false, mix_N, N_add, N_mul, N_sub, N_div, ccMod, N_lt, N_le, N_eq, ccNm, ccMN, ccNm2, ccM2N, ccMM2, ccM2M, ccMlt, ccMle, ccNltM, ccNleM, ccM2lt, ccM2le, ccNlt2, ccNle2, Nat.reduceAdd, Nat.reduceMul, Nat.reduceSub, Nat.reduceLT, Nat.reduceLeDiff, Nat.reduceEqDiff, Nat.reduceDiv, Nat.reduceMod, Bool.and_false]; done)
        | (simp (disch := omega) only [e₂, ccE202' q₁, ccE198' q₁, h₄, h₅, h₆, true_and, and_true, false_and, and_false, if_true, if_false, ccIte, ccBi, ccBiX, ccBv, ccBvX, ccZ0, ccZ1, ccTZ, ccT0, ccT1, Bool.or_false, ccMckT, ccMckIn, ne_eq, not_true_eq_false, not_false_eq_true, if_pos, if_neg, reduceIte, eq_self, Bool.false_eq_true, Bool.true_eq_false, mix_N, N_add, N_mul, N_sub, N_div, ccMod, N_lt, N_le, N_eq, ccNm, ccMN, ccNm2, ccM2N, ccMM2, ccM2M, ccMlt, ccMle, ccNltM, ccNleM, ccM2lt, ccM2le, ccNlt2, ccNle2, Nat.reduceAdd, Nat.reduceMul, Nat.reduceSub, Nat.reduceLT, Nat.reduceLeDiff, Nat.reduceEqDiff, Nat.reduceDiv, Nat.reduceMod, Bool.and_false]; rfl)
        | (have e₃ : ccPl w l (K + 1) c = true := by
             have e₄ := (ccHP_t h₆).2.1
             unfold ccPl
             rw [decide_eq_true h₁, decide_eq_true (by omega : K + 1 + c < w)]
             rfl
           simp (disch := omega) only [e₂, e₃, ccE202' q₁, ccE198' q₁, h₄, h₅, h₆, true_and, and_true, false_and, and_false, if_true, if_false, ccIte, ccBi, ccBiX, ccBv, ccBvX, ccZ0, ccZ1, ccTZ, ccT0, ccT1, Bool.or_false, ccMckT, ccMckIn, ne_eq, not_true_eq_false, not_false_eq_true, if_pos, if_neg, reduceIte, eq_self, Bool.false_eq_true, Bool.true_eq_false, mix_N, N_add, N_mul, N_sub, N_div, ccMod, N_lt, N_le, N_eq, ccNm, ccMN, ccNm2, ccM2N, ccMM2, ccM2M, ccMlt, ccMle, ccNltM, ccNleM, ccM2lt, ccM2le, ccNlt2, ccNle2, Nat.reduceAdd, Nat.reduceMul, Nat.reduceSub, Nat.reduceLT, Nat.reduceLeDiff, Nat.reduceEqDiff, Nat.reduceDiv, Nat.reduceMod]
           rfl)
theorem ccLd_wm {B : Nat} {m : mMi} {w l n bd lm dp cl : Nat} {β : Nat → Int32} {W : Nat → Nat} (q : ccLd B m w l n bd lm dp cl β W) : ccWm m w l n W (m 0 0) := by
  obtain ⟨h, t, q₁, _⟩ := ccLd_R q
  exact ⟨q.2.2.1.2.1, q₁.1, q.2.2.1.2.2.2.2.2.2.2.1⟩
theorem ccLd_wm0 {B : Nat} {m : mMi} {w l n bd lm dp cl : Nat} {β : Nat → Int32} {W : Nat → Nat} (q : ccLd B m w l n bd lm dp cl β W) : ccWm (ccM0 m) w l n W (m 0 0) := by
  have q₁ := ccLd_wm (ccLd_eq (ccEq_t (v := N 0) (ccEq_rfl (m₁ := m))) q)
  rw [ccEq_0 (ccEq_t (v := N 0) (ccEq_rfl (m₁ := m))) (by omega) (by omega)] at q₁
  exact q₁
theorem ccM0_0 {m : mMi} : ccM0 m 0 = m 0 := by
  funext i j p
  unfold ccM0
  rw [ccRd, if_neg (by omega)]
theorem ccOk_127 {B : Nat} {m : mMi} {x y : Int32} (h₁ : ccTop B m) : ccOk B (F127 x y) (F248 x y) [(1, 1), (2, 2)] m := by
  refine ccOk_place (b := N 0) h₁ (List.mem_cons_self) (List.mem_cons_of_mem _ List.mem_cons_self) (fun m rs => rfl) (fun m rs => rfl) (fun w l n bd lm dp cl β W L c h₂ e₁ e₂ e₃ e₄ => ?_)
  have qr : ccRu m 0 w l n := h₂.2.2.1.1
  have b₁ : w ≤ 12 := qr.2.2.2.2.1
  have b₂ : l ≤ 8 := qr.2.2.2.2.2.2.1
  have q₁ := ccLd_wm0 h₂
  refine ccOk_q (v := ccT (ccMayLean (m 0 0) w l L c)) (m₁ := m) (m₂ := ccM0 m) h₁ (fun rs => ?_) (fun rs => ?_) ccT0s ccEq_rfl (ccEq_t ccEq_rfl) (fun _ _ _ => rfl)
  · show bI (F12 0 x y m rs) _ = _
    rw [e₁, e₂, ccE12 qr (by omega) (by omega), ccBi, ccTZ]
    rfl
  · show bI (F197 x y (ccM0 m) rs) _ = _
    rw [e₁, e₂, ccE197 q₁ (by omega) (by omega), ccBi]
    cases ccMayLean (m 0 0) w l L c <;> rfl
theorem ccOk_128 {B : Nat} {m : mMi} {x y : Int32} (h₁ : ccTop B m) : ccOk B (F128 x y) (F249 x y) [(1, 1), (2, 2)] m := by
  refine ccOk_place (b := N 0) h₁ (List.mem_cons_self) (List.mem_cons_of_mem _ List.mem_cons_self) (fun m rs => rfl) (fun m rs => rfl) (fun w l n bd lm dp cl β W L c h₂ e₁ e₂ e₃ e₄ => ?_)
  have qr : ccRu m 0 w l n := h₂.2.2.1.1
  have b₁ : w ≤ 12 := qr.2.2.2.2.1
  have b₂ : l ≤ 8 := qr.2.2.2.2.2.2.1
  have q₁ := ccLd_wm0 h₂
  refine ccOk_q (v := ccT (ccMayLay (m 0 0) w l L c)) (m₁ := m) (m₂ := ccM0 m) h₁ (fun rs => ?_) (fun rs => ?_) ccT0s ccEq_rfl (ccEq_t ccEq_rfl) (fun _ _ _ => rfl)
  · show bI (F16 0 x y m rs) _ = _
    rw [e₁, e₂, ccE16 qr (by omega) (by omega), ccBi, ccTZ]
    rfl
  · show bI (F209 x y (ccM0 m) rs) _ = _
    rw [e₁, e₂, ccE209 q₁ e₃ (by omega), ccBi]
    cases ccMayLay (m 0 0) w l L c <;> rfl
