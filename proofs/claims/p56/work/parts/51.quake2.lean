/-! A TREMOR, on both sides: the whole. -/
theorem ccL269st {w l n L c : Nat} {x1 x2 x3 : Int32} {X : Nat → Bool} {β wt : Nat → Int32} {h t : Nat} {C : Nat → Nat → Int32} {m₀ m : mMi} (q₀ : ccMo m₀ w l n) (q₁ : ccR X n β wt h t C (m₀ 4 0 3)) (h₂ : L < l) (h₃ : L + c < w) (g₂ : ccFq m₀ m) (g₃ : ccShakm (m₀ 4 0 3) (m 4 0 3) C (ccWob x1 (m₀ 4 0 0 5) x2 C) (12 * L + c)) :
    ∃ m₁, (∀ f rs, F269_21 (f + 1) 33 x1 x2 x3 (N L) (N c) m rs = F269_21 f 33 x1 x2 x3 (N L) (N (c + 1)) m₁ rs) ∧ ccFq m₀ m₁ ∧ ccShakm (m₀ 4 0 3) (m₁ 4 0 3) C (ccWob x1 (m₀ 4 0 0 5) x2 C) (12 * L + (c + 1)) := by
  have q₂ := ccMo_fq g₂ q₀
  have b₁ : w ≤ 12 := q₀.2.2.2.2.1
  have b₂ : l ≤ 8 := q₀.2.2.2.2.2.2.1
  have b₃ : n ≤ 40 := q₀.2.2.2.2.2.2.2
  have q₄ : m 4 0 0 2 = N w := q₂.1
  have p₁ : 12 * L + c < 96 := by omega
  have e₁ : m 4 0 3 (248 + 4 * (12 * L + c)) = C 2 (12 * L + c) := by
    rw [g₃.1 _ (by omega) (fun p _ => by omega)]
    exact (q₁.1 _ p₁).1
  have e₂ : ccHPm (m 4 0 3) w l L c = ccHP C w l L c := by
    unfold ccHPm ccHP ccPm ccP
    rw [e₁]
  cases g₄ : ccP C (12 * L + c)
  · refine ⟨m, fun f rs => ?_, g₂, g₃.1, g₃.2.1, fun p y₁ y₂ => ?_⟩
    · have e₃ : ccHP C w l L c = false := by unfold ccHP; rw [g₄, Bool.and_false]
      rw [ccL269_21_33, q₄]
      simp (disch := omega) only [ccE198 q₂, e₂, e₃, true_and, and_true, false_and, and_false, if_true, if_false, ccIte, ccBi, ccBiX, ccBv, ccBvX, ccZ0, ccZ1, ccTZ, ccT0, ccT1, Bool.or_false, ccMckT, ccMckIn, ne_eq, not_true_eq_false, not_false_eq_true, if_pos, if_neg, reduceIte, eq_self, Bool.false_eq_true, Bool.true_eq_false, mix_N, N_add, N_mul, N_sub, N_div, ccMod, N_lt, N_le, N_eq, ccNm, ccMN, ccNm2, ccM2N, ccMM2, ccM2M, ccMlt, ccMle, ccNltM, ccNleM, ccM2lt, ccM2le, ccNlt2, ccNle2, Nat.reduceAdd, Nat.reduceMul, Nat.reduceSub, Nat.reduceLT, Nat.reduceLeDiff, Nat.reduceEqDiff, Nat.reduceDiv, Nat.reduceMod]
    · rw [g₃.2.2 p y₁ y₂]
      by_cases y₃ : p = 12 * L + c
      · rw [y₃, g₄] at y₂; cases y₂
      · by_cases y₄ : p < 12 * L + c
        · rw [if_pos y₄, if_pos (by omega)]
        · rw [if_neg y₄, if_neg (by omega)]
  · have g₅ : C 2 (12 * L + c) ≠ I (-1) := by
      unfold ccP at g₄
      simpa only [Bool.not_eq_true', decide_eq_false_iff_not] using g₄
    have e₃ : ccHP C w l L c = true := ccHP_i h₂ h₃ g₅
    obtain ⟨z, y₁, y₂, y₃⟩ := ccStf_pos q₁ b₃ p₁ g₅
    obtain ⟨a, b, f₁, f₂, _, f₃, f₄, _⟩ := q₁.2.1.1 _ p₁ g₅
    have f₅ : m 4 0 3 (249 + 4 * (12 * L + c)) = N b := by
      rw [g₃.1 _ (by omega) (fun p _ => by omega), ((q₁.1 _ p₁).2.2 g₅).1]
      exact f₄
    have f₆ : m 4 0 3 (8 + 6 * a) = C 11 a := by
      rw [g₃.1 _ (by omega) (fun p _ => by omega)]
      exact (q₁.2.2.1 a f₁).1.1
    have f₇ : m 4 0 3 (8 + 6 * b) = C 11 b := by
      rw [g₃.1 _ (by omega) (fun p _ => by omega)]
      exact (q₁.2.2.1 b f₂).1.1
    have f₈ : ∀ rs, F220 (N (12 * L + c)) m rs = rI (ccStf C (12 * L + c)) m rs := fun rs => by
      unfold F220 ccStf
      simp (disch := omega) only [ccE201a, ccE201b, e₁, f₃, f₄, f₅, ccE204a, f₆, f₇, true_and, and_true, false_and, and_false, if_true, if_false, ccIte, ccBi, ccBiX, ccBv, ccBvX, ccZ0, ccZ1, ccTZ, ccT0, ccT1, Bool.or_false, ccMckT, ccMckIn, ne_eq, not_true_eq_false, not_false_eq_true, if_pos, if_neg, reduceIte, eq_self, Bool.false_eq_true, Bool.true_eq_false, mix_N, N_add, N_mul, N_sub, N_div, ccMod, N_lt, N_le, N_eq, ccNm, ccMN, ccNm2, ccM2N, ccMM2, ccM2M, ccMlt, ccMle, ccNltM, ccNleM, ccM2lt, ccM2le, ccNlt2, ccNle2, Nat.reduceAdd, Nat.reduceMul, Nat.reduceSub, Nat.reduceLT, Nat.reduceLeDiff, Nat.reduceEqDiff, Nat.reduceDiv, Nat.reduceMod]
    have f₉ : m 4 0 3 (251 + 4 * (12 * L + c)) = C 5 (12 * L + c) := by rw [g₃.2.2 _ p₁ g₄, if_neg (by omega)]
    obtain ⟨m₁, a₁, a₂, a₃, a₄⟩ := ccE270 (w := w) (l := l) (n := n) (W := fun _ => 0) (x1 := x1) (x2 := x2) p₁ (by omega) f₈ y₁ y₂ y₃ f₉
    have e₅ : m 4 0 0 5 = m₀ 4 0 0 5 := g₂ 4 0 0 5 (by omega) (by omega)
    rw [e₅] at a₄
    refine ⟨m₁, fun f rs => ?_, ccFq_trans g₂ a₂, fun q y₄ y₅ => ?_, ?_, fun p y₄ y₅ => ?_⟩
    · rw [ccL269_21_33, q₄]
      simp (disch := omega) only [ccE198 q₂, e₂, e₃, a₁, true_and, and_true, false_and, and_false, if_true, if_false, ccIte, ccBi, ccBiX, ccBv, ccBvX, ccZ0, ccZ1, ccTZ, ccT0, ccT1, Bool.or_false, ccMckT, ccMckIn, ne_eq, not_true_eq_false, not_false_eq_true, if_pos, if_neg, reduceIte, eq_self, Bool.false_eq_true, Bool.true_eq_false, mix_N, N_add, N_mul, N_sub, N_div, ccMod, N_lt, N_le, N_eq, ccNm, ccMN, ccNm2, ccM2N, ccMM2, ccM2M, ccMlt, ccMle, ccNltM, ccNleM, ccM2lt, ccM2le, ccNlt2, ccNle2, Nat.reduceAdd, Nat.reduceMul, Nat.reduceSub, Nat.reduceLT, Nat.reduceLeDiff, Nat.reduceEqDiff, Nat.reduceDiv, Nat.reduceMod]
    · rw [a₃ q (y₅ _ p₁)]
      exact g₃.1 q y₄ y₅
    · rw [a₃ 6 (by omega)]
      exact g₃.2.1
    · by_cases y₆ : p = 12 * L + c
      · subst y₆
        rw [a₄, if_pos (by omega)]
      · rw [a₃ _ (by omega), g₃.2.2 p y₄ y₅]
        by_cases y₇ : p < 12 * L + c
        · rw [if_pos y₇, if_pos (by omega)]
        · rw [if_neg y₇, if_neg (by omega)]
theorem ccL269in {w l n L : Nat} {x1 x2 x3 : Int32} {X : Nat → Bool} {β wt : Nat → Int32} {h t : Nat} {C : Nat → Nat → Int32} {m₀ : mMi} (q₀ : ccMo m₀ w l n) (q₁ : ccR X n β wt h t C (m₀ 4 0 3)) (q₃ : ccPlc w l C) (h₂ : L < l) : ∀ e c m, c + e = w - L → ccFq m₀ m → ccShakm (m₀ 4 0 3) (m 4 0 3) C (ccWob x1 (m₀ 4 0 0 5) x2 C) (12 * L + c) →
    ∃ m₁, (∀ f rs, F269_21 (f + e + 1) 33 x1 x2 x3 (N L) (N c) m rs = F269_21 f 21 x1 x2 x3 (N (L + 1)) (N 0) m₁ rs) ∧ ccFq m₀ m₁ ∧ ccShakm (m₀ 4 0 3) (m₁ 4 0 3) C (ccWob x1 (m₀ 4 0 0 5) x2 C) (12 * (L + 1)) := by
  have b₁ : w ≤ 12 := q₀.2.2.2.2.1
  have b₂ : l ≤ 8 := q₀.2.2.2.2.2.2.1
  intro e
  induction e with
  | zero =>
    intro c m g₁ g₂ g₃
    have q₂ := ccMo_fq g₂ q₀
    have q₄ : m 4 0 0 2 = N w := q₂.1
    refine ⟨m, fun f rs => ?_, g₂, g₃.1, g₃.2.1, fun p y₁ y₂ => ?_⟩
    · rw [ccL269_21_33, q₄]
      by_cases y₁ : L ≤ w
      · simp (disch := omega) only [true_and, and_true, false_and, and_false, if_true, if_false, ccIte, ccBi, ccBiX, ccBv, ccBvX, ccZ0, ccZ1, ccTZ, ccT0, ccT1, Bool.or_false, ccMckT, ccMckIn, ne_eq, not_true_eq_false, not_false_eq_true, if_pos, if_neg, reduceIte, eq_self, Bool.false_eq_true, Bool.true_eq_false, mix_N, N_add, N_mul, N_sub, N_div, ccMod, N_lt, N_le, N_eq, ccNm, ccMN, ccNm2, ccM2N, ccMM2, ccM2M, ccMlt, ccMle, ccNltM, ccNleM, ccM2lt, ccM2le, ccNlt2, ccNle2, Nat.reduceAdd, Nat.reduceMul, Nat.reduceSub, Nat.reduceLT, Nat.reduceLeDiff, Nat.reduceEqDiff, Nat.reduceDiv, Nat.reduceMod]
      · simp (disch := omega) only [ccIte, ccSubLe, if_true, N_add]
    · rw [g₃.2.2 p y₁ y₂]
      by_cases y₄ : p < 12 * L + c
      · rw [if_pos y₄, if_pos (by omega)]
      · have y₅ : C 2 p ≠ I (-1) := by
          unfold ccP at y₂
          simpa only [Bool.not_eq_true', decide_eq_false_iff_not] using y₂
        have y₆ := (q₃ p y₁).1 y₅
        rw [if_neg y₄, if_neg (by omega)]
  | succ e i₁ =>
    intro c m g₁ g₂ g₃
    obtain ⟨m₁, a₁, a₂, a₃⟩ := ccL269st (x3 := x3) q₀ q₁ h₂ (by omega) g₂ g₃
    obtain ⟨m₂, c₁, c₂, c₃⟩ := i₁ (c + 1) m₁ (by omega) a₂ a₃
    refine ⟨m₂, fun f rs => ?_, c₂, c₃⟩
    have e₁ : f + (e + 1) + 1 = f + e + 1 + 1 := by omega
    rw [e₁, a₁]
    exact c₁ f rs
theorem ccL269out {w l n : Nat} {x1 x2 x3 : Int32} {X : Nat → Bool} {β wt : Nat → Int32} {h t : Nat} {C : Nat → Nat → Int32} {m₀ : mMi} (q₀ : ccMo m₀ w l n) (q₁ : ccR X n β wt h t C (m₀ 4 0 3)) (q₃ : ccPlc w l C) : ∀ k L m, L + k = l → ccFq m₀ m → ccShakm (m₀ 4 0 3) (m 4 0 3) C (ccWob x1 (m₀ 4 0 0 5) x2 C) (12 * L) →
    ∃ m₁ T, T ≤ 15 * k + 1 ∧ (∀ f y rs, F269_21 (f + T) 21 x1 x2 x3 (N L) y m rs = bI (F217 (N 1) m₁ rs) (fun v m r => F269_85 FU x1 x2 x3 v m r)) ∧ ccFq m₀ m₁ ∧ ccShakm (m₀ 4 0 3) (m₁ 4 0 3) C (ccWob x1 (m₀ 4 0 0 5) x2 C) 96 := by
  have b₁ : w ≤ 12 := q₀.2.2.2.2.1
  have b₂ : l ≤ 8 := q₀.2.2.2.2.2.2.1
  intro k
  induction k with
  | zero =>
    intro L m g₁ g₂ g₃
    have q₂ := ccMo_fq g₂ q₀
    refine ⟨m, 1, by omega, fun f y rs => ?_, g₂, g₃.1, g₃.2.1, fun p y₁ y₂ => ?_⟩
    · rw [ccL269_21_21, q₂.2.1]
      simp (disch := omega) only [true_and, and_true, false_and, and_false, if_true, if_false, ccIte, ccBi, ccBiX, ccBv, ccBvX, ccZ0, ccZ1, ccTZ, ccT0, ccT1, Bool.or_false, ccMckT, ccMckIn, ne_eq, not_true_eq_false, not_false_eq_true, if_pos, if_neg, reduceIte, eq_self, Bool.false_eq_true, Bool.true_eq_false, mix_N, N_add, N_mul, N_sub, N_div, ccMod, N_lt, N_le, N_eq, ccNm, ccMN, ccNm2, ccM2N, ccMM2, ccM2M, ccMlt, ccMle, ccNltM, ccNleM, ccM2lt, ccM2le, ccNlt2, ccNle2, Nat.reduceAdd, Nat.reduceMul, Nat.reduceSub, Nat.reduceLT, Nat.reduceLeDiff, Nat.reduceEqDiff, Nat.reduceDiv, Nat.reduceMod]
    · rw [g₃.2.2 p y₁ y₂]
      have y₅ : C 2 p ≠ I (-1) := by
        unfold ccP at y₂
        simpa only [Bool.not_eq_true', decide_eq_false_iff_not] using y₂
      have y₆ := (q₃ p y₁).1 y₅
      rw [if_pos (by omega), if_pos y₁]
  | succ k i₁ =>
    intro L m g₁ g₂ g₃
    have q₂ := ccMo_fq g₂ q₀
    obtain ⟨m₁, a₁, a₂, a₃⟩ := ccL269in (x3 := x3) q₀ q₁ q₃ (by omega : L < l) (w - L) 0 m (by omega) g₂ g₃
    obtain ⟨m₂, T, c₁, c₂, c₃, c₄⟩ := i₁ (L + 1) m₁ (by omega) a₂ a₃
    refine ⟨m₂, T + (w - L) + 1 + 1, by omega, fun f y rs => ?_, c₃, c₄⟩
    have e₁ : f + (T + (w - L) + 1 + 1) = (f + T) + (w - L) + 1 + 1 := by omega
    rw [e₁, ccL269_21_21, q₂.2.1]
    simp (disch := omega) only [true_and, and_true, false_and, and_false, if_true, if_false, ccIte, ccBi, ccBiX, ccBv, ccBvX, ccZ0, ccZ1, ccTZ, ccT0, ccT1, Bool.or_false, ccMckT, ccMckIn, ne_eq, not_true_eq_false, not_false_eq_true, if_pos, if_neg, reduceIte, eq_self, Bool.false_eq_true, Bool.true_eq_false, mix_N, N_add, N_mul, N_sub, N_div, ccMod, N_lt, N_le, N_eq, ccNm, ccMN, ccNm2, ccM2N, ccMM2, ccM2M, ccMlt, ccMle, ccNltM, ccNleM, ccM2lt, ccM2le, ccNlt2, ccNle2, Nat.reduceAdd, Nat.reduceMul, Nat.reduceSub, Nat.reduceLT, Nat.reduceLeDiff, Nat.reduceEqDiff, Nat.reduceDiv, Nat.reduceMod]
    rw [a₁]
    exact c₂ f (N 0) rs
theorem ccHP_congr {C D : Nat → Nat → Int32} {w l L c : Nat} (h₂ : ∀ p, D 2 p = C 2 p) : ccHP D w l L c = ccHP C w l L c := by
  unfold ccHP ccP
  rw [h₂]
theorem ccHF_congr {C D : Nat → Nat → Int32} {w l L c : Nat} (h₂ : ∀ p, D 6 p = C 6 p) : ccHF D w l L c = ccHF C w l L c := by
  unfold ccHF ccF
  rw [h₂]
theorem ccFL_congr {W : Nat → Nat} {C D : Nat → Nat → Int32} {w l : Nat} (h₂ : ∀ p, D 2 p = C 2 p) (h₃ : ∀ p, D 3 p = C 3 p) (h₆ : ∀ p, D 6 p = C 6 p) : ∀ d L c, ccFL W D w l d L c = ccFL W C w l d L c := by
  intro d
  induction d with
  | zero => intro L c; rfl
  | succ d i₁ =>
    intro L c
    unfold ccFL
    rw [ccHF_congr h₆, ccHP_congr h₂, h₂, h₃, h₆, i₁]
    cases c with
    | zero => rfl
    | succ c₁ =>
      show (if _ then _ + (if _ then _ + _ + (ccFL W D w l d (L + 1) c₁ / 2 + _) else 0) else 0) = _
      rw [i₁]
theorem ccRv_congr {W : Nat → Nat} {C D : Nat → Nat → Int32} {w l p : Nat} (h₂ : ∀ p, D 2 p = C 2 p) (h₃ : ∀ p, D 3 p = C 3 p) (h₆ : ∀ p, D 6 p = C 6 p) (h₄ : ∀ p, D 4 p = C 4 p) (h₁ : ∀ p, D 11 p = C 11 p) : ccRv W D w l p = ccRv W C w l p := by
  unfold ccRv ccStp ccStf ccPL
  rw [h₂, h₃, h₄, h₁, h₁, ccFL_congr h₂ h₃ h₆]
  cases p % 12 with
  | zero => rfl
  | succ c₁ =>
    show _ - N (ccFL W D w l _ _ c₁ / 2 + _) = _
    rw [ccFL_congr h₂ h₃ h₆]
theorem ccQt_congr {W : Nat → Nat} {C D : Nat → Nat → Int32} {w l : Nat} (h₂ : ∀ p, D 2 p = C 2 p) (h₃ : ∀ p, D 3 p = C 3 p) (h₆ : ∀ p, D 6 p = C 6 p) (h₄ : ∀ p, D 4 p = C 4 p) (h₁ : ∀ p, D 11 p = C 11 p) (q : ccQt W C w l) : ccQt W D w l := fun p g₁ => by
  have y₁ := q p g₁
  unfold ccBdl ccP at y₁ ⊢
  rw [h₂, ccRv_congr h₂ h₃ h₆ h₄ h₁]
  exact y₁
theorem ccQw_G {x : Int32} {C D : Nat → Nat → Int32} {t u : Nat} (h₁ : ccG C D t u) (h₂ : ccQw x C) : ccQw x D := fun p g₁ => by
  have y₁ := h₂ p g₁
  unfold ccBdw ccP at y₁ ⊢
  rw [(h₁.1 p).2.2.2.2]
  rcases (h₁.1 p).1 with g₂ | g₂
  · rw [g₂]; exact y₁
  · rw [g₂]; rfl
theorem ccPcs_le {C : Nat → Nat → Int32} : ccPcs C ≤ 192 := by
  have e₁ := ccCnt_le (f := ccP C) 96
  have e₂ := ccCnt_le (f := ccF C) 96
  unfold ccPcs
  omega
/-- a tremor -/
theorem ccQuake {i w l n bd h t : Nat} {β wt : Nat → Int32} {W : Nat → Nat} {x dm x1 x2 : Int32} {mc mm : mMi} (q : ccJ mc mm i w l n bd β wt W h t) (hd : mc 1 (RO i) 1 3 = dm) (hd₂ : mm 4 0 0 5 = dm) (hx : mc 1 (RO i) 1 2 = x) (hx₂ : mm 4 0 0 4 = x) :
    ∃ m₁ m₂ u v, (∀ rs, F35 i x1 x2 mc rs = rI (N v - N t) m₁ rs) ∧ (∀ rs, F269 x1 x2 mm rs = rI (N v - N t) m₂ rs) ∧ ccJ m₁ m₂ i w l n bd β wt W u v ∧ ccFr i mc m₁ ∧ ccFq mm m₂ ∧ ccQt W (m₁ 0 i) w l ∧ ccQw x (m₁ 0 i) ∧ t ≤ v ∧ v ≤ t + 192 ∧
      ∃ D, ccShaken (mc 0 i) D (ccWob x1 dm x2 (mc 0 i)) 96 ∧ ccG D (m₁ 0 i) t v ∧ (ccQt W (mc 0 i) w l → ((∃ p, p < 96 ∧ ccBdw x D p = true) → t < v) ∧ (ccQw x D → v = t ∧ m₁ 0 i = D)) := by
  have b₃ : n ≤ 40 := q.1.1.2.2.2.2.2.2.2
  have r₀ := q.1.2.2.2.2.2.1
  have tt := ccR_tt r₀
  obtain ⟨m₃, a₁, a₂, a₃⟩ := ccL35a (i := i) (x1 := x1) (x2 := x2) (x3 := mc 0 i 7 2) (m₀ := mc) r₀ b₃ 96 0 (mset mc 0 i 0 6 (mc 0 i 0 6 + N 1)) (by omega) (ccFr_set ccFr_rfl) ⟨fun j p y₁ y₂ => by rw [ccRd, if_neg (by omega)], by rw [ccRd, if_pos ⟨rfl, rfl, rfl, rfl⟩], fun p y₁ => by rw [ccRd, if_neg (by omega), if_neg (by omega)]⟩
  obtain ⟨m₄, T, c₁, c₂, c₃, c₄⟩ := ccL269out (x1 := x1) (x2 := x2) (x3 := mm 4 0 3 1) q.1.2.2.1 r₀ q.1.2.2.2.2.2.2.1 l 0 (mset mm 4 0 3 6 (mm 4 0 3 6 + N 1)) (by omega) (ccFq_set ccFq_rfl (by omega)) ⟨fun p y₁ y₂ => by rw [ccRd, if_neg (by omega)], by rw [ccRd, if_pos ⟨rfl, rfl, rfl, rfl⟩], fun p y₁ y₂ => by
    have y₃ : mc 0 i 2 p ≠ I (-1) := by
      unfold ccP at y₂
      simpa only [Bool.not_eq_true', decide_eq_false_iff_not] using y₂
    rw [ccRd, if_neg (by omega), if_neg (by omega)]
    exact ((r₀.1 p y₁).2.2 y₃).2.2⟩
  rw [hd] at a₃
  rw [hd₂] at c₄
  have b₂ : l ≤ 8 := q.1.1.2.2.2.2.2.2.1
  have j₁ : ccJ m₃ m₄ i w l n bd β wt W h t := by
    refine ccJ_ch q a₂ c₃ (fun j p y₁ y₂ y₃ => a₃.1 j p y₂ (by omega)) (fun p y₁ y₂ y₃ => c₄.1 p y₂ (fun p₁ y₄ => (y₃ p₁ y₄).2)) (fun p y₁ y₂ => ⟨?_, ?_⟩) ⟨?_, ?_, ?_⟩
    · rw [c₄.1 _ (by omega) (fun p₁ y₄ => by omega), a₃.1 4 p (by omega) (by omega)]
      exact ((r₀.1 p y₁).2.2 y₂).2.1
    · have y₃ : ccP (mc 0 i) p = true := by unfold ccP; rw [decide_eq_false y₂]; rfl
      rw [c₄.2.2 p y₁ y₃, a₃.2.2 p y₁, if_pos y₁, if_pos ⟨y₁, y₃⟩]
    · rw [c₄.1 0 (by omega) (fun p₁ y₄ => by omega), a₃.1 0 5 (by omega) (by omega)]
      exact r₀.2.2.2.2.1.2.2.2.2.1
    · rw [c₄.2.1, a₃.2.1, r₀.2.2.2.2.1.2.2.2.2.2.1]
    · rw [a₃.1 0 5 (by omega) (by omega)]
      exact r₀.2.2.2.2.1.2.2.2.2.2.2
  have e₂ : ∀ p, m₃ 0 i 2 p = mc 0 i 2 p := fun p => a₃.1 2 p (by omega) (by omega)
  have e₃ : ∀ p, m₃ 0 i 3 p = mc 0 i 3 p := fun p => a₃.1 3 p (by omega) (by omega)
  have e₄ : ∀ p, m₃ 0 i 4 p = mc 0 i 4 p := fun p => a₃.1 4 p (by omega) (by omega)
  have e₆ : ∀ p, m₃ 0 i 6 p = mc 0 i 6 p := fun p => a₃.1 6 p (by omega) (by omega)
  have e₁ : ∀ p, m₃ 0 i 11 p = mc 0 i 11 p := fun p => a₃.1 11 p (by omega) (by omega)
  obtain ⟨m₅, m₆, u₅, v₅, k₁, k₂, k₃, k₄, k₅, k₆, k₇, k₈, k₉⟩ := ccSetW (x := x) 96 0 (by omega) m₃ m₄ h t j₁ (by rw [a₂ 1 (RO i) 1 2 (by omega) (by omega)]; exact hx) (by rw [c₃ 4 0 0 4 (by omega) (by omega)]; exact hx₂) (ccCnt_le 96)
  obtain ⟨m₇, m₈, u₇, v₇, f₁, f₂, f₃, f₄, f₅, f₆, f₇, f₈, f₉⟩ := ccE19 k₃
  have g₁ := ccG_le k₄
  have g₂ := ccG_le f₄
  have t₇ := ccR_tt f₃.1.2.2.2.2.2.1
  refine ⟨m₇, m₈, u₇, v₇, fun rs => ?_, fun rs => ?_, f₃, ccFr_trans a₂ (ccFr_trans k₅ f₅), ccFq_trans c₃ (ccFq_trans k₆ f₆), f₇, ccQw_G f₄ k₇, by omega, ?_, m₃ 0 i, a₃, ccG_trans k₄ f₄, fun y₁ => ⟨fun y₂ => ?_, fun y₂ => ?_⟩⟩
  · obtain ⟨g, hg⟩ := ccFU (k := 96) (by omega)
    have e₈ := a₁ g rs
    have e₉ := k₁ g x1 x2 (mc 0 i 7 2) rs
    rw [← hg] at e₈ e₉
    unfold F35
    rw [e₈, e₉, f₁]
    show rI (m₇ 0 i 7 2 - mc 0 i 7 2) m₇ rs = _
    rw [t₇.1, tt.1]
  · obtain ⟨g, hg⟩ := ccFU (k := 96) (by omega)
    have e₉ := k₂ g x1 x2 (mm 4 0 3 1) rs
    rw [← hg] at e₉
    have e₈ : FU = (100000 - T) + T := by unfold FU; omega
    have e₇ := c₂ (100000 - T) (N 0) rs
    rw [← e₈] at e₇
    unfold F269
    rw [e₇, e₉, f₂]
    show rI (m₈ 4 0 3 1 - mm 4 0 3 1) m₈ rs = _
    rw [t₇.2, tt.2]
  · have y₁ := k₄.2
    have y₂ := f₄.2
    have y₃ := ccPcs_le (C := m₃ 0 i)
    omega
  · have y₃ := k₉ y₂
    omega
  · obtain ⟨y₃, y₄, y₅⟩ := k₈ y₂
    have y₆ : ccQt W (m₅ 0 i) w l := by rw [y₃]; exact ccQt_congr e₂ e₃ e₆ e₄ e₁ y₁
    obtain ⟨y₇, y₈, y₉⟩ := f₈ y₆
    exact ⟨by omega, by rw [y₇, y₃]⟩
