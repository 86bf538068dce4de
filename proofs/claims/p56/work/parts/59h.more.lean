/-! CALLS: the text's bytes, the log. -/
theorem ccE106z {m : mMi} {rs : mRs} {x : Int32} {h : Nat} (g : ¬ ∃ a, x = N a ∧ a < h) (b₁ : h < 2147483648) : F106 x (N h) m rs = rX 2 m (rsT rs) := by
  rcases ccAny x with ⟨a, e₁, e₂⟩ | ⟨e₁, _⟩
  · rw [e₁, ccE106 e₂ b₁, if_neg (fun y₁ => g ⟨a, e₁, y₁⟩)]
  · rw [ccE106n e₁]
theorem ccE177i {m : mMi} {rs : mRs} {a h : Nat} (g : a < h) (b₁ : h < 1000000) : F177 (N a) (N 0) (N h - N 1) m rs = rI (N 1) m rs := by
  rw [N_sub (by omega), ccE177' (by omega) (by omega) (by omega), decide_eq_true (Nat.zero_le a), decide_eq_true (by omega : a ≤ h - 1)]
  rfl
theorem ccOk_156 {B : Nat} {m : mMi} {x : Int32} (h₁ : ccTop B m) : ccOk B (F156 x) (F288 x) [(2, 1)] m := by
  obtain ⟨e, e₁, e₂, e₃, e₄⟩ := h₁.2.2.1
  refine ccOk_imp (ccOk_in (G := ∃ a, x = N a ∧ a < e) (E := 2) (c := 1) (b := N 0) (kc := F156 x) (km := fun M rs => bI (F177 x (N 0) (M 4 0 0 36 - N 1) M rs) (fun v m r => mifO (decide (v ≠ N 0)) (bI (F178 (N 0) (N 1) m r) (fun v m r => mifO (decide (v = N 0)) (mckO (mIn x 600) (rI (m 4 0 15 (mix x)) m r)) (rI (N 0) m r))) (bI (F178 (N 1) (N 1) m r) (fun v m r => mifO (decide (v = N 0)) (mckO (mIn x 600) (rI (m 4 0 15 (mix x)) m r)) (rI (N 0) m r))))) (kc' := fun m rs => mckO (mIn x 240) (rI (m 2 7 1 (mix x)) m rs)) (km' := fun m rs => mckO (mIn x 600) (rI (m 4 0 15 (mix x)) m rs)) h₁ List.mem_cons_self (fun g rs => ?_) (fun g rs => ?_) (fun g M rs y₁ => ?_) (fun g rs => ?_) (fun g => ?_)) (fun rs => rfl) (fun M rs y₁ => ?_)
  · obtain ⟨a, f₁, f₂⟩ := g
    show bV (F106 x (m 2 7 0 1) m rs) _ = _
    rw [e₂, f₁, ccE106 (by omega) (by omega), if_pos f₂, ccBv]
  · show bV (F106 x (m 2 7 0 1) m rs) _ = _
    rw [e₂, ccE106z g (by omega), ccBvX]
  · obtain ⟨a, f₁, f₂⟩ := g
    show bI (F177 x (N 0) (ccM0 M 4 0 0 36 - N 1) (ccM0 M) rs) _ = _
    rw [ccM0_r (by omega), y₁, e₃, f₁, ccE177i f₂ (by omega), ccBi, ccIf1, ccE178f ccT0s, ccBi, ccIf0e]
  · show bI (F177 x (N 0) (ccM0 m 4 0 0 36 - N 1) (ccM0 m) rs) _ = _
    rw [ccM0_r (by omega), e₃, ccE177z (fun ⟨a, y₁, _, y₃⟩ => g ⟨a, y₁, y₃⟩) (by omega) (by omega), ccBi, ccIf0, ccE178t ccT0s (by omega) (by omega), ccBi, ccIf1e]
  · obtain ⟨a, f₁, f₂⟩ := g
    refine ccOk_q (v := m 2 7 1 a) (m₁ := m) (m₂ := ccM0 m) h₁ (fun rs => ?_) (fun rs => ?_) ccT0s ccEq_rfl (ccEq_t ccEq_rfl) (fun _ _ _ => rfl)
    · rw [f₁]
      simp (disch := omega) only [true_and, and_true, false_and, and_false, if_true, if_false, ccIte, ccBi, ccBiX, ccBv, ccBvX, ccZ0, ccZ1, ccTZ, ccT0, ccT1, Bool.or_false, ccMckT, ccMckIn, ne_eq, not_true_eq_false, not_false_eq_true, if_pos, if_neg, reduceIte, eq_self, Bool.false_eq_true, Bool.true_eq_false, mix_N, N_add, N_mul, N_sub, N_div, ccMod, N_lt, N_le, N_eq, ccNm, ccMN, ccNm2, ccM2N, ccMM2, ccM2M, ccMlt, ccMle, ccNltM, ccNleM, ccM2lt, ccM2le, ccNlt2, ccNle2, Nat.reduceAdd, Nat.reduceMul, Nat.reduceSub, Nat.reduceLT, Nat.reduceLeDiff, Nat.reduceEqDiff, Nat.reduceDiv, Nat.reduceMod]
    · have r₁ := ccM0_r (m := m) (j := 15) (p := a) (by omega)
      rw [f₁, e₄ a f₂]
      simp (disch := omega) only [r₁, true_and, and_true, false_and, and_false, if_true, if_false, ccIte, ccBi, ccBiX, ccBv, ccBvX, ccZ0, ccZ1, ccTZ, ccT0, ccT1, Bool.or_false, ccMckT, ccMckIn, ne_eq, not_true_eq_false, not_false_eq_true, if_pos, if_neg, reduceIte, eq_self, Bool.false_eq_true, Bool.true_eq_false, mix_N, N_add, N_mul, N_sub, N_div, ccMod, N_lt, N_le, N_eq, ccNm, ccMN, ccNm2, ccM2N, ccMM2, ccM2M, ccMlt, ccMle, ccNltM, ccNleM, ccM2lt, ccM2le, ccNlt2, ccNle2, Nat.reduceAdd, Nat.reduceMul, Nat.reduceSub, Nat.reduceLT, Nat.reduceLeDiff, Nat.reduceEqDiff, Nat.reduceDiv, Nat.reduceMod]
  · show bI (F177 x (N 0) (M 4 0 0 36 - N 1) (ccM0 M) rs) _ = bI (F177 x (N 0) (ccM0 M 4 0 0 36 - N 1) (ccM0 M) rs) _
    rw [ccM0_r (by omega)]
theorem ccE48 {m : mMi} {rs : mRs} {i t a e : Nat} (h₁ : m 0 i 7 2 = N t) (b₁ : t < 1000000000) (h₂ : a < t) (h₃ : a < 30) (h₄ : e < 5) : F48 i (N a) (N e) m rs = rI (m 0 i 8 (5 * ((t - 1 - a) % 30) + e)) m rs := by
  have e₁ : N t - N 1 - N a = N (t - 1 - a) := by rw [N_sub (by omega), N_sub (by omega)]
  have e₂ : (t - 1 - a) % 30 * 5 + e = 5 * ((t - 1 - a) % 30) + e := by omega
  have e₃ : (t - 1 - a) % 30 < 30 := Nat.mod_lt _ (by omega)
  unfold F48 F47
  by_cases h₅ : 30 < t
  · simp (disch := omega) only [h₁, e₁, e₂, true_and, and_true, false_and, and_false, if_true, if_false, ccIte, ccBi, ccBiX, ccBv, ccBvX, ccZ0, ccZ1, ccTZ, ccT0, ccT1, Bool.or_false, ccMckT, ccMckIn, ne_eq, not_true_eq_false, not_false_eq_true, if_pos, if_neg, reduceIte, eq_self, Bool.false_eq_true, Bool.true_eq_false, mix_N, N_add, N_mul, N_sub, N_div, ccMod, N_lt, N_le, N_eq, ccNm, ccMN, ccNm2, ccM2N, ccMM2, ccM2M, ccMlt, ccMle, ccNltM, ccNleM, ccM2lt, ccM2le, ccNlt2, ccNle2, Nat.reduceAdd, Nat.reduceMul, Nat.reduceSub, Nat.reduceLT, Nat.reduceLeDiff, Nat.reduceEqDiff, Nat.reduceDiv, Nat.reduceMod]
  · simp (disch := omega) only [h₁, e₁, e₂, true_and, and_true, false_and, and_false, if_true, if_false, ccIte, ccBi, ccBiX, ccBv, ccBvX, ccZ0, ccZ1, ccTZ, ccT0, ccT1, Bool.or_false, ccMckT, ccMckIn, ne_eq, not_true_eq_false, not_false_eq_true, if_pos, if_neg, reduceIte, eq_self, Bool.false_eq_true, Bool.true_eq_false, mix_N, N_add, N_mul, N_sub, N_div, ccMod, N_lt, N_le, N_eq, ccNm, ccMN, ccNm2, ccM2N, ccMM2, ccM2M, ccMlt, ccMle, ccNltM, ccNleM, ccM2lt, ccM2le, ccNlt2, ccNle2, Nat.reduceAdd, Nat.reduceMul, Nat.reduceSub, Nat.reduceLT, Nat.reduceLeDiff, Nat.reduceEqDiff, Nat.reduceDiv, Nat.reduceMod]
theorem ccE245 {m : mMi} {rs : mRs} {t a e : Nat} (h₁ : m 4 0 3 1 = N t) (b₁ : t < 1000000000) (h₂ : a < t) (h₄ : e < 5) : F245 (N a) (N e) m rs = rI (m 4 0 3 (768 + 5 * ((t - 1 - a) % 30) + e)) m rs := by
  have e₁ : N t - N 1 - N a = N (t - 1 - a) := by rw [N_sub (by omega), N_sub (by omega)]
  have e₃ : (t - 1 - a) % 30 < 30 := Nat.mod_lt _ (by omega)
  unfold F245
  simp (disch := omega) only [h₁, e₁, true_and, and_true, false_and, and_false, if_true, if_false, ccIte, ccBi, ccBiX, ccBv, ccBvX, ccZ0, ccZ1, ccTZ, ccT0, ccT1, Bool.or_false, ccMckT, ccMckIn, ne_eq, not_true_eq_false, not_false_eq_true, if_pos, if_neg, reduceIte, eq_self, Bool.false_eq_true, Bool.true_eq_false, mix_N, N_add, N_mul, N_sub, N_div, ccMod, N_lt, N_le, N_eq, ccNm, ccMN, ccNm2, ccM2N, ccMM2, ccM2M, ccMlt, ccMle, ccNltM, ccNleM, ccM2lt, ccM2le, ccNlt2, ccNle2, Nat.reduceAdd, Nat.reduceMul, Nat.reduceSub, Nat.reduceLT, Nat.reduceLeDiff, Nat.reduceEqDiff, Nat.reduceDiv, Nat.reduceMod]
theorem ccOk_124 {B : Nat} {m : mMi} {x y : Int32} (hB : B ≤ 900000000) (h₁ : ccTop B m) : ccOk B (F124 x y) (F243 x y) [(1, 1), (2, 2), (3, 3)] m := by
  refine ccOk_textn (b := N 0) h₁ (List.mem_cons_self) (fun m rs => rfl) (fun m rs => rfl) (fun w l n bd lm dp cl β W h₂ => ?_)
  obtain ⟨h, t, q₁, _, _, _, _, tB⟩ := ccLd_R h₂
  have tt := ccR_tt q₁
  obtain ⟨k, hk, k₁, k₂, k₃, k₄⟩ : ∃ k, k ≤ 30 ∧ k ≤ t ∧ (if N 30 < N t then N 30 else N t) = N k ∧ (if N t < N 30 then N t else N 30) = N k ∧ k < 1000 := by
    by_cases g₁ : 30 < t
    · have g₂ : N 30 < N t := by rw [N_lt (by omega) (by omega)]; exact g₁
      have g₃ : ¬ N t < N 30 := by rw [N_lt (by omega) (by omega)]; omega
      exact ⟨30, by omega, by omega, by rw [if_pos g₂], by rw [if_neg g₃], by omega⟩
    · have g₂ : ¬ N 30 < N t := by rw [N_lt (by omega) (by omega)]; exact g₁
      refine ⟨t, by omega, by omega, by rw [if_neg g₂], ?_, by omega⟩
      by_cases g₃ : t < 30
      · have g₄ : N t < N 30 := by rw [N_lt (by omega) (by omega)]; exact g₃
        rw [if_pos g₄]
      · have g₄ : ¬ N t < N 30 := by rw [N_lt (by omega) (by omega)]; exact g₃
        have g₅ : t = 30 := by omega
        rw [if_neg g₄, g₅]
  have f₁ : ∀ rs, F47 0 m rs = rI (N k) m rs := fun rs => by
    unfold F47
    rw [tt.1, k₂]
  have f₂ : ∀ M rs, ccMo4 m M → F244 (ccM0 M) rs = rI (N k) (ccM0 M) rs := fun M rs y₁ => by
    unfold F244
    rw [ccM0_r (by omega), y₁, tt.2, k₃]
  refine ccOk_in (G := ∃ a, x = N a ∧ a < k) (E := 2) (c := 2) (b := N 0) (km := fun M rs => bI (F244 M rs) (fun v m r => bI (F177 x (N 0) (v - N 1) m r) (fun v m r => mifO (decide (v ≠ N 0)) (bI (F178 (N 0) (N 2) m r) (fun v m r => mifO (decide (v ≠ N 0)) (rI (N 0) m r) (bI (F177 y (N 0) (N 4) m r) (fun v m r => mifO (decide (v ≠ N 0)) (bI (F178 (N 0) (N 3) m r) (fun v m r => mifO (decide (v = N 0)) (bI (F245 x y m r) (fun v m r => rI v m r)) (rI (N 0) m r))) (bI (F178 (N 1) (N 3) m r) (fun v m r => mifO (decide (v = N 0)) (bI (F245 x y m r) (fun v m r => rI v m r)) (rI (N 0) m r))))))) (bI (F178 (N 1) (N 2) m r) (fun v m r => mifO (decide (v ≠ N 0)) (rI (N 0) m r) (bI (F177 y (N 0) (N 4) m r) (fun v m r => mifO (decide (v ≠ N 0)) (bI (F178 (N 0) (N 3) m r) (fun v m r => mifO (decide (v = N 0)) (bI (F245 x y m r) (fun v m r => rI v m r)) (rI (N 0) m r))) (bI (F178 (N 1) (N 3) m r) (fun v m r => mifO (decide (v = N 0)) (bI (F245 x y m r) (fun v m r => rI v m r)) (rI (N 0) m r)))))))))) (kc' := fun m rs => bV (F117 y (N 0) (N 4) m rs) (fun m r => bI (F48 0 x y m r) (fun v m r => rI v m r))) (km' := fun m r => bI (F177 y (N 0) (N 4) m r) (fun v m r => mifO (decide (v ≠ N 0)) (bI (F178 (N 0) (N 3) m r) (fun v m r => mifO (decide (v = N 0)) (bI (F245 x y m r) (fun v m r => rI v m r)) (rI (N 0) m r))) (bI (F178 (N 1) (N 3) m r) (fun v m r => mifO (decide (v = N 0)) (bI (F245 x y m r) (fun v m r => rI v m r)) (rI (N 0) m r))))) h₁ (List.mem_cons_of_mem _ List.mem_cons_self) (fun g rs => ?_) (fun g rs => ?_) (fun g M rs y₁ => ?_) (fun g rs => ?_) (fun g => ?_)
  · obtain ⟨a, e₁, e₂⟩ := g
    show bI (F47 0 m rs) _ = _
    rw [f₁, ccBi, e₁, ccE106 (by omega) (by omega), if_pos e₂, ccBv]
  · show bI (F47 0 m rs) _ = _
    rw [f₁, ccBi, ccE106z g (by omega), ccBvX]
  · obtain ⟨a, e₁, e₂⟩ := g
    show bI (F244 (ccM0 M) rs) _ = _
    rw [f₂ M rs y₁, ccBi, e₁, ccE177i e₂ (by omega), ccBi, ccIf1, ccE178f ccT0s, ccBi, ccIf0]
  · show bI (F244 (ccM0 m) rs) _ = _
    rw [f₂ m rs (fun _ _ _ => rfl), ccBi, ccE177z (fun ⟨a, y₁, _, y₃⟩ => g ⟨a, y₁, y₃⟩) (by omega) (by omega), ccBi, ccIf0, ccE178t ccT0s (by omega) (by omega), ccBi, ccIf1]
  · obtain ⟨a, e₁, e₂⟩ := g
    refine ccOk_rng (c := 3) (b := N 0) h₁ (List.mem_cons_of_mem _ (List.mem_cons_of_mem _ List.mem_cons_self)) (by omega) (by omega) (by omega) (by omega) (fun m rs => rfl) (fun m rs => rfl) (fun z e₃ e₄ e₅ => ?_)
    have e₆ : (t - 1 - a) % 30 < 30 := Nat.mod_lt _ (by omega)
    have e₇ : (t - 1 - a) % 30 ≤ t - 1 - a := Nat.mod_le _ _
    have e₈ := (q₁.2.2.2.2.1.2.2.1 ((t - 1 - a) % 30) e₆ (by omega)).1 z (by omega)
    refine ccOk_q (v := m 0 0 8 (5 * ((t - 1 - a) % 30) + z)) (m₁ := m) (m₂ := ccM0 m) h₁ (fun rs => ?_) (fun rs => ?_) ccT0s ccEq_rfl (ccEq_t ccEq_rfl) (fun _ _ _ => rfl)
    · rw [e₁, e₃, ccE48 tt.1 (by omega) (by omega) (by omega) (by omega), ccBi]
    · rw [e₁, e₃, ccE245 (t := t) (by rw [ccM0_r (by omega)]; exact tt.2) (by omega) (by omega) (by omega), ccBi, ccM0_r (by omega), e₈]
