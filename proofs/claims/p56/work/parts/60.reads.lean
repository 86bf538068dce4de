/-! CALLS: reads of pairs and flat cards. -/
theorem ccOk_r2 {B : Nat} {Fc Fm : mMi → mRs → mRz} {ec : List (Nat × Nat)} {m m₁ m₂ : mMi} {v : Int32} (h₁ : ccTop B m) (h₂ : ∀ rs, Fc m rs = rI v m₁ rs) (h₃ : ∀ rs, Fm m₁ rs = rI v m₂ rs) (h₄ : ccFs m m₁) (h₅ : ccFt (ccM0 m₁) m₂) : ccOk B Fc Fm ec m :=
  ccOk_q h₁ h₂ h₃ (by rw [h₅ 4 0 0 0 (by omega)]; exact ccT0s) (ccEq_fs h₄) (ccEq_trans (ccEq_t ccEq_rfl) (ccEq_ft h₅)) (fun a j p => h₄ 4 a j p (by omega))
theorem ccOk_r0 {B : Nat} {Fc Fm : mMi → mRs → mRz} {ec : List (Nat × Nat)} {m : mMi} {v : Int32} (h₁ : ccTop B m) (h₂ : ∀ rs, Fc m rs = rI v m rs) (h₃ : ∀ rs, Fm m rs = rI v (ccM0 m) rs) : ccOk B Fc Fm ec m :=
  ccOk_q h₁ h₂ h₃ ccT0s ccEq_rfl (ccEq_t ccEq_rfl) (fun _ _ _ => rfl)
/-- the loads, of both sides -/
theorem ccLoads {B : Nat} {m : mMi} {w l n bd lm dp cl : Nat} {β : Nat → Int32} {W : Nat → Nat} (h₂ : ccLd B m w l n bd lm dp cl β W) :
    ∃ m₁ m₂, (∀ rs, F85 0 m rs = rV m₁ rs) ∧ ccFs m m₁ ∧ ccDone m₁ W (m 0 0) w l 0 ∧ m₁ 0 0 = m 0 0 ∧ (∀ rs, F213 (ccM0 m₁) rs = rV m₂ rs) ∧ ccFt (ccM0 m₁) m₂ ∧ ccDonem m₂ W (m 0 0) w l 0 ∧ ccWm m₂ w l n W (m 0 0) ∧ ccSs n (m 0 0) (m₂ 4 0 3) ∧ ccCd n (m 0 0) ∧ ccPlc w l (m 0 0) ∧ ccWm (ccM0 m₁) w l n W (m 0 0) ∧ ccWc m₁ 0 w l n W (m 0 0) ∧ ccWok n W := by
  obtain ⟨h, t, q₁, q₂, q₃, q₄, q₅, q₆⟩ := ccLd_R h₂
  have qr : ccRu m 0 w l n := h₂.2.2.1.1
  have b₁ : w ≤ 12 := qr.2.2.2.2.1
  have b₂ : l ≤ 8 := qr.2.2.2.2.2.2.1
  have cd := ccCd_of q₁.2.1
  have wt : ccWt m 0 n W := h₂.2.2.1.2.2.2.2.2.2.1
  have wk : ccWok n W := h₂.2.2.1.2.2.2.2.2.2.2.2.1
  have wc : ccWc m 0 w l n W (m 0 0) := ⟨qr, wt, rfl⟩
  obtain ⟨m₁, a₁, a₂, a₃⟩ := ccE85 (m := m) (i := 0) (ccStd_sup q₃ b₁ b₂) cd wk wc
  have z₀ : m₁ 0 0 = m 0 0 := ccFs_0 a₂
  have wm := ccLd_wm0 (ccLd_eq (ccEq_fs a₂) h₂)
  rw [z₀] at wm
  obtain ⟨m₂, c₁, c₂, c₃⟩ := ccE213 cd wk wm
  refine ⟨m₁, m₂, a₁, a₂, a₃, z₀, c₁, c₂, c₃, ccWm_ft wm c₂, fun k g₁ => ?_, cd, q₂, wm, ccWc_fs wc a₂, wk⟩
  rw [ccFt_3 c₂, ccM0_r (by omega), a₂ 4 0 3 _ (by omega)]
  exact ccSs_of q₁.2.2.1 k g₁
theorem ccHP_b {C : Nat → Nat → Int32} {w l L c : Nat} (h₁ : L < l) (h₂ : L + c < w) (h₃ : ccHP C w l L c = false) : C 2 (12 * L + c) = I (-1) := by
  rcases Classical.em (C 2 (12 * L + c) = I (-1)) with e₁ | e₁
  · exact e₁
  · rw [ccHP_i h₁ h₂ e₁] at h₃
    cases h₃
theorem ccOk_121 {B : Nat} {m : mMi} {x y z : Int32} (h₁ : ccTop B m) : ccOk B (F121 x y z) (F240 x y z) [(1, 1), (2, 2), (3, 3)] m := by
  refine ccOk_place (b := N 0) h₁ (List.mem_cons_self) (List.mem_cons_of_mem _ List.mem_cons_self) (fun m rs => rfl) (fun m rs => rfl) (fun w l n bd lm dp cl β W L c h₂ e₁ e₂ e₃ e₄ => ?_)
  refine ccOk_rng (c := 3) (b := N 0) h₁ (List.mem_cons_of_mem _ (List.mem_cons_of_mem _ List.mem_cons_self)) (by omega) (by omega) (by omega) (by omega) (fun m rs => rfl) (fun m rs => rfl) (fun a e₅ _ e₇ => ?_)
  have qr : ccRu m 0 w l n := h₂.2.2.1.1
  have b₁ : w ≤ 12 := qr.2.2.2.2.1
  have b₂ : l ≤ 8 := qr.2.2.2.2.2.2.1
  have b₃ : n ≤ 40 := qr.2.2.2.2.2.2.2
  cases g : ccHP (m 0 0) w l L c
  · refine ccOk_r0 (v := I (-1)) h₁ (fun rs => ?_) (fun rs => ?_)
    · show bI (F81 0 x y m rs) _ = _
      rw [e₁, e₂, ccE81 qr (by omega) (by omega), ccBi, ccE51s b₁ b₂, g, ccBi, ccT_f, ccIf0]
    · show bI (F198 x y (ccM0 m) rs) _ = _
      rw [e₁, e₂, ccE198' (ccLd_wm0 h₂) (by omega) (by omega), g, ccBi, ccT_f, ccIf0]
  · obtain ⟨m₁, m₂, a₁, a₂, a₃, z₀, c₁, c₂, c₃, wm, ss, cd, pl, wm₁, wc, wk⟩ := ccLoads h₂
    obtain ⟨_, _, g₀⟩ := ccHP_t g
    have sp : ccSp w l L c = N (12 * L + c) := if_pos ⟨e₃, e₄⟩
    have b₄ : 12 * L + c < 96 := by omega
    obtain ⟨r₁, _, r₃⟩ := wm.2.1 (12 * L + c) b₄
    obtain ⟨r₄, r₅, r₆⟩ := r₃ g₀
    have d₁ := (a₃ L c (7 - L) (by omega) (by omega) e₃ e₄).1
    have d₂ := (c₃ L c (7 - L) (by omega) (by omega) e₃ e₄).1 g
    have cls : ∀ rs, bI (F81 0 x y m rs) (fun v3 m3 r3 => bI (F51 0 v3 m3 r3) (fun v4 m4 r4 => mifO (decide (v4 ≠ (N 0))) (bV (F85 0 m4 r4) (fun m5 r5 => mTswO z 53 116 0 5 #[39, 53, 67, 81, 95, 105] (fun t9 => if t9 = 92 then mckO (mIn v3 96) (some (.inl (some (mI (m5 0 0 2 (mix v3)))), m5, r5)) else if t9 = 106 then mckO (mIn v3 96) (some (.inl (some (mI (m5 0 0 3 (mix v3)))), m5, r5)) else if t9 = 120 then mckO (mIn v3 96) (some (.inl (some (mI (m5 0 0 4 (mix v3)))), m5, r5)) else if t9 = 134 then mckO (mIn v3 96) (some (.inl (some (mI (m5 0 0 5 (mix v3)))), m5, r5)) else if t9 = 148 then bI (F24 0 v3 m5 r5) (fun v7 m7 r7 => some (.inl (some (mI v7)), m7, r7)) else if t9 = 158 then mckO (mIn v3 96) (some (.inl (some (mI (m5 2 2 1 (mix v3)))), m5, r5)) else if t9 = 169 then bI (F23 0 v3 m5 r5) (fun v6 m6 r6 => some (.inl (some (mI v6)), m6, r6)) else none))) (some (.inl (some (mI (I (-1)))), m4, r4)))) = mTswO z 53 116 0 5 #[39, 53, 67, 81, 95, 105] (fun t9 => if t9 = 92 then mckO (mIn (N (12 * L + c)) 96) (some (.inl (some (mI (m₁ 0 0 2 (mix (N (12 * L + c)))))), m₁, rs)) else if t9 = 106 then mckO (mIn (N (12 * L + c)) 96) (some (.inl (some (mI (m₁ 0 0 3 (mix (N (12 * L + c)))))), m₁, rs)) else if t9 = 120 then mckO (mIn (N (12 * L + c)) 96) (some (.inl (some (mI (m₁ 0 0 4 (mix (N (12 * L + c)))))), m₁, rs)) else if t9 = 134 then mckO (mIn (N (12 * L + c)) 96) (some (.inl (some (mI (m₁ 0 0 5 (mix (N (12 * L + c)))))), m₁, rs)) else if t9 = 148 then bI (F24 0 (N (12 * L + c)) m₁ rs) (fun v7 m7 r7 => some (.inl (some (mI v7)), m7, r7)) else if t9 = 158 then mckO (mIn (N (12 * L + c)) 96) (some (.inl (some (mI (m₁ 2 2 1 (mix (N (12 * L + c)))))), m₁, rs)) else if t9 = 169 then bI (F23 0 (N (12 * L + c)) m₁ rs) (fun v6 m6 r6 => some (.inl (some (mI v6)), m6, r6)) else none) := fun rs => by
      rw [e₁, e₂, ccE81 qr (by omega) (by omega), ccBi, ccE51s b₁ b₂, g, ccBi, ccT_t, ccIf1, a₁, ccBv, sp]
    have mdl : ∀ rs, bI (F198 x y (ccM0 m₁) rs) (fun v4 m4 r4 => mifO (decide (v4 ≠ (N 0))) (bV (F213 m4 r4) (fun m5 r5 => bI (F200 x y m5 r5) (fun v6 m6 r6 => mTswO z 57 49 4 6 #[27, 34, 42] (fun t9 => if t9 = 84 then bI (F219 v6 m6 r6) (fun v9 m9 r9 => some (.inl (some (mI v9)), m9, r9)) else if t9 = 91 then mckO (mIn v6 96) (some (.inl (some (mI (m6 4 0 12 (mix v6)))), m6, r6)) else if t9 = 99 then bI (F218 v6 m6 r6) (fun v8 m8 r8 => some (.inl (some (mI v8)), m8, r8)) else if t9 = 106 then bI (F201 v6 z m6 r6) (fun v7 m7 r7 => some (.inl (some (mI v7)), m7, r7)) else none)))) (some (.inl (some (mI (I (-1)))), m4, r4))) = mTswO z 57 49 4 6 #[27, 34, 42] (fun t9 => if t9 = 84 then bI (F219 (N (12 * L + c)) m₂ rs) (fun v9 m9 r9 => some (.inl (some (mI v9)), m9, r9)) else if t9 = 91 then mckO (mIn (N (12 * L + c)) 96) (some (.inl (some (mI (m₂ 4 0 12 (mix (N (12 * L + c)))))), m₂, rs)) else if t9 = 99 then bI (F218 (N (12 * L + c)) m₂ rs) (fun v8 m8 r8 => some (.inl (some (mI v8)), m8, r8)) else if t9 = 106 then bI (F201 (N (12 * L + c)) z m₂ rs) (fun v7 m7 r7 => some (.inl (some (mI v7)), m7, r7)) else none) := fun rs => by
      rw [e₁, e₂, ccE198' wm₁ (by omega) (by omega), g, ccBi, ccT_t, ccIf1, c₁, ccBv, ccE200, ccBi]
    have e₈ : a = 0 ∨ a = 1 ∨ a = 2 ∨ a = 3 ∨ a = 4 ∨ a = 5 ∨ a = 6 := by omega
    rcases e₈ with y₁ | y₁ | y₁ | y₁ | y₁ | y₁ | y₁ <;> subst y₁
    · refine ccOk_r2 (v := m 0 0 2 (12 * L + c)) h₁ (fun rs => Eq.trans (cls rs) ?_) (fun rs => Eq.trans (mdl rs) ?_) a₂ c₂
      · rw [e₅, ccTw121_0]
        simp (disch := omega) only [z₀, true_and, and_true, false_and, and_false, if_true, if_false, ccIte, ccBi, ccBiX, ccBv, ccBvX, ccZ0, ccZ1, ccTZ, ccT0, ccT1, Bool.or_false, ccMckT, ccMckIn, ne_eq, not_true_eq_false, not_false_eq_true, if_pos, if_neg, reduceIte, eq_self, Bool.false_eq_true, Bool.true_eq_false, mix_N, N_add, N_mul, N_sub, N_div, ccMod, N_lt, N_le, N_eq, ccNm, ccMN, ccNm2, ccM2N, ccMM2, ccM2M, ccMlt, ccMle, ccNltM, ccNleM, ccM2lt, ccM2le, ccNlt2, ccNle2, Nat.reduceAdd, Nat.reduceMul, Nat.reduceSub, Nat.reduceLT, Nat.reduceLeDiff, Nat.reduceEqDiff, Nat.reduceDiv, Nat.reduceMod]
      · rw [e₅, ccTw240_0]
        simp (disch := omega) only [ccE201a, r₁, true_and, and_true, false_and, and_false, if_true, if_false, ccIte, ccBi, ccBiX, ccBv, ccBvX, ccZ0, ccZ1, ccTZ, ccT0, ccT1, Bool.or_false, ccMckT, ccMckIn, ne_eq, not_true_eq_false, not_false_eq_true, if_pos, if_neg, reduceIte, eq_self, Bool.false_eq_true, Bool.true_eq_false, mix_N, N_add, N_mul, N_sub, N_div, ccMod, N_lt, N_le, N_eq, ccNm, ccMN, ccNm2, ccM2N, ccMM2, ccM2M, ccMlt, ccMle, ccNltM, ccNleM, ccM2lt, ccM2le, ccNlt2, ccNle2, Nat.reduceAdd, Nat.reduceMul, Nat.reduceSub, Nat.reduceLT, Nat.reduceLeDiff, Nat.reduceEqDiff, Nat.reduceDiv, Nat.reduceMod]
    · refine ccOk_r2 (v := m 0 0 3 (12 * L + c)) h₁ (fun rs => Eq.trans (cls rs) ?_) (fun rs => Eq.trans (mdl rs) ?_) a₂ c₂
      · rw [e₅, ccTw121_1]
        simp (disch := omega) only [z₀, true_and, and_true, false_and, and_false, if_true, if_false, ccIte, ccBi, ccBiX, ccBv, ccBvX, ccZ0, ccZ1, ccTZ, ccT0, ccT1, Bool.or_false, ccMckT, ccMckIn, ne_eq, not_true_eq_false, not_false_eq_true, if_pos, if_neg, reduceIte, eq_self, Bool.false_eq_true, Bool.true_eq_false, mix_N, N_add, N_mul, N_sub, N_div, ccMod, N_lt, N_le, N_eq, ccNm, ccMN, ccNm2, ccM2N, ccMM2, ccM2M, ccMlt, ccMle, ccNltM, ccNleM, ccM2lt, ccM2le, ccNlt2, ccNle2, Nat.reduceAdd, Nat.reduceMul, Nat.reduceSub, Nat.reduceLT, Nat.reduceLeDiff, Nat.reduceEqDiff, Nat.reduceDiv, Nat.reduceMod]
      · rw [e₅, ccTw240_1]
        simp (disch := omega) only [ccE201b, r₄, true_and, and_true, false_and, and_false, if_true, if_false, ccIte, ccBi, ccBiX, ccBv, ccBvX, ccZ0, ccZ1, ccTZ, ccT0, ccT1, Bool.or_false, ccMckT, ccMckIn, ne_eq, not_true_eq_false, not_false_eq_true, if_pos, if_neg, reduceIte, eq_self, Bool.false_eq_true, Bool.true_eq_false, mix_N, N_add, N_mul, N_sub, N_div, ccMod, N_lt, N_le, N_eq, ccNm, ccMN, ccNm2, ccM2N, ccMM2, ccM2M, ccMlt, ccMle, ccNltM, ccNleM, ccM2lt, ccM2le, ccNlt2, ccNle2, Nat.reduceAdd, Nat.reduceMul, Nat.reduceSub, Nat.reduceLT, Nat.reduceLeDiff, Nat.reduceEqDiff, Nat.reduceDiv, Nat.reduceMod]
    · refine ccOk_r2 (v := m 0 0 4 (12 * L + c)) h₁ (fun rs => Eq.trans (cls rs) ?_) (fun rs => Eq.trans (mdl rs) ?_) a₂ c₂
      · rw [e₅, ccTw121_2]
        simp (disch := omega) only [z₀, true_and, and_true, false_and, and_false, if_true, if_false, ccIte, ccBi, ccBiX, ccBv, ccBvX, ccZ0, ccZ1, ccTZ, ccT0, ccT1, Bool.or_false, ccMckT, ccMckIn, ne_eq, not_true_eq_false, not_false_eq_true, if_pos, if_neg, reduceIte, eq_self, Bool.false_eq_true, Bool.true_eq_false, mix_N, N_add, N_mul, N_sub, N_div, ccMod, N_lt, N_le, N_eq, ccNm, ccMN, ccNm2, ccM2N, ccMM2, ccM2M, ccMlt, ccMle, ccNltM, ccNleM, ccM2lt, ccM2le, ccNlt2, ccNle2, Nat.reduceAdd, Nat.reduceMul, Nat.reduceSub, Nat.reduceLT, Nat.reduceLeDiff, Nat.reduceEqDiff, Nat.reduceDiv, Nat.reduceMod]
      · rw [e₅, ccTw240_2]
        simp (disch := omega) only [ccE201c, r₅, true_and, and_true, false_and, and_false, if_true, if_false, ccIte, ccBi, ccBiX, ccBv, ccBvX, ccZ0, ccZ1, ccTZ, ccT0, ccT1, Bool.or_false, ccMckT, ccMckIn, ne_eq, not_true_eq_false, not_false_eq_true, if_pos, if_neg, reduceIte, eq_self, Bool.false_eq_true, Bool.true_eq_false, mix_N, N_add, N_mul, N_sub, N_div, ccMod, N_lt, N_le, N_eq, ccNm, ccMN, ccNm2, ccM2N, ccMM2, ccM2M, ccMlt, ccMle, ccNltM, ccNleM, ccM2lt, ccM2le, ccNlt2, ccNle2, Nat.reduceAdd, Nat.reduceMul, Nat.reduceSub, Nat.reduceLT, Nat.reduceLeDiff, Nat.reduceEqDiff, Nat.reduceDiv, Nat.reduceMod]
    · refine ccOk_r2 (v := m 0 0 5 (12 * L + c)) h₁ (fun rs => Eq.trans (cls rs) ?_) (fun rs => Eq.trans (mdl rs) ?_) a₂ c₂
      · rw [e₅, ccTw121_3]
        simp (disch := omega) only [z₀, true_and, and_true, false_and, and_false, if_true, if_false, ccIte, ccBi, ccBiX, ccBv, ccBvX, ccZ0, ccZ1, ccTZ, ccT0, ccT1, Bool.or_false, ccMckT, ccMckIn, ne_eq, not_true_eq_false, not_false_eq_true, if_pos, if_neg, reduceIte, eq_self, Bool.false_eq_true, Bool.true_eq_false, mix_N, N_add, N_mul, N_sub, N_div, ccMod, N_lt, N_le, N_eq, ccNm, ccMN, ccNm2, ccM2N, ccMM2, ccM2M, ccMlt, ccMle, ccNltM, ccNleM, ccM2lt, ccM2le, ccNlt2, ccNle2, Nat.reduceAdd, Nat.reduceMul, Nat.reduceSub, Nat.reduceLT, Nat.reduceLeDiff, Nat.reduceEqDiff, Nat.reduceDiv, Nat.reduceMod]
      · rw [e₅, ccTw240_3]
        simp (disch := omega) only [ccE201d, r₆, true_and, and_true, false_and, and_false, if_true, if_false, ccIte, ccBi, ccBiX, ccBv, ccBvX, ccZ0, ccZ1, ccTZ, ccT0, ccT1, Bool.or_false, ccMckT, ccMckIn, ne_eq, not_true_eq_false, not_false_eq_true, if_pos, if_neg, reduceIte, eq_self, Bool.false_eq_true, Bool.true_eq_false, mix_N, N_add, N_mul, N_sub, N_div, ccMod, N_lt, N_le, N_eq, ccNm, ccMN, ccNm2, ccM2N, ccMM2, ccM2M, ccMlt, ccMle, ccNltM, ccNleM, ccM2lt, ccM2le, ccNlt2, ccNle2, Nat.reduceAdd, Nat.reduceMul, Nat.reduceSub, Nat.reduceLT, Nat.reduceLeDiff, Nat.reduceEqDiff, Nat.reduceDiv, Nat.reduceMod]
    · refine ccOk_r2 (v := ccStp (m 0 0) (12 * L + c)) h₁ (fun rs => Eq.trans (cls rs) ?_) (fun rs => Eq.trans (mdl rs) ?_) a₂ c₂
      · rw [e₅, ccTw121_4]
        simp (disch := omega) only [ccE24 z₀ cd b₃ b₄ g₀, true_and, and_true, false_and, and_false, if_true, if_false, ccIte, ccBi, ccBiX, ccBv, ccBvX, ccZ0, ccZ1, ccTZ, ccT0, ccT1, Bool.or_false, ccMckT, ccMckIn, ne_eq, not_true_eq_false, not_false_eq_true, if_pos, if_neg, reduceIte, eq_self, Bool.false_eq_true, Bool.true_eq_false, mix_N, N_add, N_mul, N_sub, N_div, ccMod, N_lt, N_le, N_eq, ccNm, ccMN, ccNm2, ccM2N, ccMM2, ccM2M, ccMlt, ccMle, ccNltM, ccNleM, ccM2lt, ccM2le, ccNlt2, ccNle2, Nat.reduceAdd, Nat.reduceMul, Nat.reduceSub, Nat.reduceLT, Nat.reduceLeDiff, Nat.reduceEqDiff, Nat.reduceDiv, Nat.reduceMod]
      · rw [e₅, ccTw240_4]
        simp (disch := omega) only [ccE219 wm cd ss b₄ g₀, true_and, and_true, false_and, and_false, if_true, if_false, ccIte, ccBi, ccBiX, ccBv, ccBvX, ccZ0, ccZ1, ccTZ, ccT0, ccT1, Bool.or_false, ccMckT, ccMckIn, ne_eq, not_true_eq_false, not_false_eq_true, if_pos, if_neg, reduceIte, eq_self, Bool.false_eq_true, Bool.true_eq_false, mix_N, N_add, N_mul, N_sub, N_div, ccMod, N_lt, N_le, N_eq, ccNm, ccMN, ccNm2, ccM2N, ccMM2, ccM2M, ccMlt, ccMle, ccNltM, ccNleM, ccM2lt, ccM2le, ccNlt2, ccNle2, Nat.reduceAdd, Nat.reduceMul, Nat.reduceSub, Nat.reduceLT, Nat.reduceLeDiff, Nat.reduceEqDiff, Nat.reduceDiv, Nat.reduceMod]
    · refine ccOk_r2 (v := N (ccPL W (m 0 0) w l (7 - L) L c)) h₁ (fun rs => Eq.trans (cls rs) ?_) (fun rs => Eq.trans (mdl rs) ?_) a₂ c₂
      · rw [e₅, ccTw121_5]
        simp (disch := omega) only [d₁, true_and, and_true, false_and, and_false, if_true, if_false, ccIte, ccBi, ccBiX, ccBv, ccBvX, ccZ0, ccZ1, ccTZ, ccT0, ccT1, Bool.or_false, ccMckT, ccMckIn, ne_eq, not_true_eq_false, not_false_eq_true, if_pos, if_neg, reduceIte, eq_self, Bool.false_eq_true, Bool.true_eq_false, mix_N, N_add, N_mul, N_sub, N_div, ccMod, N_lt, N_le, N_eq, ccNm, ccMN, ccNm2, ccM2N, ccMM2, ccM2M, ccMlt, ccMle, ccNltM, ccNleM, ccM2lt, ccM2le, ccNlt2, ccNle2, Nat.reduceAdd, Nat.reduceMul, Nat.reduceSub, Nat.reduceLT, Nat.reduceLeDiff, Nat.reduceEqDiff, Nat.reduceDiv, Nat.reduceMod]
      · rw [e₅, ccTw240_5]
        simp (disch := omega) only [d₂, true_and, and_true, false_and, and_false, if_true, if_false, ccIte, ccBi, ccBiX, ccBv, ccBvX, ccZ0, ccZ1, ccTZ, ccT0, ccT1, Bool.or_false, ccMckT, ccMckIn, ne_eq, not_true_eq_false, not_false_eq_true, if_pos, if_neg, reduceIte, eq_self, Bool.false_eq_true, Bool.true_eq_false, mix_N, N_add, N_mul, N_sub, N_div, ccMod, N_lt, N_le, N_eq, ccNm, ccMN, ccNm2, ccM2N, ccMM2, ccM2M, ccMlt, ccMle, ccNltM, ccNleM, ccM2lt, ccM2le, ccNlt2, ccNle2, Nat.reduceAdd, Nat.reduceMul, Nat.reduceSub, Nat.reduceLT, Nat.reduceLeDiff, Nat.reduceEqDiff, Nat.reduceDiv, Nat.reduceMod]
    · refine ccOk_r2 (v := ccRv W (m 0 0) w l (12 * L + c)) h₁ (fun rs => Eq.trans (cls rs) ?_) (fun rs => Eq.trans (mdl rs) ?_) a₂ c₂
      · rw [e₅, ccTw121_6]
        simp (disch := omega) only [ccE23 z₀ cd b₃ b₄ g₀ a₃ pl, true_and, and_true, false_and, and_false, if_true, if_false, ccIte, ccBi, ccBiX, ccBv, ccBvX, ccZ0, ccZ1, ccTZ, ccT0, ccT1, Bool.or_false, ccMckT, ccMckIn, ne_eq, not_true_eq_false, not_false_eq_true, if_pos, if_neg, reduceIte, eq_self, Bool.false_eq_true, Bool.true_eq_false, mix_N, N_add, N_mul, N_sub, N_div, ccMod, N_lt, N_le, N_eq, ccNm, ccMN, ccNm2, ccM2N, ccMM2, ccM2M, ccMlt, ccMle, ccNltM, ccNleM, ccM2lt, ccM2le, ccNlt2, ccNle2, Nat.reduceAdd, Nat.reduceMul, Nat.reduceSub, Nat.reduceLT, Nat.reduceLeDiff, Nat.reduceEqDiff, Nat.reduceDiv, Nat.reduceMod]
      · rw [e₅, ccTw240_6]
        simp (disch := omega) only [ccE218 wm cd ss b₄ g₀ c₃ pl, true_and, and_true, false_and, and_false, if_true, if_false, ccIte, ccBi, ccBiX, ccBv, ccBvX, ccZ0, ccZ1, ccTZ, ccT0, ccT1, Bool.or_false, ccMckT, ccMckIn, ne_eq, not_true_eq_false, not_false_eq_true, if_pos, if_neg, reduceIte, eq_self, Bool.false_eq_true, Bool.true_eq_false, mix_N, N_add, N_mul, N_sub, N_div, ccMod, N_lt, N_le, N_eq, ccNm, ccMN, ccNm2, ccM2N, ccMM2, ccM2M, ccMlt, ccMle, ccNltM, ccNleM, ccM2lt, ccM2le, ccNlt2, ccNle2, Nat.reduceAdd, Nat.reduceMul, Nat.reduceSub, Nat.reduceLT, Nat.reduceLeDiff, Nat.reduceEqDiff, Nat.reduceDiv, Nat.reduceMod]
theorem ccOk_123 {B : Nat} {m : mMi} {x y z : Int32} (h₁ : ccTop B m) : ccOk B (F123 x y z) (F242 x y z) [(1, 1), (2, 2), (3, 3)] m := by
  refine ccOk_place (b := N 0) h₁ (List.mem_cons_self) (List.mem_cons_of_mem _ List.mem_cons_self) (fun m rs => rfl) (fun m rs => rfl) (fun w l n bd lm dp cl β W L c h₂ e₁ e₂ e₃ e₄ => ?_)
  refine ccOk_rng (c := 3) (b := N 0) h₁ (List.mem_cons_of_mem _ (List.mem_cons_of_mem _ List.mem_cons_self)) (by omega) (by omega) (by omega) (by omega) (fun m rs => rfl) (fun m rs => rfl) (fun a e₅ _ e₇ => ?_)
  have qr : ccRu m 0 w l n := h₂.2.2.1.1
  have b₁ : w ≤ 12 := qr.2.2.2.2.1
  have b₂ : l ≤ 8 := qr.2.2.2.2.2.2.1
  have b₃ : n ≤ 40 := qr.2.2.2.2.2.2.2
  cases g : ccHF (m 0 0) w l L c
  · refine ccOk_r0 (v := I (-1)) h₁ (fun rs => ?_) (fun rs => ?_)
    · show bI (F81 0 x y m rs) _ = _
      rw [e₁, e₂, ccE81 qr (by omega) (by omega), ccBi, ccE52s b₁ b₂, g, ccBi, ccT_f, ccIf0]
    · show bI (F202 x y (ccM0 m) rs) _ = _
      rw [e₁, e₂, ccE202' (ccLd_wm0 h₂) (by omega) (by omega), g, ccBi, ccT_f, ccIf0]
  · obtain ⟨m₁, m₂, a₁, a₂, a₃, z₀, c₁, c₂, c₃, wm, ss, cd, pl, wm₁, wc, wk⟩ := ccLoads h₂
    obtain ⟨_, _, g₀⟩ := ccHF_t g
    have sp : ccSp w l L c = N (12 * L + c) := if_pos ⟨e₃, e₄⟩
    have b₄ : 12 * L + c < 96 := by omega
    obtain ⟨_, r₁, _⟩ := wm.2.1 (12 * L + c) b₄
    have d₁ := (a₃ L c (7 - L) (by omega) (by omega) e₃ e₄).2 g
    have d₂ := (c₃ L c (7 - L) (by omega) (by omega) e₃ e₄).2
    have d₃ := ccFL_le cd wk b₁ b₂ b₃ (7 - L + 1) L c
    obtain ⟨u, hu⟩ : ∃ u, u = ccFL W (m 0 0) w l (7 - L + 1) L c := ⟨_, rfl⟩
    rw [← hu] at d₁ d₂ d₃
    have b₅ : u < 1000000 := by omega
    have n₁ : (N 1 = N 0) = False := by rw [N_eq (by omega) (by omega)]; exact propext ⟨fun h => absurd h (by omega), False.elim⟩
    have e₈ : a = 0 ∨ a = 1 ∨ a = 2 ∨ a = 3 := by omega
    rcases e₈ with y₁ | y₁ | y₁ | y₁ <;> subst y₁
    · refine ccOk_r2 (v := m 0 0 6 (12 * L + c)) h₁ (fun rs => ?_) (fun rs => ?_) a₂ c₂
      · show bI (F81 0 x y m rs) _ = _
        rw [e₁, e₂, ccE81 qr (by omega) (by omega), ccBi, ccE52s b₁ b₂, g, ccBi, ccT_t, ccIf1, a₁, ccBv, sp, e₅, ccTw123_0]
        simp (disch := omega) only [z₀, true_and, and_true, false_and, and_false, if_true, if_false, ccIte, ccBi, ccBiX, ccBv, ccBvX, ccZ0, ccZ1, ccTZ, ccT0, ccT1, Bool.or_false, ccMckT, ccMckIn, ne_eq, not_true_eq_false, not_false_eq_true, if_pos, if_neg, reduceIte, eq_self, Bool.false_eq_true, Bool.true_eq_false, mix_N, N_add, N_mul, N_sub, N_div, ccMod, N_lt, N_le, N_eq, ccNm, ccMN, ccNm2, ccM2N, ccMM2, ccM2M, ccMlt, ccMle, ccNltM, ccNleM, ccM2lt, ccM2le, ccNlt2, ccNle2, Nat.reduceAdd, Nat.reduceMul, Nat.reduceSub, Nat.reduceLT, Nat.reduceLeDiff, Nat.reduceEqDiff, Nat.reduceDiv, Nat.reduceMod]
      · show bI (F202 x y (ccM0 m₁) rs) _ = _
        rw [e₁, e₂, ccE202' wm₁ (by omega) (by omega), g, ccBi, ccT_t, ccIf1, c₁, ccBv, ccE200, ccBi, e₅]
        simp (disch := omega) only [ccE200, r₁, true_and, and_true, false_and, and_false, if_true, if_false, ccIte, ccBi, ccBiX, ccBv, ccBvX, ccZ0, ccZ1, ccTZ, ccT0, ccT1, Bool.or_false, ccMckT, ccMckIn, ne_eq, not_true_eq_false, not_false_eq_true, if_pos, if_neg, reduceIte, eq_self, Bool.false_eq_true, Bool.true_eq_false, mix_N, N_add, N_mul, N_sub, N_div, ccMod, N_lt, N_le, N_eq, ccNm, ccMN, ccNm2, ccM2N, ccMM2, ccM2M, ccMlt, ccMle, ccNltM, ccNleM, ccM2lt, ccM2le, ccNlt2, ccNle2, Nat.reduceAdd, Nat.reduceMul, Nat.reduceSub, Nat.reduceLT, Nat.reduceLeDiff, Nat.reduceEqDiff, Nat.reduceDiv, Nat.reduceMod]
    · refine ccOk_r2 (v := N u) h₁ (fun rs => ?_) (fun rs => ?_) a₂ c₂
      · show bI (F81 0 x y m rs) _ = _
        rw [e₁, e₂, ccE81 qr (by omega) (by omega), ccBi, ccE52s b₁ b₂, g, ccBi, ccT_t, ccIf1, a₁, ccBv, sp, e₅, ccTw123_1]
        simp (disch := omega) only [d₁, true_and, and_true, false_and, and_false, if_true, if_false, ccIte, ccBi, ccBiX, ccBv, ccBvX, ccZ0, ccZ1, ccTZ, ccT0, ccT1, Bool.or_false, ccMckT, ccMckIn, ne_eq, not_true_eq_false, not_false_eq_true, if_pos, if_neg, reduceIte, eq_self, Bool.false_eq_true, Bool.true_eq_false, mix_N, N_add, N_mul, N_sub, N_div, ccMod, N_lt, N_le, N_eq, ccNm, ccMN, ccNm2, ccM2N, ccMM2, ccM2M, ccMlt, ccMle, ccNltM, ccNleM, ccM2lt, ccM2le, ccNlt2, ccNle2, Nat.reduceAdd, Nat.reduceMul, Nat.reduceSub, Nat.reduceLT, Nat.reduceLeDiff, Nat.reduceEqDiff, Nat.reduceDiv, Nat.reduceMod]
      · show bI (F202 x y (ccM0 m₁) rs) _ = _
        rw [e₁, e₂, ccE202' wm₁ (by omega) (by omega), g, ccBi, ccT_t, ccIf1, c₁, ccBv, ccE200, ccBi, e₅]
        simp (disch := omega) only [d₂, true_and, and_true, false_and, and_false, if_true, if_false, ccIte, ccBi, ccBiX, ccBv, ccBvX, ccZ0, ccZ1, ccTZ, ccT0, ccT1, Bool.or_false, ccMckT, ccMckIn, ne_eq, not_true_eq_false, not_false_eq_true, if_pos, if_neg, reduceIte, eq_self, Bool.false_eq_true, Bool.true_eq_false, mix_N, N_add, N_mul, N_sub, N_div, ccMod, N_lt, N_le, N_eq, ccNm, ccMN, ccNm2, ccM2N, ccMM2, ccM2M, ccMlt, ccMle, ccNltM, ccNleM, ccM2lt, ccM2le, ccNlt2, ccNle2, Nat.reduceAdd, Nat.reduceMul, Nat.reduceSub, Nat.reduceLT, Nat.reduceLeDiff, Nat.reduceEqDiff, Nat.reduceDiv, Nat.reduceMod]
    · refine ccOk_r2 (v := N (u - u / 2)) h₁ (fun rs => ?_) (fun rs => ?_) a₂ c₂
      · show bI (F81 0 x y m rs) _ = _
        rw [e₁, e₂, ccE81 qr (by omega) (by omega), ccBi, ccE52s b₁ b₂, g, ccBi, ccT_t, ccIf1, a₁, ccBv, sp, e₅, ccTw123_2]
        simp (disch := omega) only [d₁, ccE109, true_and, and_true, false_and, and_false, if_true, if_false, ccIte, ccBi, ccBiX, ccBv, ccBvX, ccZ0, ccZ1, ccTZ, ccT0, ccT1, Bool.or_false, ccMckT, ccMckIn, ne_eq, not_true_eq_false, not_false_eq_true, if_pos, if_neg, reduceIte, eq_self, Bool.false_eq_true, Bool.true_eq_false, mix_N, N_add, N_mul, N_sub, N_div, ccMod, N_lt, N_le, N_eq, ccNm, ccMN, ccNm2, ccM2N, ccMM2, ccM2M, ccMlt, ccMle, ccNltM, ccNleM, ccM2lt, ccM2le, ccNlt2, ccNle2, Nat.reduceAdd, Nat.reduceMul, Nat.reduceSub, Nat.reduceLT, Nat.reduceLeDiff, Nat.reduceEqDiff, Nat.reduceDiv, Nat.reduceMod]
      · show bI (F202 x y (ccM0 m₁) rs) _ = _
        rw [e₁, e₂, ccE202' wm₁ (by omega) (by omega), g, ccBi, ccT_t, ccIf1, c₁, ccBv, ccE200, ccBi, e₅]
        simp (disch := omega) only [d₂, ccE215, true_and, and_true, false_and, and_false, if_true, if_false, ccIte, ccBi, ccBiX, ccBv, ccBvX, ccZ0, ccZ1, ccTZ, ccT0, ccT1, Bool.or_false, ccMckT, ccMckIn, ne_eq, not_true_eq_false, not_false_eq_true, if_pos, if_neg, reduceIte, eq_self, Bool.false_eq_true, Bool.true_eq_false, mix_N, N_add, N_mul, N_sub, N_div, ccMod, N_lt, N_le, N_eq, ccNm, ccMN, ccNm2, ccM2N, ccMM2, ccM2M, ccMlt, ccMle, ccNltM, ccNleM, ccM2lt, ccM2le, ccNlt2, ccNle2, Nat.reduceAdd, Nat.reduceMul, Nat.reduceSub, Nat.reduceLT, Nat.reduceLeDiff, Nat.reduceEqDiff, Nat.reduceDiv, Nat.reduceMod]
    · have b₆ : u - (u - u / 2) = u / 2 := by omega
      refine ccOk_r2 (v := N (u / 2)) h₁ (fun rs => ?_) (fun rs => ?_) a₂ c₂
      · show bI (F81 0 x y m rs) _ = _
        rw [e₁, e₂, ccE81 qr (by omega) (by omega), ccBi, ccE52s b₁ b₂, g, ccBi, ccT_t, ccIf1, a₁, ccBv, sp, e₅, ccTw123_3]
        simp (disch := omega) only [d₁, ccE108, true_and, and_true, false_and, and_false, if_true, if_false, ccIte, ccBi, ccBiX, ccBv, ccBvX, ccZ0, ccZ1, ccTZ, ccT0, ccT1, Bool.or_false, ccMckT, ccMckIn, ne_eq, not_true_eq_false, not_false_eq_true, if_pos, if_neg, reduceIte, eq_self, Bool.false_eq_true, Bool.true_eq_false, mix_N, N_add, N_mul, N_sub, N_div, ccMod, N_lt, N_le, N_eq, ccNm, ccMN, ccNm2, ccM2N, ccMM2, ccM2M, ccMlt, ccMle, ccNltM, ccNleM, ccM2lt, ccM2le, ccNlt2, ccNle2, Nat.reduceAdd, Nat.reduceMul, Nat.reduceSub, Nat.reduceLT, Nat.reduceLeDiff, Nat.reduceEqDiff, Nat.reduceDiv, Nat.reduceMod]
      · show bI (F202 x y (ccM0 m₁) rs) _ = _
        rw [e₁, e₂, ccE202' wm₁ (by omega) (by omega), g, ccBi, ccT_t, ccIf1, c₁, ccBv, ccE200, ccBi, e₅]
        simp (disch := omega) only [d₂, ccE215, b₆, true_and, and_true, false_and, and_false, if_true, if_false, ccIte, ccBi, ccBiX, ccBv, ccBvX, ccZ0, ccZ1, ccTZ, ccT0, ccT1, Bool.or_false, ccMckT, ccMckIn, ne_eq, not_true_eq_false, not_false_eq_true, if_pos, if_neg, reduceIte, eq_self, Bool.false_eq_true, Bool.true_eq_false, mix_N, N_add, N_mul, N_sub, N_div, ccMod, N_lt, N_le, N_eq, ccNm, ccMN, ccNm2, ccM2N, ccMM2, ccM2M, ccMlt, ccMle, ccNltM, ccNleM, ccM2lt, ccM2le, ccNlt2, ccNle2, Nat.reduceAdd, Nat.reduceMul, Nat.reduceSub, Nat.reduceLT, Nat.reduceLeDiff, Nat.reduceEqDiff, Nat.reduceDiv, Nat.reduceMod]
theorem ccOk_135 {B : Nat} {m : mMi} {x : Int32} (h₁ : ccTop B m) : ccOk B (F135 x) (F259 x) [(1, 1), (2, 2)] m := by
  refine ccOk_place (x := N 0) (b := N 0) h₁ (List.mem_cons_self) (List.mem_cons_of_mem _ List.mem_cons_self) (fun m rs => rfl) (fun m rs => rfl) (fun w l n bd lm dp cl β W L c h₂ e₁ e₂ e₃ e₄ => ?_)
  have qr : ccRu m 0 w l n := h₂.2.2.1.1
  have b₁ : w ≤ 12 := qr.2.2.2.2.1
  have b₂ : l ≤ 8 := qr.2.2.2.2.2.2.1
  have b₃ : n ≤ 40 := qr.2.2.2.2.2.2.2
  have e₅ : L = 0 := Eq.symm (ccNinj e₁ (by omega) (by omega))
  subst e₅
  cases g : ccHP (m 0 0) w l 0 c
  · refine ccOk_r0 (v := N 0) h₁ (fun rs => ?_) (fun rs => ?_)
    · show bI (F81 0 (N 0) x m rs) _ = _
      rw [e₂, ccE81 qr (by omega) (by omega), ccBi, ccE51s b₁ b₂, g, ccBi, ccT_f, ccIf0]
    · show bI (F198 (N 0) x (ccM0 m) rs) _ = _
      rw [e₂, ccE198' (ccLd_wm0 h₂) (by omega) (by omega), g, ccBi, ccT_f, ccIf0]
  · obtain ⟨m₁, m₂, a₁, a₂, a₃, z₀, c₁, c₂, c₃, wm, ss, cd, pl, wm₁, wc, wk⟩ := ccLoads h₂
    obtain ⟨_, _, g₀⟩ := ccHP_t g
    have sp : ccSp w l 0 c = N (12 * 0 + c) := if_pos ⟨e₃, e₄⟩
    have sq : 12 * 0 + c = c := by omega
    have d₁ := (a₃ 0 c 7 (by omega) (by omega) e₃ e₄).1
    have d₂ := (c₃ 0 c 7 (by omega) (by omega) e₃ e₄).1 g
    rw [sq] at d₁ d₂ g₀ sp
    have g₁ : ccP (m 0 0) c = true := by unfold ccP; rw [decide_eq_false g₀]; rfl
    have g₂ : ccWP W (m 0 0) c = W (mix (m 0 0 2 c)) + W (mix (m 0 0 3 c)) := by unfold ccWP; rw [g₁]; rfl
    refine ccOk_r2 (v := N (ccPL W (m 0 0) w l 7 0 c) + N (ccWP W (m 0 0) c)) h₁ (fun rs => ?_) (fun rs => ?_) a₂ c₂
    · show bI (F81 0 (N 0) x m rs) _ = _
      rw [e₂, ccE81 qr (by omega) (by omega), ccBi, ccE51s b₁ b₂, g, ccBi, ccT_t, ccIf1, a₁, ccBv, sp, ccE22 z₀ wc.2.1 cd b₃ (by omega : c < 96), ccBi, ccMckIn (by omega : c < 96) (by omega), mix_N (by omega), d₁]
    · show bI (F198 (N 0) x (ccM0 m₁) rs) _ = _
      rw [e₂, ccE198' wm₁ (by omega) (by omega), g, ccBi, ccT_t, ccIf1, c₁, ccBv, ccE216 wm cd (by omega : c < 96) g₀, ccBi, ccMckIn (by omega : c < 96) (by omega), mix_N (by omega), d₂, g₂]
