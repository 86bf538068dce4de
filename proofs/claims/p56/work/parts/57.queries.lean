/-! CALLS: count, setting, top and the like. -/
theorem ccIf0 {x y : mRz} : mifO (decide (N 0 ≠ N 0)) x y = y := rfl
theorem ccIf1 {x y : mRz} : mifO (decide (N 1 ≠ N 0)) x y = x := rfl
theorem ccIf0e {x y : mRz} : mifO (decide (N 0 = N 0)) x y = x := rfl
theorem ccIf1e {x y : mRz} : mifO (decide (N 1 = N 0)) x y = y := rfl
theorem ccT_t : ccT true = N 1 := rfl
theorem ccT_f : ccT false = N 0 := rfl
/-- a loaded state, opened -/
theorem ccLd_R {B : Nat} {m : mMi} {w l n bd lm dp cl : Nat} {β : Nat → Int32} {W : Nat → Nat} (q : ccLd B m w l n bd lm dp cl β W) : ∃ h t, ccR ccX0 n β (fun k => N (W k)) h t (m 0 0) (m 4 0 3) ∧ ccPlc w l (m 0 0) ∧ ccStd (m 0 0) ∧ ccQt W (m 0 0) w l ∧ ccQn (N lm) (m 0 0) ∧ t ≤ B := q.2.2.2.1
theorem ccE46 {m : mMi} {rs : mRs} {i c : Nat} (h₁ : c < 4) : F46 i (N c) m rs = rI (m 0 i 9 c) m rs := by
  unfold F46
  simp (disch := omega) only [true_and, and_true, false_and, and_false, if_true, if_false, ccIte, ccBi, ccBiX, ccBv, ccBvX, ccZ0, ccZ1, ccTZ, ccT0, ccT1, Bool.or_false, ccMckT, ccMckIn, ne_eq, not_true_eq_false, not_false_eq_true, if_pos, if_neg, reduceIte, eq_self, Bool.false_eq_true, Bool.true_eq_false, mix_N, N_add, N_mul, N_sub, N_div, ccMod, N_lt, N_le, N_eq, ccNm, ccMN, ccNm2, ccM2N, ccMM2, ccM2M, ccMlt, ccMle, ccNltM, ccNleM, ccM2lt, ccM2le, ccNlt2, ccNle2, Nat.reduceAdd, Nat.reduceMul, Nat.reduceSub, Nat.reduceLT, Nat.reduceLeDiff, Nat.reduceEqDiff, Nat.reduceDiv, Nat.reduceMod]
theorem ccOk_116 {B : Nat} {m : mMi} {x : Int32} (h₁ : ccTop B m) : ccOk B (F116 x) (F231 x) [(1, 1), (3, 2)] m := by
  rcases h₁.2.2.2 with h₂ | ⟨w, l, n, bd, lm, dp, cl, β, W, h₂⟩
  · exact ccOk_un (b := N 0) h₁ h₂ (List.mem_cons_self) (fun rs e₁ => by unfold F116; rw [e₁]; rfl) (fun rs e₁ => by unfold F231; rw [e₁]; rfl)
  obtain ⟨h, t, q₁, q₂, q₃, q₄, q₅, q₆⟩ := ccLd_R h₂
  have qr : ccRu m 0 w l n := h₂.2.2.1.1
  have h₃ := ccLd_eq (ccEq_t (v := N 0) (ccEq_rfl (m₁ := m))) h₂
  have qm : ccMo (mset m 4 0 0 0 (N 0)) w l n := h₃.2.2.1.2.1
  have e₃ : mset m 4 0 0 0 (N 0) 4 0 3 = m 4 0 3 := by
    funext q
    rw [ccRd, if_neg (by omega)]
  have b₃ : n ≤ 40 := qr.2.2.2.2.2.2.2
  have hh := ccR_hh q₁
  have tt := ccR_tt q₁
  have he := q₁.2.2.2.2.1
  have out : ¬ (∃ a, x = N a ∧ a ≤ 12) → ccOk B (F116 x) (F231 x) [(1, 1), (3, 2)] m := fun g₁ => by
    refine ccOk_x (E := 3) (c := 2) (b := N 0) (m₂ := mset (mset m 4 0 0 0 (N 0)) 4 0 0 0 (N 2)) h₁ (List.mem_cons_of_mem _ List.mem_cons_self) (fun rs => ?_) (fun rs => ?_) ccT0s (ccEq_t (ccEq_t ccEq_rfl))
    · unfold F116
      rcases ccAny x with ⟨a, e₁, e₂⟩ | ⟨e₁, _⟩
      · rw [ccE114t h₂.1, e₁, ccBv, ccE117 e₂ (by omega) (by omega), if_neg (fun y₁ => g₁ ⟨a, e₁, y₁.2⟩), ccBvX]
      · rw [ccE114t h₂.1, ccBv, ccE117n e₁ (by omega), ccBvX]
    · unfold F231
      have e₄ : F177 x (N 0) (N 12) (mset m 4 0 0 0 (N 0)) rs = rI (N 0) (mset m 4 0 0 0 (N 0)) rs := by
        rcases ccAny x with ⟨a, e₁, e₂⟩ | ⟨e₁, _⟩
        · have e₅ : ¬ a ≤ 12 := fun y₁ => g₁ ⟨a, e₁, y₁⟩
          rw [e₁, ccE177' e₂ (by omega) (by omega), decide_eq_false e₅, Bool.and_false, ccT_f]
        · exact ccE177n e₁ (by omega)
      rw [ccE230t h₂.2.1, ccBi, ccIf0, e₄, ccBi, ccIf0, ccE178t ccT0s (by omega) (by omega), ccBi, ccIf1e]
  rcases ccAny x with ⟨a, e₁, e₂⟩ | ⟨e₁, _⟩
  rotate_left
  · exact out (fun ⟨a, y₁, y₂⟩ => by
      rw [y₁, N_lt (by omega) (by omega)] at e₁
      omega)
  by_cases g₁ : a ≤ 12
  rotate_left
  · exact out (fun ⟨b, y₁, y₂⟩ => g₁ (by
      have y₃ : a = b := ccNinj (by rw [← e₁, y₁]) e₂ (by omega)
      omega))
  subst e₁
  have cls : ∀ rs, F116 (N a) m rs = mTswO (N a) 12 155 0 12 #[68, 76, 87, 98, 109, 120, 128, 155, 155, 155, 155, 139, 147] (fun t9 => if t9 = 80 then some (.inl (some (mI (m 1 0 0 4))), m, rs) else if t9 = 88 then bI (F6 0 m rs) (fun v7 m7 r7 => some (.inl (some (mI v7)), m7, r7)) else if t9 = 99 then some (.inl (some (mI (m 0 0 10 5))), m, rs) else if t9 = 110 then bI (F54 0 m rs) (fun v6 m6 r6 => some (.inl (some (mI v6)), m6, r6)) else if t9 = 121 then bI (F55 0 m rs) (fun v5 m5 r5 => some (.inl (some (mI v5)), m5, r5)) else if t9 = 132 then some (.inl (some (mI (m 0 0 0 5))), m, rs) else if t9 = 140 then some (.inl (some (mI (m 0 0 7 2))), m, rs) else if t9 = 151 then some (.inl (some (mI (m 0 0 0 6))), m, rs) else if t9 = 159 then bI (F83 0 m rs) (fun v4 m4 r4 => some (.inl (some (mI v4)), m4, r4)) else if t9 = 167 then bI (F46 0 ((N a) - (N 7)) m rs) (fun v3 m3 r3 => some (.inl (some (mI v3)), m3, r3)) else none) := fun rs => by
    unfold F116
    rw [ccE114t h₂.1, ccBv, ccE117 (by omega) (by omega) (by omega), if_pos ⟨by omega, g₁⟩, ccBv]
  obtain ⟨M, hM⟩ : ∃ y, y = mset m 4 0 0 0 (N 0) := ⟨_, rfl⟩
  have thr : M 4 0 0 0 = N 0 := by rw [hM]; exact ccT0s
  rw [← hM] at qm e₃
  have mdl : ∀ rs, F231 (N a) m rs = mTswO (N a) 33 122 0 12 #[67, 72, 77, 85, 90, 95, 102, 122, 122, 122, 122, 109, 117] (fun t9 => if t9 = 100 then some (.inl (some (mI (M 4 0 0 8))), M, rs) else if t9 = 105 then bI (F232 M rs) (fun v7 m7 r7 => some (.inl (some (mI v7)), m7, r7)) else if t9 = 110 then some (.inl (some (mI (M 4 0 3 7))), M, rs) else if t9 = 118 then bI (F233 M rs) (fun v6 m6 r6 => some (.inl (some (mI v6)), m6, r6)) else if t9 = 123 then bI (F234 M rs) (fun v5 m5 r5 => some (.inl (some (mI v5)), m5, r5)) else if t9 = 128 then some (.inl (some (mI (M 4 0 3 0))), M, rs) else if t9 = 135 then some (.inl (some (mI (M 4 0 3 1))), M, rs) else if t9 = 142 then some (.inl (some (mI (M 4 0 3 6))), M, rs) else if t9 = 150 then bI (F235 M rs) (fun v4 m4 r4 => some (.inl (some (mI v4)), m4, r4)) else if t9 = 155 then mckO (mIn (((N 2) + (N a)) - (N 7)) 918) (some (.inl (some (mI (M 4 0 3 (mix (((N 2) + (N a)) - (N 7)))))), M, rs)) else none) := fun rs => by
    unfold F231
    have e₄ : F177 (N a) (N 0) (N 12) M rs = rI (N 1) M rs := by
      rw [ccE177' (by omega) (by omega) (by omega), decide_eq_true g₁, decide_eq_true (Nat.zero_le a)]
      rfl
    rw [ccE230t h₂.2.1, ← hM, ccBi, ccIf0, e₄, ccBi, ccIf1, ccE178f thr, ccBi, ccIf0e]
  have eM : ccEq m M := by rw [hM]; exact ccEq_t ccEq_rfl
  have g₂ : a = 0 ∨ a = 1 ∨ a = 2 ∨ a = 3 ∨ a = 4 ∨ a = 5 ∨ a = 6 ∨ a = 7 ∨ a = 8 ∨ a = 9 ∨ a = 10 ∨ a = 11 ∨ a = 12 := by omega
  rcases g₂ with g₂ | g₂ | g₂ | g₂ | g₂ | g₂ | g₂ | g₂ | g₂ | g₂ | g₂ | g₂ | g₂ <;> subst g₂
  · refine ccOk_q (v := N n) (m₁ := m) (m₂ := M) h₁ (fun rs => ?_) (fun rs => ?_) thr ccEq_rfl eM (fun _ _ _ => rfl)
    · rw [cls, ccTw116_0]
      simp (disch := omega) only [qr.2.2.1, true_and, and_true, false_and, and_false, if_true, if_false, ccIte, ccBi, ccBiX, ccBv, ccBvX, ccZ0, ccZ1, ccTZ, ccT0, ccT1, Bool.or_false, ccMckT, ccMckIn, ne_eq, not_true_eq_false, not_false_eq_true, if_pos, if_neg, reduceIte, eq_self, Bool.false_eq_true, Bool.true_eq_false, mix_N, N_add, N_mul, N_sub, N_div, ccMod, N_lt, N_le, N_eq, ccNm, ccMN, ccNm2, ccM2N, ccMM2, ccM2M, ccMlt, ccMle, ccNltM, ccNleM, ccM2lt, ccM2le, ccNlt2, ccNle2, Nat.reduceAdd, Nat.reduceMul, Nat.reduceSub, Nat.reduceLT, Nat.reduceLeDiff, Nat.reduceEqDiff, Nat.reduceDiv, Nat.reduceMod]
    · rw [mdl, ccTw231_0]
      simp (disch := omega) only [qm.2.2.1, true_and, and_true, false_and, and_false, if_true, if_false, ccIte, ccBi, ccBiX, ccBv, ccBvX, ccZ0, ccZ1, ccTZ, ccT0, ccT1, Bool.or_false, ccMckT, ccMckIn, ne_eq, not_true_eq_false, not_false_eq_true, if_pos, if_neg, reduceIte, eq_self, Bool.false_eq_true, Bool.true_eq_false, mix_N, N_add, N_mul, N_sub, N_div, ccMod, N_lt, N_le, N_eq, ccNm, ccMN, ccNm2, ccM2N, ccMM2, ccM2M, ccMlt, ccMle, ccNltM, ccNleM, ccM2lt, ccM2le, ccNlt2, ccNle2, Nat.reduceAdd, Nat.reduceMul, Nat.reduceSub, Nat.reduceLT, Nat.reduceLeDiff, Nat.reduceEqDiff, Nat.reduceDiv, Nat.reduceMod]
  · refine ccOk_q (v := N (ccCnt (ccHeld (m 0 0)) n)) (m₁ := m) (m₂ := M) h₁ (fun rs => ?_) (fun rs => ?_) thr ccEq_rfl eM (fun _ _ _ => rfl)
    · rw [cls, ccTw116_1]
      simp (disch := omega) only [ccE6 (i := 0) qr, true_and, and_true, false_and, and_false, if_true, if_false, ccIte, ccBi, ccBiX, ccBv, ccBvX, ccZ0, ccZ1, ccTZ, ccT0, ccT1, Bool.or_false, ccMckT, ccMckIn, ne_eq, not_true_eq_false, not_false_eq_true, if_pos, if_neg, reduceIte, eq_self, Bool.false_eq_true, Bool.true_eq_false, mix_N, N_add, N_mul, N_sub, N_div, ccMod, N_lt, N_le, N_eq, ccNm, ccMN, ccNm2, ccM2N, ccMM2, ccM2M, ccMlt, ccMle, ccNltM, ccNleM, ccM2lt, ccM2le, ccNlt2, ccNle2, Nat.reduceAdd, Nat.reduceMul, Nat.reduceSub, Nat.reduceLT, Nat.reduceLeDiff, Nat.reduceEqDiff, Nat.reduceDiv, Nat.reduceMod]
    · rw [mdl, ccTw231_1]
      simp (disch := omega) only [ccE232 (m := M) qm (by rw [e₃]; exact q₁.2.2.1), true_and, and_true, false_and, and_false, if_true, if_false, ccIte, ccBi, ccBiX, ccBv, ccBvX, ccZ0, ccZ1, ccTZ, ccT0, ccT1, Bool.or_false, ccMckT, ccMckIn, ne_eq, not_true_eq_false, not_false_eq_true, if_pos, if_neg, reduceIte, eq_self, Bool.false_eq_true, Bool.true_eq_false, mix_N, N_add, N_mul, N_sub, N_div, ccMod, N_lt, N_le, N_eq, ccNm, ccMN, ccNm2, ccM2N, ccMM2, ccM2M, ccMlt, ccMle, ccNltM, ccNleM, ccM2lt, ccM2le, ccNlt2, ccNle2, Nat.reduceAdd, Nat.reduceMul, Nat.reduceSub, Nat.reduceLT, Nat.reduceLeDiff, Nat.reduceEqDiff, Nat.reduceDiv, Nat.reduceMod]
  · refine ccOk_q (v := N h) (m₁ := m) (m₂ := M) h₁ (fun rs => ?_) (fun rs => ?_) thr ccEq_rfl eM (fun _ _ _ => rfl)
    · rw [cls, ccTw116_2]
      simp (disch := omega) only [hh.1, true_and, and_true, false_and, and_false, if_true, if_false, ccIte, ccBi, ccBiX, ccBv, ccBvX, ccZ0, ccZ1, ccTZ, ccT0, ccT1, Bool.or_false, ccMckT, ccMckIn, ne_eq, not_true_eq_false, not_false_eq_true, if_pos, if_neg, reduceIte, eq_self, Bool.false_eq_true, Bool.true_eq_false, mix_N, N_add, N_mul, N_sub, N_div, ccMod, N_lt, N_le, N_eq, ccNm, ccMN, ccNm2, ccM2N, ccMM2, ccM2M, ccMlt, ccMle, ccNltM, ccNleM, ccM2lt, ccM2le, ccNlt2, ccNle2, Nat.reduceAdd, Nat.reduceMul, Nat.reduceSub, Nat.reduceLT, Nat.reduceLeDiff, Nat.reduceEqDiff, Nat.reduceDiv, Nat.reduceMod]
    · rw [mdl, ccTw231_2]
      simp (disch := omega) only [e₃, hh.2, true_and, and_true, false_and, and_false, if_true, if_false, ccIte, ccBi, ccBiX, ccBv, ccBvX, ccZ0, ccZ1, ccTZ, ccT0, ccT1, Bool.or_false, ccMckT, ccMckIn, ne_eq, not_true_eq_false, not_false_eq_true, if_pos, if_neg, reduceIte, eq_self, Bool.false_eq_true, Bool.true_eq_false, mix_N, N_add, N_mul, N_sub, N_div, ccMod, N_lt, N_le, N_eq, ccNm, ccMN, ccNm2, ccM2N, ccMM2, ccM2M, ccMlt, ccMle, ccNltM, ccNleM, ccM2lt, ccM2le, ccNlt2, ccNle2, Nat.reduceAdd, Nat.reduceMul, Nat.reduceSub, Nat.reduceLT, Nat.reduceLeDiff, Nat.reduceEqDiff, Nat.reduceDiv, Nat.reduceMod]
  · refine ccOk_q (v := N (ccCnt (ccP (m 0 0)) 96)) (m₁ := m) (m₂ := M) h₁ (fun rs => ?_) (fun rs => ?_) thr ccEq_rfl eM (fun _ _ _ => rfl)
    · rw [cls, ccTw116_3]
      simp (disch := omega) only [ccE54, true_and, and_true, false_and, and_false, if_true, if_false, ccIte, ccBi, ccBiX, ccBv, ccBvX, ccZ0, ccZ1, ccTZ, ccT0, ccT1, Bool.or_false, ccMckT, ccMckIn, ne_eq, not_true_eq_false, not_false_eq_true, if_pos, if_neg, reduceIte, eq_self, Bool.false_eq_true, Bool.true_eq_false, mix_N, N_add, N_mul, N_sub, N_div, ccMod, N_lt, N_le, N_eq, ccNm, ccMN, ccNm2, ccM2N, ccMM2, ccM2M, ccMlt, ccMle, ccNltM, ccNleM, ccM2lt, ccM2le, ccNlt2, ccNle2, Nat.reduceAdd, Nat.reduceMul, Nat.reduceSub, Nat.reduceLT, Nat.reduceLeDiff, Nat.reduceEqDiff, Nat.reduceDiv, Nat.reduceMod]
    · rw [mdl, ccTw231_3]
      simp (disch := omega) only [ccE233 (m := M) (C := m 0 0) (by rw [e₃]; exact q₁.1), true_and, and_true, false_and, and_false, if_true, if_false, ccIte, ccBi, ccBiX, ccBv, ccBvX, ccZ0, ccZ1, ccTZ, ccT0, ccT1, Bool.or_false, ccMckT, ccMckIn, ne_eq, not_true_eq_false, not_false_eq_true, if_pos, if_neg, reduceIte, eq_self, Bool.false_eq_true, Bool.true_eq_false, mix_N, N_add, N_mul, N_sub, N_div, ccMod, N_lt, N_le, N_eq, ccNm, ccMN, ccNm2, ccM2N, ccMM2, ccM2M, ccMlt, ccMle, ccNltM, ccNleM, ccM2lt, ccM2le, ccNlt2, ccNle2, Nat.reduceAdd, Nat.reduceMul, Nat.reduceSub, Nat.reduceLT, Nat.reduceLeDiff, Nat.reduceEqDiff, Nat.reduceDiv, Nat.reduceMod]
  · refine ccOk_q (v := N (ccCnt (ccF (m 0 0)) 96)) (m₁ := m) (m₂ := M) h₁ (fun rs => ?_) (fun rs => ?_) thr ccEq_rfl eM (fun _ _ _ => rfl)
    · rw [cls, ccTw116_4]
      simp (disch := omega) only [ccE55, true_and, and_true, false_and, and_false, if_true, if_false, ccIte, ccBi, ccBiX, ccBv, ccBvX, ccZ0, ccZ1, ccTZ, ccT0, ccT1, Bool.or_false, ccMckT, ccMckIn, ne_eq, not_true_eq_false, not_false_eq_true, if_pos, if_neg, reduceIte, eq_self, Bool.false_eq_true, Bool.true_eq_false, mix_N, N_add, N_mul, N_sub, N_div, ccMod, N_lt, N_le, N_eq, ccNm, ccMN, ccNm2, ccM2N, ccMM2, ccM2M, ccMlt, ccMle, ccNltM, ccNleM, ccM2lt, ccM2le, ccNlt2, ccNle2, Nat.reduceAdd, Nat.reduceMul, Nat.reduceSub, Nat.reduceLT, Nat.reduceLeDiff, Nat.reduceEqDiff, Nat.reduceDiv, Nat.reduceMod]
    · rw [mdl, ccTw231_4]
      simp (disch := omega) only [ccE234 (m := M) (C := m 0 0) (by rw [e₃]; exact q₁.1), true_and, and_true, false_and, and_false, if_true, if_false, ccIte, ccBi, ccBiX, ccBv, ccBvX, ccZ0, ccZ1, ccTZ, ccT0, ccT1, Bool.or_false, ccMckT, ccMckIn, ne_eq, not_true_eq_false, not_false_eq_true, if_pos, if_neg, reduceIte, eq_self, Bool.false_eq_true, Bool.true_eq_false, mix_N, N_add, N_mul, N_sub, N_div, ccMod, N_lt, N_le, N_eq, ccNm, ccMN, ccNm2, ccM2N, ccMM2, ccM2M, ccMlt, ccMle, ccNltM, ccNleM, ccM2lt, ccM2le, ccNlt2, ccNle2, Nat.reduceAdd, Nat.reduceMul, Nat.reduceSub, Nat.reduceLT, Nat.reduceLeDiff, Nat.reduceEqDiff, Nat.reduceDiv, Nat.reduceMod]
  · refine ccOk_q (v := m 0 0 0 5) (m₁ := m) (m₂ := M) h₁ (fun rs => ?_) (fun rs => ?_) thr ccEq_rfl eM (fun _ _ _ => rfl)
    · rw [cls, ccTw116_5]
      simp (disch := omega) only [true_and, and_true, false_and, and_false, if_true, if_false, ccIte, ccBi, ccBiX, ccBv, ccBvX, ccZ0, ccZ1, ccTZ, ccT0, ccT1, Bool.or_false, ccMckT, ccMckIn, ne_eq, not_true_eq_false, not_false_eq_true, if_pos, if_neg, reduceIte, eq_self, Bool.false_eq_true, Bool.true_eq_false, mix_N, N_add, N_mul, N_sub, N_div, ccMod, N_lt, N_le, N_eq, ccNm, ccMN, ccNm2, ccM2N, ccMM2, ccM2M, ccMlt, ccMle, ccNltM, ccNleM, ccM2lt, ccM2le, ccNlt2, ccNle2, Nat.reduceAdd, Nat.reduceMul, Nat.reduceSub, Nat.reduceLT, Nat.reduceLeDiff, Nat.reduceEqDiff, Nat.reduceDiv, Nat.reduceMod]
    · rw [mdl, ccTw231_5]
      simp (disch := omega) only [e₃, he.2.2.2.2.1, true_and, and_true, false_and, and_false, if_true, if_false, ccIte, ccBi, ccBiX, ccBv, ccBvX, ccZ0, ccZ1, ccTZ, ccT0, ccT1, Bool.or_false, ccMckT, ccMckIn, ne_eq, not_true_eq_false, not_false_eq_true, if_pos, if_neg, reduceIte, eq_self, Bool.false_eq_true, Bool.true_eq_false, mix_N, N_add, N_mul, N_sub, N_div, ccMod, N_lt, N_le, N_eq, ccNm, ccMN, ccNm2, ccM2N, ccMM2, ccM2M, ccMlt, ccMle, ccNltM, ccNleM, ccM2lt, ccM2le, ccNlt2, ccNle2, Nat.reduceAdd, Nat.reduceMul, Nat.reduceSub, Nat.reduceLT, Nat.reduceLeDiff, Nat.reduceEqDiff, Nat.reduceDiv, Nat.reduceMod]
  · refine ccOk_q (v := N t) (m₁ := m) (m₂ := M) h₁ (fun rs => ?_) (fun rs => ?_) thr ccEq_rfl eM (fun _ _ _ => rfl)
    · rw [cls, ccTw116_6]
      simp (disch := omega) only [tt.1, true_and, and_true, false_and, and_false, if_true, if_false, ccIte, ccBi, ccBiX, ccBv, ccBvX, ccZ0, ccZ1, ccTZ, ccT0, ccT1, Bool.or_false, ccMckT, ccMckIn, ne_eq, not_true_eq_false, not_false_eq_true, if_pos, if_neg, reduceIte, eq_self, Bool.false_eq_true, Bool.true_eq_false, mix_N, N_add, N_mul, N_sub, N_div, ccMod, N_lt, N_le, N_eq, ccNm, ccMN, ccNm2, ccM2N, ccMM2, ccM2M, ccMlt, ccMle, ccNltM, ccNleM, ccM2lt, ccM2le, ccNlt2, ccNle2, Nat.reduceAdd, Nat.reduceMul, Nat.reduceSub, Nat.reduceLT, Nat.reduceLeDiff, Nat.reduceEqDiff, Nat.reduceDiv, Nat.reduceMod]
    · rw [mdl, ccTw231_6]
      simp (disch := omega) only [e₃, tt.2, true_and, and_true, false_and, and_false, if_true, if_false, ccIte, ccBi, ccBiX, ccBv, ccBvX, ccZ0, ccZ1, ccTZ, ccT0, ccT1, Bool.or_false, ccMckT, ccMckIn, ne_eq, not_true_eq_false, not_false_eq_true, if_pos, if_neg, reduceIte, eq_self, Bool.false_eq_true, Bool.true_eq_false, mix_N, N_add, N_mul, N_sub, N_div, ccMod, N_lt, N_le, N_eq, ccNm, ccMN, ccNm2, ccM2N, ccMM2, ccM2M, ccMlt, ccMle, ccNltM, ccNleM, ccM2lt, ccM2le, ccNlt2, ccNle2, Nat.reduceAdd, Nat.reduceMul, Nat.reduceSub, Nat.reduceLT, Nat.reduceLeDiff, Nat.reduceEqDiff, Nat.reduceDiv, Nat.reduceMod]
  · refine ccOk_q (v := m 0 0 9 0) (m₁ := m) (m₂ := M) h₁ (fun rs => ?_) (fun rs => ?_) thr ccEq_rfl eM (fun _ _ _ => rfl)
    · rw [cls, ccTw116_7]
      simp (disch := omega) only [ccE46, true_and, and_true, false_and, and_false, if_true, if_false, ccIte, ccBi, ccBiX, ccBv, ccBvX, ccZ0, ccZ1, ccTZ, ccT0, ccT1, Bool.or_false, ccMckT, ccMckIn, ne_eq, not_true_eq_false, not_false_eq_true, if_pos, if_neg, reduceIte, eq_self, Bool.false_eq_true, Bool.true_eq_false, mix_N, N_add, N_mul, N_sub, N_div, ccMod, N_lt, N_le, N_eq, ccNm, ccMN, ccNm2, ccM2N, ccMM2, ccM2M, ccMlt, ccMle, ccNltM, ccNleM, ccM2lt, ccM2le, ccNlt2, ccNle2, Nat.reduceAdd, Nat.reduceMul, Nat.reduceSub, Nat.reduceLT, Nat.reduceLeDiff, Nat.reduceEqDiff, Nat.reduceDiv, Nat.reduceMod]
    · rw [mdl, ccTw231_7]
      have z₁ : m 4 0 3 2 = m 0 0 9 0 := he.2.2.2.1 0 (by omega)
      simp (disch := omega) only [e₃, z₁, true_and, and_true, false_and, and_false, if_true, if_false, ccIte, ccBi, ccBiX, ccBv, ccBvX, ccZ0, ccZ1, ccTZ, ccT0, ccT1, Bool.or_false, ccMckT, ccMckIn, ne_eq, not_true_eq_false, not_false_eq_true, if_pos, if_neg, reduceIte, eq_self, Bool.false_eq_true, Bool.true_eq_false, mix_N, N_add, N_mul, N_sub, N_div, ccMod, N_lt, N_le, N_eq, ccNm, ccMN, ccNm2, ccM2N, ccMM2, ccM2M, ccMlt, ccMle, ccNltM, ccNleM, ccM2lt, ccM2le, ccNlt2, ccNle2, Nat.reduceAdd, Nat.reduceMul, Nat.reduceSub, Nat.reduceLT, Nat.reduceLeDiff, Nat.reduceEqDiff, Nat.reduceDiv, Nat.reduceMod]
  · refine ccOk_q (v := m 0 0 9 1) (m₁ := m) (m₂ := M) h₁ (fun rs => ?_) (fun rs => ?_) thr ccEq_rfl eM (fun _ _ _ => rfl)
    · rw [cls, ccTw116_8]
      simp (disch := omega) only [ccE46, true_and, and_true, false_and, and_false, if_true, if_false, ccIte, ccBi, ccBiX, ccBv, ccBvX, ccZ0, ccZ1, ccTZ, ccT0, ccT1, Bool.or_false, ccMckT, ccMckIn, ne_eq, not_true_eq_false, not_false_eq_true, if_pos, if_neg, reduceIte, eq_self, Bool.false_eq_true, Bool.true_eq_false, mix_N, N_add, N_mul, N_sub, N_div, ccMod, N_lt, N_le, N_eq, ccNm, ccMN, ccNm2, ccM2N, ccMM2, ccM2M, ccMlt, ccMle, ccNltM, ccNleM, ccM2lt, ccM2le, ccNlt2, ccNle2, Nat.reduceAdd, Nat.reduceMul, Nat.reduceSub, Nat.reduceLT, Nat.reduceLeDiff, Nat.reduceEqDiff, Nat.reduceDiv, Nat.reduceMod]
    · rw [mdl, ccTw231_8]
      have z₁ : m 4 0 3 3 = m 0 0 9 1 := he.2.2.2.1 1 (by omega)
      simp (disch := omega) only [e₃, z₁, true_and, and_true, false_and, and_false, if_true, if_false, ccIte, ccBi, ccBiX, ccBv, ccBvX, ccZ0, ccZ1, ccTZ, ccT0, ccT1, Bool.or_false, ccMckT, ccMckIn, ne_eq, not_true_eq_false, not_false_eq_true, if_pos, if_neg, reduceIte, eq_self, Bool.false_eq_true, Bool.true_eq_false, mix_N, N_add, N_mul, N_sub, N_div, ccMod, N_lt, N_le, N_eq, ccNm, ccMN, ccNm2, ccM2N, ccMM2, ccM2M, ccMlt, ccMle, ccNltM, ccNleM, ccM2lt, ccM2le, ccNlt2, ccNle2, Nat.reduceAdd, Nat.reduceMul, Nat.reduceSub, Nat.reduceLT, Nat.reduceLeDiff, Nat.reduceEqDiff, Nat.reduceDiv, Nat.reduceMod]
  · refine ccOk_q (v := m 0 0 9 2) (m₁ := m) (m₂ := M) h₁ (fun rs => ?_) (fun rs => ?_) thr ccEq_rfl eM (fun _ _ _ => rfl)
    · rw [cls, ccTw116_9]
      simp (disch := omega) only [ccE46, true_and, and_true, false_and, and_false, if_true, if_false, ccIte, ccBi, ccBiX, ccBv, ccBvX, ccZ0, ccZ1, ccTZ, ccT0, ccT1, Bool.or_false, ccMckT, ccMckIn, ne_eq, not_true_eq_false, not_false_eq_true, if_pos, if_neg, reduceIte, eq_self, Bool.false_eq_true, Bool.true_eq_false, mix_N, N_add, N_mul, N_sub, N_div, ccMod, N_lt, N_le, N_eq, ccNm, ccMN, ccNm2, ccM2N, ccMM2, ccM2M, ccMlt, ccMle, ccNltM, ccNleM, ccM2lt, ccM2le, ccNlt2, ccNle2, Nat.reduceAdd, Nat.reduceMul, Nat.reduceSub, Nat.reduceLT, Nat.reduceLeDiff, Nat.reduceEqDiff, Nat.reduceDiv, Nat.reduceMod]
    · rw [mdl, ccTw231_9]
      have z₁ : m 4 0 3 4 = m 0 0 9 2 := he.2.2.2.1 2 (by omega)
      simp (disch := omega) only [e₃, z₁, true_and, and_true, false_and, and_false, if_true, if_false, ccIte, ccBi, ccBiX, ccBv, ccBvX, ccZ0, ccZ1, ccTZ, ccT0, ccT1, Bool.or_false, ccMckT, ccMckIn, ne_eq, not_true_eq_false, not_false_eq_true, if_pos, if_neg, reduceIte, eq_self, Bool.false_eq_true, Bool.true_eq_false, mix_N, N_add, N_mul, N_sub, N_div, ccMod, N_lt, N_le, N_eq, ccNm, ccMN, ccNm2, ccM2N, ccMM2, ccM2M, ccMlt, ccMle, ccNltM, ccNleM, ccM2lt, ccM2le, ccNlt2, ccNle2, Nat.reduceAdd, Nat.reduceMul, Nat.reduceSub, Nat.reduceLT, Nat.reduceLeDiff, Nat.reduceEqDiff, Nat.reduceDiv, Nat.reduceMod]
  · refine ccOk_q (v := m 0 0 9 3) (m₁ := m) (m₂ := M) h₁ (fun rs => ?_) (fun rs => ?_) thr ccEq_rfl eM (fun _ _ _ => rfl)
    · rw [cls, ccTw116_10]
      simp (disch := omega) only [ccE46, true_and, and_true, false_and, and_false, if_true, if_false, ccIte, ccBi, ccBiX, ccBv, ccBvX, ccZ0, ccZ1, ccTZ, ccT0, ccT1, Bool.or_false, ccMckT, ccMckIn, ne_eq, not_true_eq_false, not_false_eq_true, if_pos, if_neg, reduceIte, eq_self, Bool.false_eq_true, Bool.true_eq_false, mix_N, N_add, N_mul, N_sub, N_div, ccMod, N_lt, N_le, N_eq, ccNm, ccMN, ccNm2, ccM2N, ccMM2, ccM2M, ccMlt, ccMle, ccNltM, ccNleM, ccM2lt, ccM2le, ccNlt2, ccNle2, Nat.reduceAdd, Nat.reduceMul, Nat.reduceSub, Nat.reduceLT, Nat.reduceLeDiff, Nat.reduceEqDiff, Nat.reduceDiv, Nat.reduceMod]
    · rw [mdl, ccTw231_10]
      have z₁ : m 4 0 3 5 = m 0 0 9 3 := he.2.2.2.1 3 (by omega)
      simp (disch := omega) only [e₃, z₁, true_and, and_true, false_and, and_false, if_true, if_false, ccIte, ccBi, ccBiX, ccBv, ccBvX, ccZ0, ccZ1, ccTZ, ccT0, ccT1, Bool.or_false, ccMckT, ccMckIn, ne_eq, not_true_eq_false, not_false_eq_true, if_pos, if_neg, reduceIte, eq_self, Bool.false_eq_true, Bool.true_eq_false, mix_N, N_add, N_mul, N_sub, N_div, ccMod, N_lt, N_le, N_eq, ccNm, ccMN, ccNm2, ccM2N, ccMM2, ccM2M, ccMlt, ccMle, ccNltM, ccNleM, ccM2lt, ccM2le, ccNlt2, ccNle2, Nat.reduceAdd, Nat.reduceMul, Nat.reduceSub, Nat.reduceLT, Nat.reduceLeDiff, Nat.reduceEqDiff, Nat.reduceDiv, Nat.reduceMod]
  · refine ccOk_q (v := m 0 0 0 6) (m₁ := m) (m₂ := M) h₁ (fun rs => ?_) (fun rs => ?_) thr ccEq_rfl eM (fun _ _ _ => rfl)
    · rw [cls, ccTw116_11]
      simp (disch := omega) only [true_and, and_true, false_and, and_false, if_true, if_false, ccIte, ccBi, ccBiX, ccBv, ccBvX, ccZ0, ccZ1, ccTZ, ccT0, ccT1, Bool.or_false, ccMckT, ccMckIn, ne_eq, not_true_eq_false, not_false_eq_true, if_pos, if_neg, reduceIte, eq_self, Bool.false_eq_true, Bool.true_eq_false, mix_N, N_add, N_mul, N_sub, N_div, ccMod, N_lt, N_le, N_eq, ccNm, ccMN, ccNm2, ccM2N, ccMM2, ccM2M, ccMlt, ccMle, ccNltM, ccNleM, ccM2lt, ccM2le, ccNlt2, ccNle2, Nat.reduceAdd, Nat.reduceMul, Nat.reduceSub, Nat.reduceLT, Nat.reduceLeDiff, Nat.reduceEqDiff, Nat.reduceDiv, Nat.reduceMod]
    · rw [mdl, ccTw231_11]
      simp (disch := omega) only [e₃, he.2.2.2.2.2.1, true_and, and_true, false_and, and_false, if_true, if_false, ccIte, ccBi, ccBiX, ccBv, ccBvX, ccZ0, ccZ1, ccTZ, ccT0, ccT1, Bool.or_false, ccMckT, ccMckIn, ne_eq, not_true_eq_false, not_false_eq_true, if_pos, if_neg, reduceIte, eq_self, Bool.false_eq_true, Bool.true_eq_false, mix_N, N_add, N_mul, N_sub, N_div, ccMod, N_lt, N_le, N_eq, ccNm, ccMN, ccNm2, ccM2N, ccMM2, ccM2M, ccMlt, ccMle, ccNltM, ccNleM, ccM2lt, ccM2le, ccNlt2, ccNle2, Nat.reduceAdd, Nat.reduceMul, Nat.reduceSub, Nat.reduceLT, Nat.reduceLeDiff, Nat.reduceEqDiff, Nat.reduceDiv, Nat.reduceMod]
  · refine ccOk_q (v := N (ccS (ccCol w l) 8)) (m₁ := m) (m₂ := M) h₁ (fun rs => ?_) (fun rs => ?_) thr ccEq_rfl eM (fun _ _ _ => rfl)
    · rw [cls, ccTw116_12]
      simp (disch := omega) only [ccE83 qr, true_and, and_true, false_and, and_false, if_true, if_false, ccIte, ccBi, ccBiX, ccBv, ccBvX, ccZ0, ccZ1, ccTZ, ccT0, ccT1, Bool.or_false, ccMckT, ccMckIn, ne_eq, not_true_eq_false, not_false_eq_true, if_pos, if_neg, reduceIte, eq_self, Bool.false_eq_true, Bool.true_eq_false, mix_N, N_add, N_mul, N_sub, N_div, ccMod, N_lt, N_le, N_eq, ccNm, ccMN, ccNm2, ccM2N, ccMM2, ccM2M, ccMlt, ccMle, ccNltM, ccNleM, ccM2lt, ccM2le, ccNlt2, ccNle2, Nat.reduceAdd, Nat.reduceMul, Nat.reduceSub, Nat.reduceLT, Nat.reduceLeDiff, Nat.reduceEqDiff, Nat.reduceDiv, Nat.reduceMod]
    · rw [mdl, ccTw231_12]
      simp (disch := omega) only [ccE235 qm, true_and, and_true, false_and, and_false, if_true, if_false, ccIte, ccBi, ccBiX, ccBv, ccBvX, ccZ0, ccZ1, ccTZ, ccT0, ccT1, Bool.or_false, ccMckT, ccMckIn, ne_eq, not_true_eq_false, not_false_eq_true, if_pos, if_neg, reduceIte, eq_self, Bool.false_eq_true, Bool.true_eq_false, mix_N, N_add, N_mul, N_sub, N_div, ccMod, N_lt, N_le, N_eq, ccNm, ccMN, ccNm2, ccM2N, ccMM2, ccM2M, ccMlt, ccMle, ccNltM, ccNleM, ccM2lt, ccM2le, ccNlt2, ccNle2, Nat.reduceAdd, Nat.reduceMul, Nat.reduceSub, Nat.reduceLT, Nat.reduceLeDiff, Nat.reduceEqDiff, Nat.reduceDiv, Nat.reduceMod]
