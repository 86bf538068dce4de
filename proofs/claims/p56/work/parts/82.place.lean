/-! THE LAW COMPARES the places: what the class answers. -/
theorem kwI_sc {m m₁ : mMi} {r : mRs} {B w l n lm dp cl bd T Z D : Nat} {β : Nat → Int32} {W : Nat → Nat} (q : kwI m r B w l n lm dp cl bd β W T Z D) (h : ccFs m m₁) : kwI m₁ r B w l n lm dp cl bd β W T Z D := by
  obtain ⟨q₁, q₂, ⟨i, q₃, q₆⟩, q₄, q₅⟩ := q
  exact ⟨kwT_cg q₁ (ccFs_0 h) (fun j p => h 1 0 j p (by omega)) (h 2 0 0 10 (by omega)) (fun p => h 2 5 0 p (by omega)) (fun f j p g => h f B j p (by omega)), kwZ_cg (h 0 0 0 5 (by omega)) q₂, ⟨i, by rw [h 7 0 0 1 (by omega)]; exact q₃, q₆⟩, q₄, q₅⟩
theorem kwI_L {m : mMi} {r : mRs} {B w l n lm dp cl bd T Z D : Nat} {β : Nat → Int32} {W : Nat → Nat} (q : kwI m r B w l n lm dp cl bd β W T Z D) : ∃ m₁, (∀ rs, F85 0 m rs = rV m₁ rs) ∧ ccFs m m₁ ∧ ccDone m₁ W (m 0 0) w l 0 ∧ m₁ 0 0 = m 0 0 := by
  obtain ⟨h, t, j₀, c₀⟩ := q.1
  obtain ⟨mm, q₀⟩ := j₀.1
  have b₂ : l ≤ 8 := q₀.1.1.2.2.2.2.2.2.1
  have b₁ : w ≤ 12 := q₀.1.1.2.2.2.2.1
  have cd : ccCd n (m 0 0) := ccCd_of q₀.1.2.2.2.2.2.1.2.1
  obtain ⟨m₁, c₁, c₂, c₃⟩ := ccE85 (ccStd_sup q₀.2.1 b₁ b₂) cd q₀.2.2.2.2 (ccJ_wc q₀)
  exact ⟨m₁, c₁, c₂, c₃, ccFs_0 c₂⟩
theorem kwI_P {m : mMi} {r : mRs} {B w l n lm dp cl bd T Z D : Nat} {β : Nat → Int32} {W : Nat → Nat} (q : kwI m r B w l n lm dp cl bd β W T Z D) : ccPlc w l (m 0 0) ∧ ccWok n W ∧ kwW m B n W := by
  obtain ⟨h, t, j₀, c₀⟩ := q.1
  obtain ⟨mm, q₀⟩ := j₀.1
  exact ⟨q₀.1.2.2.2.2.2.2.1, q₀.2.2.2.2, j₀.2.2.2⟩
/-- the seven numbers of a pair -/
def kwV7 (W : Nat → Nat) (C : Nat → Nat → Int32) (w l L c : Nat) : Nat → Int32
  | 0 => C 2 (12 * L + c)
  | 1 => C 3 (12 * L + c)
  | 2 => C 4 (12 * L + c)
  | 3 => C 5 (12 * L + c)
  | 4 => ccStp C (12 * L + c)
  | 5 => N (ccPL W C w l (7 - L) L c)
  | _ => ccRv W C w l (12 * L + c)
def kwV121 (W : Nat → Nat) (C : Nat → Nat → Int32) (w l L c e : Nat) : Int32 := if ccHP C w l L c = true then kwV7 W C w l L c e else I (-1)
theorem kwE121 {m : mMi} {r : mRs} {B w l n lm dp cl bd T Z D L c e : Nat} {β : Nat → Int32} {W : Nat → Nat} (q : kwI m r B w l n lm dp cl bd β W T Z D) (h₁ : L < l) (h₂ : L + c < w) (h₃ : e < 7) : ∃ m₁, ccFs m m₁ ∧ ∀ rs, F121 (N L) (N c) (N e) m rs = rI (kwV121 W (m 0 0) w l L c e) m₁ rs := by
  obtain ⟨h₀, qr⟩ := kwI_0 q
  have b₁ : w ≤ 12 := qr.2.2.2.2.1
  have b₂ : l ≤ 8 := qr.2.2.2.2.2.2.1
  have b₃ : n ≤ 40 := qr.2.2.2.2.2.2.2
  obtain ⟨s, g, kk, cd, _⟩ := kwI_U q
  obtain ⟨pl, wk, _⟩ := kwI_P q
  have sp : ccSp w l L c = N (12 * L + c) := if_pos ⟨h₁, h₂⟩
  have b₄ : 12 * L + c < 96 := by omega
  unfold kwV121
  cases g₁ : ccHP (m 0 0) w l L c
  · refine ⟨m, fun _ _ _ _ _ => rfl, fun rs => ?_⟩
    rw [if_neg (by intro y; cases y)]
    show bV (F122 (N L) (N c) m rs) _ = _
    rw [ccE122t h₀ qr h₁ h₂, ccBv, ccE117 (by omega) (by omega) (by omega), if_pos ⟨by omega, by omega⟩, ccBv, ccE81 qr (by omega) (by omega), ccBi, ccE51s b₁ b₂, g₁, ccBi, ccT_f, ccIf0]
  · obtain ⟨m₁, a₁, a₂, a₃, z₀⟩ := kwI_L q
    obtain ⟨_, _, g₀⟩ := ccHP_t g₁
    have d₁ := (a₃ L c (7 - L) (by omega) (by omega) h₁ h₂).1
    refine ⟨m₁, a₂, fun rs => ?_⟩
    rw [if_pos rfl]
    show bV (F122 (N L) (N c) m rs) _ = _
    rw [ccE122t h₀ qr h₁ h₂, ccBv, ccE117 (by omega) (by omega) (by omega), if_pos ⟨by omega, by omega⟩, ccBv, ccE81 qr (by omega) (by omega), ccBi, ccE51s b₁ b₂, g₁, ccBi, ccT_t, ccIf1, a₁, ccBv, sp]
    have g' : e = 0 ∨ e = 1 ∨ e = 2 ∨ e = 3 ∨ e = 4 ∨ e = 5 ∨ e = 6 := by omega
    rcases g' with rfl | rfl | rfl | rfl | rfl | rfl | rfl
    · rw [ccTw121_0]
      simp (disch := omega) only [z₀, true_and, and_true, false_and, and_false, if_true, if_false, ccIte, ccBi, ccBiX, ccBv, ccBvX, ccZ0, ccZ1, ccTZ, ccT0, ccT1, Bool.or_false, ccMckT, ccMckIn, ne_eq, not_true_eq_false, not_false_eq_true, if_pos, if_neg, reduceIte, eq_self, Bool.false_eq_true, Bool.true_eq_false, mix_N, N_add, N_mul, N_sub, N_div, ccMod, N_lt, N_le, N_eq, ccNm, ccMN, ccNm2, ccM2N, ccMM2, ccM2M, ccMlt, ccMle, ccNltM, ccNleM, ccM2lt, ccM2le, ccNlt2, ccNle2, Nat.reduceAdd, Nat.reduceMul, Nat.reduceSub, Nat.reduceLT, Nat.reduceLeDiff, Nat.reduceEqDiff, Nat.reduceDiv, Nat.reduceMod, kwV7]
    · rw [ccTw121_1]
      simp (disch := omega) only [z₀, true_and, and_true, false_and, and_false, if_true, if_false, ccIte, ccBi, ccBiX, ccBv, ccBvX, ccZ0, ccZ1, ccTZ, ccT0, ccT1, Bool.or_false, ccMckT, ccMckIn, ne_eq, not_true_eq_false, not_false_eq_true, if_pos, if_neg, reduceIte, eq_self, Bool.false_eq_true, Bool.true_eq_false, mix_N, N_add, N_mul, N_sub, N_div, ccMod, N_lt, N_le, N_eq, ccNm, ccMN, ccNm2, ccM2N, ccMM2, ccM2M, ccMlt, ccMle, ccNltM, ccNleM, ccM2lt, ccM2le, ccNlt2, ccNle2, Nat.reduceAdd, Nat.reduceMul, Nat.reduceSub, Nat.reduceLT, Nat.reduceLeDiff, Nat.reduceEqDiff, Nat.reduceDiv, Nat.reduceMod, kwV7]
    · rw [ccTw121_2]
      simp (disch := omega) only [z₀, true_and, and_true, false_and, and_false, if_true, if_false, ccIte, ccBi, ccBiX, ccBv, ccBvX, ccZ0, ccZ1, ccTZ, ccT0, ccT1, Bool.or_false, ccMckT, ccMckIn, ne_eq, not_true_eq_false, not_false_eq_true, if_pos, if_neg, reduceIte, eq_self, Bool.false_eq_true, Bool.true_eq_false, mix_N, N_add, N_mul, N_sub, N_div, ccMod, N_lt, N_le, N_eq, ccNm, ccMN, ccNm2, ccM2N, ccMM2, ccM2M, ccMlt, ccMle, ccNltM, ccNleM, ccM2lt, ccM2le, ccNlt2, ccNle2, Nat.reduceAdd, Nat.reduceMul, Nat.reduceSub, Nat.reduceLT, Nat.reduceLeDiff, Nat.reduceEqDiff, Nat.reduceDiv, Nat.reduceMod, kwV7]
    · rw [ccTw121_3]
      simp (disch := omega) only [z₀, true_and, and_true, false_and, and_false, if_true, if_false, ccIte, ccBi, ccBiX, ccBv, ccBvX, ccZ0, ccZ1, ccTZ, ccT0, ccT1, Bool.or_false, ccMckT, ccMckIn, ne_eq, not_true_eq_false, not_false_eq_true, if_pos, if_neg, reduceIte, eq_self, Bool.false_eq_true, Bool.true_eq_false, mix_N, N_add, N_mul, N_sub, N_div, ccMod, N_lt, N_le, N_eq, ccNm, ccMN, ccNm2, ccM2N, ccMM2, ccM2M, ccMlt, ccMle, ccNltM, ccNleM, ccM2lt, ccM2le, ccNlt2, ccNle2, Nat.reduceAdd, Nat.reduceMul, Nat.reduceSub, Nat.reduceLT, Nat.reduceLeDiff, Nat.reduceEqDiff, Nat.reduceDiv, Nat.reduceMod, kwV7]
    · rw [ccTw121_4]
      simp (disch := omega) only [ccE24 z₀ cd b₃ b₄ g₀, true_and, and_true, false_and, and_false, if_true, if_false, ccIte, ccBi, ccBiX, ccBv, ccBvX, ccZ0, ccZ1, ccTZ, ccT0, ccT1, Bool.or_false, ccMckT, ccMckIn, ne_eq, not_true_eq_false, not_false_eq_true, if_pos, if_neg, reduceIte, eq_self, Bool.false_eq_true, Bool.true_eq_false, mix_N, N_add, N_mul, N_sub, N_div, ccMod, N_lt, N_le, N_eq, ccNm, ccMN, ccNm2, ccM2N, ccMM2, ccM2M, ccMlt, ccMle, ccNltM, ccNleM, ccM2lt, ccM2le, ccNlt2, ccNle2, Nat.reduceAdd, Nat.reduceMul, Nat.reduceSub, Nat.reduceLT, Nat.reduceLeDiff, Nat.reduceEqDiff, Nat.reduceDiv, Nat.reduceMod, kwV7]
    · rw [ccTw121_5]
      simp (disch := omega) only [d₁, true_and, and_true, false_and, and_false, if_true, if_false, ccIte, ccBi, ccBiX, ccBv, ccBvX, ccZ0, ccZ1, ccTZ, ccT0, ccT1, Bool.or_false, ccMckT, ccMckIn, ne_eq, not_true_eq_false, not_false_eq_true, if_pos, if_neg, reduceIte, eq_self, Bool.false_eq_true, Bool.true_eq_false, mix_N, N_add, N_mul, N_sub, N_div, ccMod, N_lt, N_le, N_eq, ccNm, ccMN, ccNm2, ccM2N, ccMM2, ccM2M, ccMlt, ccMle, ccNltM, ccNleM, ccM2lt, ccM2le, ccNlt2, ccNle2, Nat.reduceAdd, Nat.reduceMul, Nat.reduceSub, Nat.reduceLT, Nat.reduceLeDiff, Nat.reduceEqDiff, Nat.reduceDiv, Nat.reduceMod, kwV7]
    · rw [ccTw121_6]
      simp (disch := omega) only [ccE23 z₀ cd b₃ b₄ g₀ a₃ pl, true_and, and_true, false_and, and_false, if_true, if_false, ccIte, ccBi, ccBiX, ccBv, ccBvX, ccZ0, ccZ1, ccTZ, ccT0, ccT1, Bool.or_false, ccMckT, ccMckIn, ne_eq, not_true_eq_false, not_false_eq_true, if_pos, if_neg, reduceIte, eq_self, Bool.false_eq_true, Bool.true_eq_false, mix_N, N_add, N_mul, N_sub, N_div, ccMod, N_lt, N_le, N_eq, ccNm, ccMN, ccNm2, ccM2N, ccMM2, ccM2M, ccMlt, ccMle, ccNltM, ccNleM, ccM2lt, ccM2le, ccNlt2, ccNle2, Nat.reduceAdd, Nat.reduceMul, Nat.reduceSub, Nat.reduceLT, Nat.reduceLeDiff, Nat.reduceEqDiff, Nat.reduceDiv, Nat.reduceMod, kwV7]
/-- the four numbers of a flat card -/
def kwV4 (C : Nat → Nat → Int32) (L c u : Nat) : Nat → Int32
  | 0 => C 6 (12 * L + c)
  | 1 => N u
  | 2 => N (u - u / 2)
  | _ => N (u / 2)
theorem kwE123f {m : mMi} {r : mRs} {w l n L c e : Nat} (h₀ : m 2 0 0 10 = N 1) (qr : ccRu m 0 w l n) (h₁ : L < l) (h₂ : L + c < w) (h₃ : e < 4) (g₁ : ccHF (m 0 0) w l L c = false) : F123 (N L) (N c) (N e) m r = rI (I (-1)) m r := by
  have b₁ : w ≤ 12 := qr.2.2.2.2.1
  have b₂ : l ≤ 8 := qr.2.2.2.2.2.2.1
  show bV (F122 (N L) (N c) m r) _ = _
  rw [ccE122t h₀ qr h₁ h₂, ccBv, ccE117 (by omega) (by omega) (by omega), if_pos ⟨by omega, by omega⟩, ccBv, ccE81 qr (by omega) (by omega), ccBi, ccE52s b₁ b₂, g₁, ccBi, ccT_f, ccIf0]
theorem kwE123 {m : mMi} {r : mRs} {B w l n lm dp cl bd T Z D L c e : Nat} {β : Nat → Int32} {W : Nat → Nat} (q : kwI m r B w l n lm dp cl bd β W T Z D) (h₁ : L < l) (h₂ : L + c < w) (h₃ : e < 4) (g₁ : ccHF (m 0 0) w l L c = true) : ∃ m₁, ccFs m m₁ ∧ ∀ rs, F123 (N L) (N c) (N e) m rs = rI (kwV4 (m 0 0) L c (ccFL W (m 0 0) w l (8 - L) L c) e) m₁ rs := by
  obtain ⟨h₀, qr⟩ := kwI_0 q
  have b₁ : w ≤ 12 := qr.2.2.2.2.1
  have b₂ : l ≤ 8 := qr.2.2.2.2.2.2.1
  have b₃ : n ≤ 40 := qr.2.2.2.2.2.2.2
  obtain ⟨s, g, kk, cd, _⟩ := kwI_U q
  obtain ⟨pl, wk, _⟩ := kwI_P q
  have sp : ccSp w l L c = N (12 * L + c) := if_pos ⟨h₁, h₂⟩
  have b₄ : 12 * L + c < 96 := by omega
  obtain ⟨m₁, a₁, a₂, a₃, z₀⟩ := kwI_L q
  have d₁ := (a₃ L c (7 - L) (by omega) (by omega) h₁ h₂).2 g₁
  have d₃ := ccFL_le cd wk b₁ b₂ b₃ (7 - L + 1) L c
  have e₁ : 7 - L + 1 = 8 - L := by omega
  rw [e₁] at d₁ d₃
  obtain ⟨u, hu⟩ : ∃ u, u = ccFL W (m 0 0) w l (8 - L) L c := ⟨_, rfl⟩
  rw [← hu] at d₁ d₃ ⊢
  have b₅ : u < 1000000 := by omega
  refine ⟨m₁, a₂, fun rs => ?_⟩
  show bV (F122 (N L) (N c) m rs) _ = _
  rw [ccE122t h₀ qr h₁ h₂, ccBv, ccE117 (by omega) (by omega) (by omega), if_pos ⟨by omega, by omega⟩, ccBv, ccE81 qr (by omega) (by omega), ccBi, ccE52s b₁ b₂, g₁, ccBi, ccT_t, ccIf1, a₁, ccBv, sp]
  have g' : e = 0 ∨ e = 1 ∨ e = 2 ∨ e = 3 := by omega
  rcases g' with rfl | rfl | rfl | rfl
  · rw [ccTw123_0]
    simp (disch := omega) only [z₀, true_and, and_true, false_and, and_false, if_true, if_false, ccIte, ccBi, ccBiX, ccBv, ccBvX, ccZ0, ccZ1, ccTZ, ccT0, ccT1, Bool.or_false, ccMckT, ccMckIn, ne_eq, not_true_eq_false, not_false_eq_true, if_pos, if_neg, reduceIte, eq_self, Bool.false_eq_true, Bool.true_eq_false, mix_N, N_add, N_mul, N_sub, N_div, ccMod, N_lt, N_le, N_eq, ccNm, ccMN, ccNm2, ccM2N, ccMM2, ccM2M, ccMlt, ccMle, ccNltM, ccNleM, ccM2lt, ccM2le, ccNlt2, ccNle2, Nat.reduceAdd, Nat.reduceMul, Nat.reduceSub, Nat.reduceLT, Nat.reduceLeDiff, Nat.reduceEqDiff, Nat.reduceDiv, Nat.reduceMod, kwV4]
  · rw [ccTw123_1]
    simp (disch := omega) only [d₁, true_and, and_true, false_and, and_false, if_true, if_false, ccIte, ccBi, ccBiX, ccBv, ccBvX, ccZ0, ccZ1, ccTZ, ccT0, ccT1, Bool.or_false, ccMckT, ccMckIn, ne_eq, not_true_eq_false, not_false_eq_true, if_pos, if_neg, reduceIte, eq_self, Bool.false_eq_true, Bool.true_eq_false, mix_N, N_add, N_mul, N_sub, N_div, ccMod, N_lt, N_le, N_eq, ccNm, ccMN, ccNm2, ccM2N, ccMM2, ccM2M, ccMlt, ccMle, ccNltM, ccNleM, ccM2lt, ccM2le, ccNlt2, ccNle2, Nat.reduceAdd, Nat.reduceMul, Nat.reduceSub, Nat.reduceLT, Nat.reduceLeDiff, Nat.reduceEqDiff, Nat.reduceDiv, Nat.reduceMod, kwV4]
  · rw [ccTw123_2]
    simp (disch := omega) only [d₁, ccE109, true_and, and_true, false_and, and_false, if_true, if_false, ccIte, ccBi, ccBiX, ccBv, ccBvX, ccZ0, ccZ1, ccTZ, ccT0, ccT1, Bool.or_false, ccMckT, ccMckIn, ne_eq, not_true_eq_false, not_false_eq_true, if_pos, if_neg, reduceIte, eq_self, Bool.false_eq_true, Bool.true_eq_false, mix_N, N_add, N_mul, N_sub, N_div, ccMod, N_lt, N_le, N_eq, ccNm, ccMN, ccNm2, ccM2N, ccMM2, ccM2M, ccMlt, ccMle, ccNltM, ccNleM, ccM2lt, ccM2le, ccNlt2, ccNle2, Nat.reduceAdd, Nat.reduceMul, Nat.reduceSub, Nat.reduceLT, Nat.reduceLeDiff, Nat.reduceEqDiff, Nat.reduceDiv, Nat.reduceMod, kwV4]
  · rw [ccTw123_3]
    simp (disch := omega) only [d₁, ccE108, true_and, and_true, false_and, and_false, if_true, if_false, ccIte, ccBi, ccBiX, ccBv, ccBvX, ccZ0, ccZ1, ccTZ, ccT0, ccT1, Bool.or_false, ccMckT, ccMckIn, ne_eq, not_true_eq_false, not_false_eq_true, if_pos, if_neg, reduceIte, eq_self, Bool.false_eq_true, Bool.true_eq_false, mix_N, N_add, N_mul, N_sub, N_div, ccMod, N_lt, N_le, N_eq, ccNm, ccMN, ccNm2, ccM2N, ccMM2, ccM2M, ccMlt, ccMle, ccNltM, ccNleM, ccM2lt, ccM2le, ccNlt2, ccNle2, Nat.reduceAdd, Nat.reduceMul, Nat.reduceSub, Nat.reduceLT, Nat.reduceLeDiff, Nat.reduceEqDiff, Nat.reduceDiv, Nat.reduceMod, kwV4]
theorem kwE190 {m : mMi} {rs : mRs} {B w l n lm dp cl bd L c : Nat} {W : Nat → Nat} {C : Nat → Nat → Int32} (hB : rs.2.1.1 B = true) (q : kwS m B w l n lm dp cl bd) (g : kwG m B C) (q₂ : ccCd n C) (q₃ : ccWok n W) (q₅ : kwW m B n W) (h₁ : L < 8) (h₂ : ccHF C w l L c = true) : H190 B (N L) (N c) m rs = rI (N (ccFL W C w l (8 - L) L c)) m rs := by
  unfold H190
  exact kwQs q g q₂ q₃ q₅ (8 - L) L c 24 rs hB (by omega) h₂ (by omega)
