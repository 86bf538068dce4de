/-! LOOKS: what the class answers. -/
theorem kwI_wt {m : mMi} {r : mRs} {B w l n lm dp cl bd T Z D : Nat} {β : Nat → Int32} {W : Nat → Nat} (q : kwI m r B w l n lm dp cl bd β W T Z D) : ccWt m 0 n W := by
  obtain ⟨h, t, j₀, c₀⟩ := q.1
  obtain ⟨mm, q₀⟩ := j₀.1
  exact q₀.2.2.1
theorem kwE129 {m : mMi} {r : mRs} (h₀ : m 2 0 0 10 = N 1) : F129 m r = rI (ccTopv (ccP (m 0 0)) 96 0 (I (-1))) m r := by
  obtain ⟨g, hg⟩ := ccFU (k := 96) (by omega)
  unfold F129
  rw [kwE114 h₀, ccBv, hg]
  exact ccL129 96 0 g _ r (by omega)
theorem kwE130 {m : mMi} {r : mRs} {B w l n lm dp cl bd T Z D : Nat} {β : Nat → Int32} {W : Nat → Nat} (q : kwI m r B w l n lm dp cl bd β W T Z D) : ∃ m₁, ccFs m m₁ ∧ ∀ rs, F130 m rs = rI (ccCode (ccBst (ccP (m 0 0)) (ccLtR W (m 0 0) w l) 96 0 (I (-1)))) m₁ rs := by
  obtain ⟨h₀, qr⟩ := kwI_0 q
  have b₃ : n ≤ 40 := qr.2.2.2.2.2.2.2
  obtain ⟨m₁, a₁, a₂, a₃, z₀⟩ := kwI_L q
  obtain ⟨s, gg, kk, cd, _⟩ := kwI_U q
  obtain ⟨pl, wk, _⟩ := kwI_P q
  obtain ⟨g, hg⟩ := ccFU (k := 96) (by omega)
  have is := ccBst_is (P := ccP (m 0 0)) (lt := ccLtR W (m 0 0) w l) 96 0 (I (-1)) (by omega) (Or.inl rfl)
  have f₁ : ∀ rs, F31 0 m rs = rI (ccBst (ccP (m 0 0)) (ccLtR W (m 0 0) w l) 96 0 (I (-1))) m₁ rs := fun rs => by
    unfold F31
    rw [a₁, ccBv, hg]
    exact ccL31 z₀ cd b₃ a₃ pl 96 0 g _ rs (by omega) (Or.inl rfl)
  refine ⟨m₁, a₂, fun rs => ?_⟩
  unfold F130
  rw [kwE114 h₀, ccBv, f₁, ccBi, ccE131 is, ccBi]
theorem kwE132 {m : mMi} {r : mRs} (h₀ : m 2 0 0 10 = N 1) : F132 m r = rI (ccCode (ccBst (ccP (m 0 0)) (ccLtW (m 0 0)) 96 0 (I (-1)))) m r := by
  obtain ⟨g, hg⟩ := ccFU (k := 96) (by omega)
  have is := ccBst_is (P := ccP (m 0 0)) (lt := ccLtW (m 0 0)) 96 0 (I (-1)) (by omega) (Or.inl rfl)
  have f₁ : F56 0 m r = rI (ccBst (ccP (m 0 0)) (ccLtW (m 0 0)) 96 0 (I (-1))) m r := by
    unfold F56
    rw [hg]
    exact ccL56 rfl 96 0 g _ r (by omega) (Or.inl rfl)
  unfold F132
  rw [kwE114 h₀, ccBv, f₁, ccBi, ccE131 is, ccBi]
theorem kwE136 {m : mMi} {r : mRs} {B w l n lm dp cl bd T Z D : Nat} {β : Nat → Int32} {W : Nat → Nat} (q : kwI m r B w l n lm dp cl bd β W T Z D) : F136 m r = rI (ccSum (ccW1 (fun k => N (W k)) (m 0 0)) 96) m r := by
  obtain ⟨h₀, qr⟩ := kwI_0 q
  obtain ⟨s, gg, kk, cd, _⟩ := kwI_U q
  unfold F136
  rw [kwE114 h₀, ccBv, ccE33 rfl (kwI_wt q) cd qr.2.2.2.2.2.2.2, ccBi]
theorem kwE135 {m : mMi} {r : mRs} {B w l n lm dp cl bd T Z D c : Nat} {β : Nat → Int32} {W : Nat → Nat} (q : kwI m r B w l n lm dp cl bd β W T Z D) (h₂ : c < w) : ∃ m₁, ccFs m m₁ ∧ ∀ rs, F135 (N c) m rs = rI (if ccHP (m 0 0) w l 0 c = true then N (ccPL W (m 0 0) w l 7 0 c) + N (ccWP W (m 0 0) c) else N 0) m₁ rs := by
  obtain ⟨h₀, qr⟩ := kwI_0 q
  have b₁ : w ≤ 12 := qr.2.2.2.2.1
  have b₀ : 1 ≤ l := qr.2.2.2.2.2.1
  have b₂ : l ≤ 8 := qr.2.2.2.2.2.2.1
  have b₃ : n ≤ 40 := qr.2.2.2.2.2.2.2
  have h₃ : 0 + c < w := by omega
  cases g : ccHP (m 0 0) w l 0 c
  · refine ⟨m, fun _ _ _ _ _ => rfl, fun rs => ?_⟩
    unfold F135
    rw [ccE122t h₀ qr (by omega) h₃, ccBv, ccE81 qr (by omega) (by omega), ccBi, ccE51s b₁ b₂, g, ccBi, ccT_f, ccIf0, if_neg (by intro y; cases y)]
  · obtain ⟨m₁, a₁, a₂, a₃, z₀⟩ := kwI_L q
    obtain ⟨s, gg, kk, cd, _⟩ := kwI_U q
    obtain ⟨_, _, g₀⟩ := ccHP_t g
    have sp : ccSp w l 0 c = N (12 * 0 + c) := if_pos ⟨by omega, h₃⟩
    have sq : 12 * 0 + c = c := by omega
    have d₁ := (a₃ 0 c 7 (by omega) (by omega) (by omega) h₃).1
    rw [sq] at d₁ g₀ sp
    have wt₁ : ccWt m₁ 0 n W := kwI_wt (kwI_sc q a₂)
    refine ⟨m₁, a₂, fun rs => ?_⟩
    unfold F135
    rw [ccE122t h₀ qr (by omega) h₃, ccBv, ccE81 qr (by omega) (by omega), ccBi, ccE51s b₁ b₂, g, ccBi, ccT_t, ccIf1, a₁, ccBv, sp, ccE22 z₀ wt₁ cd b₃ (by omega : c < 96), ccBi, ccMckIn (by omega : c < 96) (by omega), mix_N (by omega), d₁, if_pos rfl]
theorem kwE137z {m : mMi} {r : mRs} (h₀ : m 2 0 0 10 = N 1) (g : ccCnt (ccP (m 0 0)) 96 = 0) : F137 m r = some (.inl (some (mD 0)), m, r) := by
  unfold F137
  rw [kwE114 h₀, ccBv, ccE54, g, ccBi, ccIf0]
theorem kwE137 {m : mMi} {r : mRs} {B w l n lm dp cl bd T Z D : Nat} {β : Nat → Int32} {W : Nat → Nat} (q : kwI m r B w l n lm dp cl bd β W T Z D) (g : 0 < ccCnt (ccP (m 0 0)) 96) : ∃ m₁, ccFs m m₁ ∧ ∀ rs, F137 m rs = some (.inl (some (mD (FP.ddiv (FP.i2d (ccSmr (ccP (m 0 0)) (ccRv W (m 0 0) w l) 96 0 (N 0))) (FP.i2d (N (ccCnt (ccP (m 0 0)) 96)))))), m₁, rs) := by
  obtain ⟨h₀, qr⟩ := kwI_0 q
  have b₃ : n ≤ 40 := qr.2.2.2.2.2.2.2
  obtain ⟨m₁, a₁, a₂, a₃, z₀⟩ := kwI_L q
  obtain ⟨s, gg, kk, cd, _⟩ := kwI_U q
  obtain ⟨pl, wk, _⟩ := kwI_P q
  obtain ⟨f, hf⟩ := ccFU (k := 96) (by omega)
  have z₁ : N (ccCnt (ccP (m 0 0)) 96) ≠ N 0 := by
    have y₁ := ccCnt_le (f := ccP (m 0 0)) 96
    rw [ne_eq, N_eq (by omega) (by omega)]
    omega
  have e₁ : (!(isNaN64 (FP.ddiv (FP.i2d (ccSmr (ccP (m 0 0)) (ccRv W (m 0 0) w l) 96 0 (N 0))) (FP.i2d (N (ccCnt (ccP (m 0 0)) 96)))))) = true := by rw [ccDiv64 g (ccCnt_le 96)]; rfl
  have e₂ : ∀ rs, F34 0 m rs = rI (ccSmr (ccP (m 0 0)) (ccRv W (m 0 0) w l) 96 0 (N 0)) m₁ rs := fun rs => by
    unfold F34
    rw [a₁, ccBv, hf]
    exact ccL34 z₀ cd b₃ a₃ pl 96 0 f _ rs (by omega)
  refine ⟨m₁, a₂, fun rs => ?_⟩
  unfold F137
  rw [kwE114 h₀, ccBv, ccE54, ccBi, ccIte, if_pos z₁, e₂, ccBi, ccMck e₁]
theorem kwE138 {m : mMi} {r : mRs} {w l n : Nat} (h₀ : m 2 0 0 10 = N 1) (qr : ccRu m 0 w l n) : F138 m r = some (.inl (some (mF (FP.fdiv (FP.i2f (N (ccCnt (ccP (m 0 0)) 96))) (FP.i2f (N (ccS (ccCol w l) 8)))))), m, r) := by
  obtain ⟨s₁, s₂⟩ := ccS_pos (w := w) (l := l) qr.2.2.2.1 qr.2.2.2.2.2.1 qr.2.2.2.2.1
  obtain ⟨d₁, d₂⟩ := ccDiv32 (x := N (ccCnt (ccP (m 0 0)) 96)) s₁ s₂
  have e₁ : (!(isNaN32 (FP.fdiv (FP.i2f (N (ccCnt (ccP (m 0 0)) 96))) (FP.i2f (N (ccS (ccCol w l) 8)))))) = true := by rw [d₁]; rfl
  have z₁ : N (ccS (ccCol w l) 8) ≠ N 0 := by
    rw [ne_eq, N_eq (by omega) (by omega)]
    omega
  unfold F138
  rw [kwE114 h₀, ccBv, ccE83 qr, ccBi, ccIte, if_pos z₁, ccE54, ccBi, ccMck e₁]
