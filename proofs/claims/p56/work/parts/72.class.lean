/-! CLASS: what it refuses, and what it does, one call. -/
theorem kwPl_no {w l L c : Nat} (h₁ : ¬ (L < l ∧ L + c < w)) (h₂ : L < 1000) (h₃ : c < 1000) (b₁ : w ≤ 12) (b₂ : l ≤ 8) : ¬ ccIsPl w l (N L) (N c) := fun ⟨L₁, c₁, e₁, e₂, e₃, e₄⟩ => by
  have e₅ := ccNinj e₁ (by omega) (by omega)
  have e₆ := ccNinj e₂ (by omega) (by omega)
  subst e₅ e₆
  exact h₁ ⟨e₃, e₄⟩
theorem kwN157p {m : mMi} {r : mRs} {w l n : Nat} {x y a b g : Int32} (h₀ : m 2 0 0 10 = N 1) (qr : ccRu m 0 w l n) (h : ¬ ccIsPl w l x y) : F157 x y a b g m r = rX 2 m (rsT r) := by
  show bV (F122 x y m r) _ = _
  rw [ccE122f h₀ qr h, ccBvX]
theorem kwN160p {m : mMi} {r : mRs} {w l n : Nat} {x y : Int32} (h₀ : m 2 0 0 10 = N 1) (qr : ccRu m 0 w l n) (h : ¬ ccIsPl w l x y) : F160 x y m r = rX 2 m (rsT r) := by
  show bV (F122 x y m r) _ = _
  rw [ccE122f h₀ qr h, ccBvX]
/-- how F157 ends at a place, with the two cards there -/
theorem kwE157 {m : mMi} {r : mRs} {w l n L c a b : Nat} {g : Int32} (h₀ : m 2 0 0 10 = N 1) (qr : ccRu m 0 w l n) (h₁ : L < l) (h₂ : L + c < w) (h₃ : a < n) (h₄ : b < n) : F157 (N L) (N c) (N a) (N b) g m r = @ite mRz (ccMayLean (m 0 0) w l L c = true ∧ a ≠ b ∧ ccHeld (m 0 0) a = true ∧ ccHeld (m 0 0) b = true ∧ ∃ u, g = N u ∧ 20 ≤ u ∧ u ≤ 70) (Classical.propDecidable _) (bV (F60 0 m r) (fun m r => bI (F81 0 (N L) (N c) m r) (fun v m r => bV (F15 0 v (N a) (N b) g m r) (fun m r => bI (F19 0 m r) (fun v m r => rI v m r))))) (rX 3 m (rsT r)) := by
  have b₁ : w ≤ 12 := qr.2.2.2.2.1
  have b₂ : l ≤ 8 := qr.2.2.2.2.2.2.1
  have b₃ : n ≤ 40 := qr.2.2.2.2.2.2.2
  have ha : decide (m 0 0 13 a = I (-1)) = ccHeld (m 0 0) a := rfl
  have hb : decide (m 0 0 13 b = I (-1)) = ccHeld (m 0 0) b := rfl
  show bV (F122 (N L) (N c) m r) _ = _
  rw [ccE122t h₀ qr h₁ h₂, ccBv]
  show bV (F120 (N a) m r) _ = _
  rw [ccE120t h₀ qr h₃, ccBv, ccE120t h₀ qr h₄, ccBv, ccE12 qr (by omega) (by omega)]
  cases g₁ : ccMayLean (m 0 0) w l L c
  · rw [ccBi, ccT_f, ccIf0e, ccE107f, ccBvX, if_neg (by intro y; exact absurd y.1 (by decide))]
  · rw [ccBi, ccT_t, ccIf1e]
    by_cases g₂ : a = b
    · subst g₂
      rw [ccIte, if_pos rfl, ccE107f, ccBvX, if_neg (by intro y; exact y.2.1 rfl)]
    · have g₃ : ¬ N a = N b := by rw [N_eq (by omega) (by omega)]; exact g₂
      rw [ccIte, if_neg g₃, ccE107t, ccBv, ccE2 (by omega), ha]
      cases g₄ : ccHeld (m 0 0) a
      · rw [ccBi, ccT_f, ccIf0e, ccE107f, ccBvX, if_neg (by intro y; exact absurd y.2.2.1 (by decide))]
      · rw [ccBi, ccT_t, ccIf1e, ccE2 (by omega), hb]
        cases g₅ : ccHeld (m 0 0) b
        · rw [ccBi, ccT_f, ccIf0e, ccE107f, ccBvX, if_neg (by intro y; exact absurd y.2.2.2.1 (by decide))]
        · rw [ccBi, ccT_t, ccIf1e, ccE107t, ccBv]
          rcases Classical.em (∃ u, g = N u ∧ 20 ≤ u ∧ u ≤ 70) with ⟨u, f₅, f₆, f₇⟩ | g₆
          · subst f₅
            rw [ccE117 (by omega) (by omega) (by omega), if_pos (by exact ⟨f₆, f₇⟩), ccBv, if_pos (by exact ⟨rfl, g₂, rfl, rfl, u, rfl, f₆, f₇⟩)]
          · rw [ccE117z g₆ (by omega) (by omega), ccBvX, if_neg (by intro y; exact g₆ y.2.2.2.2)]
theorem kwN157c {m : mMi} {r : mRs} {w l n L c : Nat} {x b g : Int32} (h₀ : m 2 0 0 10 = N 1) (qr : ccRu m 0 w l n) (h₁ : L < l) (h₂ : L + c < w) (h₃ : ¬ ∃ a, x = N a ∧ a < n) : F157 (N L) (N c) x b g m r = rX 2 m (rsT r) := by
  show bV (F122 (N L) (N c) m r) _ = _
  rw [ccE122t h₀ qr h₁ h₂, ccBv]
  show bV (F120 x m r) _ = _
  rw [ccE120f h₀ qr h₃, ccBvX]
theorem kwE158 {m : mMi} {r : mRs} {w l n L c a : Nat} (h₀ : m 2 0 0 10 = N 1) (qr : ccRu m 0 w l n) (h₁ : L < l) (h₂ : L + c < w) (h₃ : a < n) : F158 (N L) (N c) (N a) m r = if (ccMayLay (m 0 0) w l L c = true ∧ ccHeld (m 0 0) a = true) then bV (F60 0 m r) (fun m r => bI (F81 0 (N L) (N c) m r) (fun v m r => bV (F17 0 v (N a) m r) (fun m r => bI (F19 0 m r) (fun v m r => rI v m r)))) else rX 3 m (rsT r) := by
  have b₁ : w ≤ 12 := qr.2.2.2.2.1
  have b₂ : l ≤ 8 := qr.2.2.2.2.2.2.1
  have b₃ : n ≤ 40 := qr.2.2.2.2.2.2.2
  have ha : decide (m 0 0 13 a = I (-1)) = ccHeld (m 0 0) a := rfl
  show bV (F122 (N L) (N c) m r) _ = _
  rw [ccE122t h₀ qr h₁ h₂, ccBv]
  show bV (F120 (N a) m r) _ = _
  rw [ccE120t h₀ qr h₃, ccBv, ccE16 qr (by omega) (by omega)]
  cases g₁ : ccMayLay (m 0 0) w l L c
  · rw [ccBi, ccT_f, ccIf0e, ccE107f, ccBvX, if_neg (by intro y; exact absurd y.1 (by decide))]
  · rw [ccBi, ccT_t, ccIf1e, ccE2 (by omega), ha]
    cases g₄ : ccHeld (m 0 0) a
    · rw [ccBi, ccT_f, ccIf0e, ccE107f, ccBvX, if_neg (by intro y; exact absurd y.2 (by decide))]
    · rw [ccBi, ccT_t, ccIf1e, ccE107t, ccBv, if_pos (by exact ⟨rfl, rfl⟩)]
theorem kwE159 {m : mMi} {r : mRs} {w l n a : Nat} (h₀ : m 2 0 0 10 = N 1) (qr : ccRu m 0 w l n) (h₃ : a < n) : F159 (N a) m r = if ¬ m 0 0 13 a < N 0 then bV (F60 0 m r) (fun m r => bI (F38 0 (N a) m r) (fun v m r => rI v m r)) else rX 3 m (rsT r) := by
  have b₃ : n ≤ 40 := qr.2.2.2.2.2.2.2
  show bV (F120 (N a) m r) _ = _
  rw [ccE120t h₀ qr h₃, ccBv, ccE8 (by omega)]
  by_cases g₁ : m 0 0 13 a < N 0
  · rw [decide_eq_true g₁, if_neg (by intro y; exact y g₁)]
    rw [ccBi]
    show bV (F107 (N 0) m r) _ = _
    rw [ccE107f, ccBvX]
  · rw [decide_eq_false g₁, if_pos g₁]
    rw [ccBi]
    show bV (F107 (N 1) m r) _ = _
    rw [ccE107t, ccBv]
theorem kwN120 {m : mMi} {r : mRs} {w l n : Nat} {x : Int32} (h₀ : m 2 0 0 10 = N 1) (qr : ccRu m 0 w l n) (h₃ : ¬ ∃ a, x = N a ∧ a < n) : F159 x m r = rX 2 m (rsT r) ∧ F162 x m r = rX 2 m (rsT r) ∧ F166 x m r = rX 2 m (rsT r) := by
  refine ⟨?_, ?_, ?_⟩
  · show bV (F120 x m r) _ = _
    rw [ccE120f h₀ qr h₃, ccBvX]
  · show bV (F120 x m r) _ = _
    rw [ccE120f h₀ qr h₃, ccBvX]
  · show bV (F120 x m r) _ = _
    rw [ccE120f h₀ qr h₃, ccBvX]
theorem kwE160 {m : mMi} {r : mRs} {w l n L c : Nat} (h₀ : m 2 0 0 10 = N 1) (qr : ccRu m 0 w l n) (h₁ : L < l) (h₂ : L + c < w) : F160 (N L) (N c) m r = if (ccHP (m 0 0) w l L c = true ∧ ccFree (m 0 0) w l L c = true) then bV (F60 0 m r) (fun m r => bI (F81 0 (N L) (N c) m r) (fun v m r => bV (F41 0 v m r) (fun m r => bI (F6 0 m r) (fun v m r => rI v m r)))) else rX 3 m (rsT r) := by
  have b₁ : w ≤ 12 := qr.2.2.2.2.1
  have b₂ : l ≤ 8 := qr.2.2.2.2.2.2.1
  show bV (F122 (N L) (N c) m r) _ = _
  rw [ccE122t h₀ qr h₁ h₂, ccBv]
  show bI (F13 0 (N L) (N c) m r) _ = _
  rw [ccE13 (i := 0) qr (by omega) (by omega)]
  cases g₁ : ccHP (m 0 0) w l L c
  · rw [ccBi, ccT_f, ccIf0e, ccE107f, ccBvX, if_neg (by intro y; exact absurd y.1 (by decide))]
  · rw [ccBi, ccT_t, ccIf1e, ccE40 (i := 0) qr (by omega) (by omega)]
    cases g₂ : ccFree (m 0 0) w l L c
    · rw [ccBi, ccT_f, ccIf0e, ccE107f, ccBvX, if_neg (by intro y; exact absurd y.2 (by decide))]
    · rw [ccBi, ccT_t, ccIf1e, ccE107t, ccBv, if_pos (by exact ⟨rfl, rfl⟩)]
theorem kwE161 {m : mMi} {r : mRs} {w l n L c : Nat} (h₀ : m 2 0 0 10 = N 1) (qr : ccRu m 0 w l n) (h₁ : L < l) (h₂ : L + c < w) : F161 (N L) (N c) m r = if (ccHF (m 0 0) w l L c = true ∧ ccHP (m 0 0) w l L c = false) then bV (F60 0 m r) (fun m r => bI (F81 0 (N L) (N c) m r) (fun v m r => bV (F39 0 v m r) (fun m r => bI (F6 0 m r) (fun v m r => rI v m r)))) else rX 3 m (rsT r) := by
  have b₁ : w ≤ 12 := qr.2.2.2.2.1
  have b₂ : l ≤ 8 := qr.2.2.2.2.2.2.1
  show bV (F122 (N L) (N c) m r) _ = _
  rw [ccE122t h₀ qr h₁ h₂, ccBv]
  show bI (F14 0 (N L) (N c) m r) _ = _
  rw [ccE14 (i := 0) qr (by omega) (by omega)]
  cases g₁ : ccHF (m 0 0) w l L c
  · rw [ccBi, ccT_f, ccIf0e, ccE107f, ccBvX, if_neg (by intro y; exact absurd y.1 (by decide))]
  · rw [ccBi, ccT_t, ccIf1e, ccE13 (i := 0) qr (by omega) (by omega)]
    cases g₂ : ccHP (m 0 0) w l L c
    · rw [ccBi, ccT_f, ccIf0, ccE107t, ccBv, if_pos (by exact ⟨rfl, rfl⟩)]
    · rw [ccBi, ccT_t, ccIf1, ccE107f, ccBvX, if_neg (by intro y; exact absurd y.2 (by decide))]
theorem kwE162 {m : mMi} {r : mRs} {w l n a : Nat} (h₀ : m 2 0 0 10 = N 1) (qr : ccRu m 0 w l n) (h₃ : a < n) : F162 (N a) m r = if m 0 0 13 a = I (-2) then bV (F60 0 m r) (fun m r => bV (F9 0 (N a) m r) (fun m r => rI (m 0 0 10 5) m r)) else rX 3 m (rsT r) := by
  have b₃ : n ≤ 40 := qr.2.2.2.2.2.2.2
  show bV (F120 (N a) m r) _ = _
  rw [ccE120t h₀ qr h₃, ccBv, ccMckIn (by omega : a < 40) (by omega), mix_N (by omega), ccIte]
  by_cases g₁ : m 0 0 13 a = I (-2)
  · rw [if_neg (by intro y; exact y g₁), if_pos g₁, ccE107t, ccBv]
  · rw [if_pos g₁, if_neg g₁, ccE107f, ccBvX]
theorem kwE163 {m : mMi} {r : mRs} {w l n a c : Nat} (h₀ : m 2 0 0 10 = N 1) (qr : ccRu m 0 w l n) (h₁ : 1 ≤ a) (h₂ : a ≤ 99) (h₃ : c < w) : F163 (N a) (N c) m r = bV (F60 0 m r) (fun m r => bI (F35 0 (N a) (N c) m r) (fun v m r => rI v m r)) := by
  show bV (F142 (N a) (N c) m r) _ = _
  rw [ccE142t h₀ qr h₁ h₂ h₃, ccBv]
theorem kwN163 {m : mMi} {r : mRs} {w l n : Nat} {x y : Int32} (h₀ : m 2 0 0 10 = N 1) (qr : ccRu m 0 w l n) (h₁ : ¬ ccIsTr w x y) : F163 x y m r = rX 3 m (rsT r) := by
  show bV (F142 x y m r) _ = _
  rw [ccE142f h₀ qr h₁, ccBvX]
theorem kwE114 {m : mMi} {r : mRs} (h₀ : m 2 0 0 10 = N 1) : F114 m r = rV m r := ccE114t h₀
theorem kwE164 {m : mMi} {r : mRs} {a z : Nat} (h₀ : m 2 0 0 10 = N 1) (h₁ : 1 ≤ a) (h₂ : a ≤ 100) (h₃ : m 0 0 0 5 = N z) (h₄ : z + a ≤ 9999) : F164 (N a) m r = bV (F60 0 m r) (fun m r => bI (F58 0 (N a * m 1 0 1 4) (mset m 0 0 0 5 (m 0 0 0 5 + N a)) r) (fun v m r => rI v m r)) := by
  have e₀ : ¬ N 9999 < N (z + a) := by rw [N_lt (by omega) (by omega)]; omega
  show bV (F114 m r) _ = _
  rw [kwE114 h₀, ccBv, ccE117 (by omega) (by omega) (by omega), if_pos (by exact ⟨h₁, h₂⟩), ccBv, h₃, N_add, ccIte, if_neg e₀, ccE107t, ccBv]
theorem kwN164 {m : mMi} {r : mRs} {x : Int32} (h₀ : m 2 0 0 10 = N 1) (h₁ : ¬ ∃ a, x = N a ∧ 1 ≤ a ∧ a ≤ 100) : F164 x m r = rX 3 m (rsT r) := by
  show bV (F114 m r) _ = _
  rw [kwE114 h₀, ccBv, ccE117z h₁ (by omega) (by omega), ccBvX]
theorem kwE165 {m : mMi} {r : mRs} {w l n L c : Nat} {g : Int32} (h₀ : m 2 0 0 10 = N 1) (qr : ccRu m 0 w l n) (h₁ : L < l) (h₂ : L + c < w) : F165 (N L) (N c) g m r = @ite mRz (ccHP (m 0 0) w l L c = true ∧ ∃ u, g = N u ∧ 20 ≤ u ∧ u ≤ 70) (Classical.propDecidable _) (bV (F60 0 m r) (fun m r => bI (F81 0 (N L) (N c) m r) (fun v m r => mckO (mIn v 96) (bI (F19 0 (mset m 0 0 4 (mix v) g) r) (fun v m r => rI v m r))))) (rX 3 m (rsT r)) := by
  have b₁ : w ≤ 12 := qr.2.2.2.2.1
  have b₂ : l ≤ 8 := qr.2.2.2.2.2.2.1
  show bV (F122 (N L) (N c) m r) _ = _
  rw [ccE122t h₀ qr h₁ h₂, ccBv]
  show bI (F13 0 (N L) (N c) m r) _ = _
  rw [ccE13 (i := 0) qr (by omega) (by omega)]
  cases g₁ : ccHP (m 0 0) w l L c
  · rw [ccBi, ccT_f, ccE107f, ccBvX, if_neg (by intro y; exact absurd y.1 (by decide))]
  · rw [ccBi, ccT_t, ccE107t, ccBv]
    rcases Classical.em (∃ u, g = N u ∧ 20 ≤ u ∧ u ≤ 70) with ⟨u, f₅, f₆, f₇⟩ | g₆
    · subst f₅
      rw [ccE117 (by omega) (by omega) (by omega), if_pos (by exact ⟨f₆, f₇⟩), ccBv, if_pos (by exact ⟨rfl, u, rfl, f₆, f₇⟩)]
    · rw [ccE117z g₆ (by omega) (by omega), ccBvX, if_neg (by intro y; exact g₆ y.2)]
