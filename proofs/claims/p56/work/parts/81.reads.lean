/-! WHAT THE CLASS TELLS, read by the law; the falls and the heap compared. -/
theorem kwNth_cc {f : Nat → Bool} : ∀ d p e, kwNth f d e p = ccNth f d p e := by
  intro d
  induction d with
  | zero => intro p e; rfl
  | succ d i₁ =>
    intro p e
    cases e with
    | zero =>
      show (if f p = true then N p else kwNth f d 0 (p + 1)) = ccNth f (d + 1) p 0
      rw [i₁]
      rfl
    | succ e =>
      show (if f p = true then kwNth f d e (p + 1) else kwNth f d (e + 1) (p + 1)) = ccNth f (d + 1) p (e + 1)
      rw [i₁, i₁]
      rfl
theorem kwE118 {m : mMi} {r : mRs} {k : Nat} (h₀ : m 2 0 0 10 = N 1) (h₁ : k < 6) : F118 (N k) m r = rI (m 1 0 1 k) m r := by
  show bV (F114 m r) _ = _
  rw [kwE114 h₀, ccBv, ccE117 (by omega) (by omega) (by omega), if_pos (by exact ⟨by omega, by omega⟩), ccBv, ccMckIn h₁ (by omega), mix_N (by omega)]
theorem kwE126 {m : mMi} {r : mRs} {k h : Nat} (h₀ : m 2 0 0 10 = N 1) (h₁ : m 0 0 10 5 = N h) (h₂ : k < h) (h₃ : h ≤ 40) : F126 (N k) m r = rI (m 0 0 14 k) m r := by
  show bV (F114 m r) _ = _
  rw [kwE114 h₀, ccBv, h₁, ccE106 (by omega) (by omega), if_pos h₂, ccBv, ccMckIn (by omega : k < 40) (by omega), mix_N (by omega)]
theorem kwE125 {m : mMi} {r : mRs} {w l n k : Nat} (h₀ : m 2 0 0 10 = N 1) (qr : ccRu m 0 w l n) (h₂ : k < ccCnt (ccHeld (m 0 0)) n) : F125 (N k) m r = rI (kwNth (ccHeld (m 0 0)) n k 0) m r := by
  have b₃ : n ≤ 40 := qr.2.2.2.2.2.2.2
  have cl := ccCnt_le (f := ccHeld (m 0 0)) n
  obtain ⟨g, hg⟩ := ccFU (k := n) (by omega)
  have e₁ := ccL7 (i := 0) (a := k) rfl qr (by omega) n 0 0 g r (by omega) (by omega)
  have e₂ : F7 0 (N k) m r = rI (kwNth (ccHeld (m 0 0)) n k 0) m r := by
    unfold F7
    rw [hg, kwNth_cc]
    exact e₁
  show bV (F114 m r) _ = _
  rw [kwE114 h₀, ccBv, ccE6 (i := 0) qr, ccBi, ccE106 (by omega) (by omega), if_pos h₂, ccBv, e₂, ccBi]
