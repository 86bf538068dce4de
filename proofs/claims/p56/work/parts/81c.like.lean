/-! THE CLASS'S NUMBERS, one by one. -/
theorem kwE116_0 {m : mMi} {r : mRs} {w l n : Nat} (h₀ : m 2 0 0 10 = N 1) (qr : ccRu m 0 w l n) : F116 (N 0) m r = rI (m 1 0 0 4) m r := by
  show bV (F114 m r) _ = _
  rw [kwE114 h₀, ccBv, ccE117 (by omega) (by omega) (by omega), if_pos (by exact ⟨by omega, by omega⟩), ccBv, ccTw116_0]
  rfl
theorem kwE116_1 {m : mMi} {r : mRs} {w l n : Nat} (h₀ : m 2 0 0 10 = N 1) (qr : ccRu m 0 w l n) : F116 (N 1) m r = rI (N (ccCnt (ccHeld (m 0 0)) n)) m r := by
  show bV (F114 m r) _ = _
  rw [kwE114 h₀, ccBv, ccE117 (by omega) (by omega) (by omega), if_pos (by exact ⟨by omega, by omega⟩), ccBv, ccTw116_1]
  show bI (F6 0 m r) _ = _
  rw [ccE6 (i := 0) qr, ccBi]
theorem kwE116_2 {m : mMi} {r : mRs} {w l n : Nat} (h₀ : m 2 0 0 10 = N 1) (qr : ccRu m 0 w l n) : F116 (N 2) m r = rI (m 0 0 10 5) m r := by
  show bV (F114 m r) _ = _
  rw [kwE114 h₀, ccBv, ccE117 (by omega) (by omega) (by omega), if_pos (by exact ⟨by omega, by omega⟩), ccBv, ccTw116_2]
  rfl
theorem kwE116_3 {m : mMi} {r : mRs} {w l n : Nat} (h₀ : m 2 0 0 10 = N 1) (qr : ccRu m 0 w l n) : F116 (N 3) m r = rI (N (ccCnt (ccP (m 0 0)) 96)) m r := by
  show bV (F114 m r) _ = _
  rw [kwE114 h₀, ccBv, ccE117 (by omega) (by omega) (by omega), if_pos (by exact ⟨by omega, by omega⟩), ccBv, ccTw116_3]
  show bI (F54 0 m r) _ = _
  rw [ccE54, ccBi]
theorem kwE116_4 {m : mMi} {r : mRs} {w l n : Nat} (h₀ : m 2 0 0 10 = N 1) (qr : ccRu m 0 w l n) : F116 (N 4) m r = rI (N (ccCnt (ccF (m 0 0)) 96)) m r := by
  show bV (F114 m r) _ = _
  rw [kwE114 h₀, ccBv, ccE117 (by omega) (by omega) (by omega), if_pos (by exact ⟨by omega, by omega⟩), ccBv, ccTw116_4]
  show bI (F55 0 m r) _ = _
  rw [ccE55, ccBi]
theorem kwE116_5 {m : mMi} {r : mRs} {w l n : Nat} (h₀ : m 2 0 0 10 = N 1) (qr : ccRu m 0 w l n) : F116 (N 5) m r = rI (m 0 0 0 5) m r := by
  show bV (F114 m r) _ = _
  rw [kwE114 h₀, ccBv, ccE117 (by omega) (by omega) (by omega), if_pos (by exact ⟨by omega, by omega⟩), ccBv, ccTw116_5]
  rfl
theorem kwE116_6 {m : mMi} {r : mRs} {w l n : Nat} (h₀ : m 2 0 0 10 = N 1) (qr : ccRu m 0 w l n) : F116 (N 6) m r = rI (m 0 0 7 2) m r := by
  show bV (F114 m r) _ = _
  rw [kwE114 h₀, ccBv, ccE117 (by omega) (by omega) (by omega), if_pos (by exact ⟨by omega, by omega⟩), ccBv, ccTw116_6]
  rfl
theorem kwE116_7 {m : mMi} {r : mRs} {w l n : Nat} (h₀ : m 2 0 0 10 = N 1) (qr : ccRu m 0 w l n) : F116 (N 7) m r = rI (m 0 0 9 0) m r := by
  show bV (F114 m r) _ = _
  rw [kwE114 h₀, ccBv, ccE117 (by omega) (by omega) (by omega), if_pos (by exact ⟨by omega, by omega⟩), ccBv, ccTw116_7]
  have e : N 7 - N 7 = N 0 := N_sub (by omega)
  simp only [Nat.reduceEqDiff, eq_self, if_true, if_false]
  rw [e, ccE46 (by omega), ccBi]
theorem kwE116_8 {m : mMi} {r : mRs} {w l n : Nat} (h₀ : m 2 0 0 10 = N 1) (qr : ccRu m 0 w l n) : F116 (N 8) m r = rI (m 0 0 9 1) m r := by
  show bV (F114 m r) _ = _
  rw [kwE114 h₀, ccBv, ccE117 (by omega) (by omega) (by omega), if_pos (by exact ⟨by omega, by omega⟩), ccBv, ccTw116_8]
  have e : N 8 - N 7 = N 1 := N_sub (by omega)
  simp only [Nat.reduceEqDiff, eq_self, if_true, if_false]
  rw [e, ccE46 (by omega), ccBi]
theorem kwE116_9 {m : mMi} {r : mRs} {w l n : Nat} (h₀ : m 2 0 0 10 = N 1) (qr : ccRu m 0 w l n) : F116 (N 9) m r = rI (m 0 0 9 2) m r := by
  show bV (F114 m r) _ = _
  rw [kwE114 h₀, ccBv, ccE117 (by omega) (by omega) (by omega), if_pos (by exact ⟨by omega, by omega⟩), ccBv, ccTw116_9]
  have e : N 9 - N 7 = N 2 := N_sub (by omega)
  simp only [Nat.reduceEqDiff, eq_self, if_true, if_false]
  rw [e, ccE46 (by omega), ccBi]
theorem kwE116_10 {m : mMi} {r : mRs} {w l n : Nat} (h₀ : m 2 0 0 10 = N 1) (qr : ccRu m 0 w l n) : F116 (N 10) m r = rI (m 0 0 9 3) m r := by
  show bV (F114 m r) _ = _
  rw [kwE114 h₀, ccBv, ccE117 (by omega) (by omega) (by omega), if_pos (by exact ⟨by omega, by omega⟩), ccBv, ccTw116_10]
  have e : N 10 - N 7 = N 3 := N_sub (by omega)
  simp only [Nat.reduceEqDiff, eq_self, if_true, if_false]
  rw [e, ccE46 (by omega), ccBi]
theorem kwE116_11 {m : mMi} {r : mRs} {w l n : Nat} (h₀ : m 2 0 0 10 = N 1) (qr : ccRu m 0 w l n) : F116 (N 11) m r = rI (m 0 0 0 6) m r := by
  show bV (F114 m r) _ = _
  rw [kwE114 h₀, ccBv, ccE117 (by omega) (by omega) (by omega), if_pos (by exact ⟨by omega, by omega⟩), ccBv, ccTw116_11]
  rfl
theorem kwE116_12 {m : mMi} {r : mRs} {w l n : Nat} (h₀ : m 2 0 0 10 = N 1) (qr : ccRu m 0 w l n) : F116 (N 12) m r = rI (N (ccS (ccCol w l) 8)) m r := by
  show bV (F114 m r) _ = _
  rw [kwE114 h₀, ccBv, ccE117 (by omega) (by omega) (by omega), if_pos (by exact ⟨by omega, by omega⟩), ccBv, ccTw116_12]
  show bI (F83 0 m r) _ = _
  rw [ccE83 qr, ccBi]
theorem kwH873 {f B a6 : Nat} {x2 x3 x4 x5 x7 : Int32} {mi : mMi} {rs : mRs} : H240_873 B a6 (f + 1) x2 x3 x4 x5 x7 mi rs = mckO (rs.2.1.1 B) (mifO (decide ((N 13) ≤ x7)) (H240_905 B a6 FU x2 x3 x4 x5 (N 0) mi rs) (bI (F116 x7 mi rs) (fun v27 m27 r27 => mckO (r27.2.1.1 B) (mckO (mIsInt (r27.2.1.2.1 a6) x7) (mifO (decide (v27 = (m27 9 a6 0 (mix x7)))) (H240_873 B a6 f x2 x3 x4 x5 (x7 + (N 1)) m27 r27) (some (.inl (some (mI (N 0))), m27, r27))))))) := rfl
theorem kwL873 {m : mMi} {r : mRs} {B a6 w l n lm dp cl bd T Z D : Nat} {β : Nat → Int32} {W : Nat → Nat} {x2 x3 x4 x5 : Int32} {X : mRz} {V : Nat → Int32} (q : kwI m r B w l n lm dp cl bd β W T Z D) (h₁ : ∀ k, k < 13 → F116 (N k) m r = rI (V k) m r) (h₂ : ∀ k, k < 13 → m 9 a6 0 k = V k) (h₃ : r.2.1.2.1 a6 = some (20, 13)) (hX : ∀ f, H240_873 B a6 (f + 1) x2 x3 x4 x5 (N 13) m r = X) : ∀ d u f, u + d = 13 → H240_873 B a6 (f + d + 1) x2 x3 x4 x5 (N u) m r = X := by
  have hB := q.2.2.2.2
  intro d
  induction d with
  | zero =>
    intro u f y
    have e₁ : u = 13 := by omega
    subst e₁
    exact hX f
  | succ d i₁ =>
    intro u f y
    have e₀ : f + (d + 1) + 1 = f + d + 1 + 1 := by omega
    have e₂ : ¬ N 13 ≤ N u := by rw [N_le (by omega) (by omega)]; omega
    have e₃ : mIsInt (some (20, 13)) (N u) = true := mIn_N (by omega) (by omega)
    rw [e₀, kwH873, hB, ccMckT, ccIte, if_neg e₂, h₁ u (by omega), ccBi, hB, ccMckT, h₃, e₃, ccMckT, mix_N (by omega), h₂ u (by omega), ccIte, if_pos rfl, N_add]
    exact i₁ (u + 1) f (by omega)
