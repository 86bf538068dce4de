/-! THE LAW COMPARES the falls that are noted, the cards in the hand, the heap. -/
theorem kwE124 {m : mMi} {r : mRs} {t u e : Nat} (h₀ : m 2 0 0 10 = N 1) (h₁ : m 0 0 7 2 = N t) (bt : t < 1000000000) (hu : u < t) (hu' : u < 30) (he : e < 5) : F124 (N u) (N e) m r = rI (m 0 0 8 (5 * ((t - 1 - u) % 30) + e)) m r := by
  obtain ⟨k, hk⟩ : ∃ k, k = if 30 < t then 30 else t := ⟨_, rfl⟩
  have bk : u < k ∧ k ≤ 30 := by
    rw [hk]
    by_cases g : 30 < t
    · rw [if_pos g]; omega
    · rw [if_neg g]; omega
  have e₄ : F47 0 m r = rI (N k) m r := by
    unfold F47
    rw [h₁, hk]
    by_cases g : 30 < t
    · rw [if_pos g, if_pos (by rw [N_lt (by omega) (by omega)]; exact g)]
    · rw [if_neg g, if_neg (by rw [N_lt (by omega) (by omega)]; exact g)]
  show bV (F114 m r) _ = _
  rw [kwE114 h₀, ccBv, e₄, ccBi, ccE106 (by omega) (by omega), if_pos bk.1, ccBv, ccE117 (by omega) (by omega) (by omega), if_pos (by exact ⟨by omega, by omega⟩), ccBv, ccE48 h₁ bt hu hu' he, ccBi]
theorem kwH634 {f B : Nat} {x2 x3 x4 x5 x6 x7 : Int32} {mi : mMi} {rs : mRs} : H240_634 B (f + 1) 634 x2 x3 x4 x5 x6 x7 mi rs = mckO (rs.2.1.1 B) (mifO (decide (x5 ≤ x6)) (H240_698 B FU x2 x3 x4 x5 (N 0) mi rs) (H240_634 B f 644 x2 x3 x4 x5 x6 (N 0) mi rs)) := rfl
theorem kwH644 {f B : Nat} {x2 x3 x4 x5 x6 x7 : Int32} {mi : mMi} {rs : mRs} : H240_634 B (f + 1) 644 x2 x3 x4 x5 x6 x7 mi rs = mckO (rs.2.1.1 B) (mifO (decide ((N 5) ≤ x7)) (H240_634 B f 634 x2 x3 x4 x5 (x6 + (N 1)) (N 0) mi rs) (bI (F124 x6 x7 mi rs) (fun v45 m45 r45 => mckO (r45.2.1.1 B) (mckO (mIn ((((m45 6 B 0 20) - (N 1)) - x6) - (((m45 6 B 0 20) - (N 1)) - x6) / (N 30) * (N 30)) 30) (mckO (mIn x7 5) (mifO (decide (v45 = (m45 25 B (mix ((((m45 6 B 0 20) - (N 1)) - x6) - (((m45 6 B 0 20) - (N 1)) - x6) / (N 30) * (N 30))) (mix x7)))) (H240_634 B f 644 x2 x3 x4 x5 x6 (x7 + (N 1)) m45 r45) (some (.inl (some (mI (N 0))), m45, r45)))))))) := rfl
theorem kwL644 {m : mMi} {r : mRs} {B w l n lm dp cl bd T Z D t u : Nat} {β : Nat → Int32} {W : Nat → Nat} {x2 x3 x4 x5 : Int32} (q : kwI m r B w l n lm dp cl bd β W T Z D) (h₁ : m 0 0 7 2 = N t) (bt : t < 1000000000) (hu : u < t) (hu' : u < 30) (hx : kwX n t β m B (m 0 0)) : ∀ d e f, e + d = 5 → H240_634 B (f + d + 1) 644 x2 x3 x4 x5 (N u) (N e) m r = H240_634 B f 634 x2 x3 x4 x5 (N (u + 1)) (N 0) m r := by
  have hB := q.2.2.2.2
  have h₀ := (kwI_0 q).1
  have s₂₀ : m 6 B 0 20 = N t := by rw [(kwI_U q).2.2.2.2, h₁]
  intro d
  induction d with
  | zero =>
    intro e f g
    have e₁ : e = 5 := by omega
    subst e₁
    have e₂ : N 5 ≤ N 5 := by rw [N_le (by omega) (by omega)]; omega
    rw [kwH644, hB, ccMckT, ccIte, if_pos e₂, N_add]
  | succ d i₁ =>
    intro e f g
    have e₀ : f + (d + 1) + 1 = f + d + 1 + 1 := by omega
    have e₂ : ¬ N 5 ≤ N e := by rw [N_le (by omega) (by omega)]; omega
    have e₃ : N t - N 1 - N u = N (t - 1 - u) := by rw [N_sub (by omega), N_sub (by omega)]
    have f₁ : (t - 1 - u) / 30 * 30 ≤ t - 1 - u := Nat.div_mul_le_self _ _
    have e₄ : N (t - 1 - u) - N (t - 1 - u) / N 30 * N 30 = N ((t - 1 - u) % 30) := by
      rw [N_div (by omega) (by omega) (by omega), N_mul, N_sub f₁, ccMod]
    have bi : (t - 1 - u) % 30 < 30 := Nat.mod_lt _ (by omega)
    have bi' : (t - 1 - u) % 30 < t := by
      have y := Nat.mod_le (t - 1 - u) 30
      omega
    have e₅ : m 25 B ((t - 1 - u) % 30) e = m 0 0 8 (5 * ((t - 1 - u) % 30) + e) := by
      rw [hx.1 _ e bi bi' (by omega), Nat.mul_comm]
    rw [e₀, kwH644, hB, ccMckT, ccIte, if_neg e₂, kwE124 h₀ h₁ bt hu hu' (by omega), ccBi, hB, ccMckT, s₂₀, e₃, e₄, ccMckIn bi (by omega), ccMckIn (by omega : e < 5) (by omega), mix_N (by omega), mix_N (by omega), e₅, ccIte, if_pos rfl, N_add]
    exact i₁ (e + 1) f (by omega)
theorem kwL634 {m : mMi} {r : mRs} {B w l n lm dp cl bd T Z D t k : Nat} {β : Nat → Int32} {W : Nat → Nat} {x2 x3 x4 : Int32} (q : kwI m r B w l n lm dp cl bd β W T Z D) (h₁ : m 0 0 7 2 = N t) (bt : t < 1000000000) (hk : k ≤ t) (hk' : k ≤ 30) (hx : kwX n t β m B (m 0 0)) : ∀ d u f y, u + d = k → H240_634 B (f + 7 * d + 1) 634 x2 x3 x4 (N k) (N u) y m r = H240_698 B FU x2 x3 x4 (N k) (N 0) m r := by
  have hB := q.2.2.2.2
  intro d
  induction d with
  | zero =>
    intro u f y g
    have e₁ : u = k := by omega
    subst e₁
    have e₂ : N u ≤ N u := by rw [N_le (by omega) (by omega)]; omega
    rw [kwH634, hB, ccMckT, ccIte, if_pos e₂]
  | succ d i₁ =>
    intro u f y g
    have e₀ : f + 7 * (d + 1) + 1 = (f + 7 * d + 1) + 5 + 1 + 1 := by omega
    have e₂ : ¬ N k ≤ N u := by rw [N_le (by omega) (by omega)]; omega
    rw [e₀, kwH634, hB, ccMckT, ccIte, if_neg e₂, kwL644 q h₁ bt (by omega) (by omega) hx 5 0 (f + 7 * d + 1) (by omega)]
    exact i₁ (u + 1) f (N 0) (by omega)
theorem kwH698 {f B : Nat} {x2 x3 x4 x5 x6 : Int32} {mi : mMi} {rs : mRs} : H240_698 B (f + 1) x2 x3 x4 x5 x6 mi rs = mckO (rs.2.1.1 B) (bI (H176 B mi rs) (fun v37 m37 r37 => mckO (r37.2.1.1 B) (mifO (decide (v37 ≤ x6)) (H240_733 B FU x2 x3 x4 x5 (N 0) m37 r37) (bI (F125 x6 m37 r37) (fun v39 m39 r39 => mckO (r39.2.1.1 B) (bI (H180 B x6 m39 r39) (fun v41 m41 r41 => mckO (r41.2.1.1 B) (mifO (decide (v39 = v41)) (H240_698 B f x2 x3 x4 x5 (x6 + (N 1)) m41 r41) (some (.inl (some (mI (N 0))), m41, r41)))))))))) := rfl
theorem kwL698 {m : mMi} {r : mRs} {B w l n lm dp cl bd T Z D : Nat} {β : Nat → Int32} {W : Nat → Nat} {x2 x3 x4 x5 : Int32} (q : kwI m r B w l n lm dp cl bd β W T Z D) : ∀ d u f, u + d = ccCnt (ccHeld (m 0 0)) n → H240_698 B (f + d + 1) x2 x3 x4 x5 (N u) m r = H240_733 B FU x2 x3 x4 x5 (N 0) m r := by
  have hB := q.2.2.2.2
  obtain ⟨h₀, ru⟩ := kwI_0 q
  obtain ⟨s, g, k, cd, _⟩ := kwI_U q
  have b₃ : n ≤ 40 := ru.2.2.2.2.2.2.2
  have cl' := ccCnt_le (f := ccHeld (m 0 0)) n
  have e₁ := kwE176 (rs := r) hB s k
  intro d
  induction d with
  | zero =>
    intro u f y
    have e₂ : ccCnt (ccHeld (m 0 0)) n = u := by omega
    have e₃ : N u ≤ N u := by rw [N_le (by omega) (by omega)]; omega
    rw [kwH698, hB, ccMckT, e₁, ccBi, hB, ccMckT, e₂, ccIte, if_pos e₃]
  | succ d i₁ =>
    intro u f y
    have e₀ : f + (d + 1) + 1 = f + d + 1 + 1 := by omega
    have e₂ : ¬ N (ccCnt (ccHeld (m 0 0)) n) ≤ N u := by rw [N_le (by omega) (by omega)]; omega
    rw [e₀, kwH698, hB, ccMckT, e₁, ccBi, hB, ccMckT, ccIte, if_neg e₂, kwE125 h₀ ru (by omega), ccBi, hB, ccMckT, kwE180 hB s k (by omega), ccBi, hB, ccMckT, ccIte, if_pos rfl, N_add]
    exact i₁ (u + 1) f (by omega)
