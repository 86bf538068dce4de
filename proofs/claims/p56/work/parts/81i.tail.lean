/-! THE LAW COMPARES: from the falls on. -/
theorem kwTail {m : mMi} {r : mRs} {B w l n lm dp cl bd T Z D : Nat} {β : Nat → Int32} {W : Nat → Nat} (q : kwI m r B w l n lm dp cl bd β W T Z D) (bT : T ≤ 900000000) : ∃ M R, kwI M R B w l n lm dp cl bd β W T Z D ∧ kwRs 16 130 r R ∧ (∀ f i j p, ¬ (f = 9 ∧ r.2.2.1 ≤ i) → M f i j p = m f i j p) ∧ H240_634 B FU 634 (N (ccCnt (ccP (m 0 0)) 96)) (N (ccCnt (ccF (m 0 0)) 96)) (N (ccS (ccCol w l) 8)) (if (m 6 B 0 20) < (N 30) then (m 6 B 0 20) else (N 30)) (N 0) (N 0) m r = rI (N 1) M R := by
  have hB := q.2.2.2.2
  obtain ⟨h₀, ru⟩ := kwI_0 q
  obtain ⟨s, g, kk, cd, s₂₀⟩ := kwI_U q
  have b₃ : n ≤ 40 := ru.2.2.2.2.2.2.2
  obtain ⟨hh, t, j₀, c₀⟩ := q.1
  have xx := j₀.2.2.1.2.2.2.2 rfl
  have h₁ : m 0 0 7 2 = N t := j₀.2.2.1.2.2.2.1
  obtain ⟨mm, jj⟩ := j₀.1
  have h2 := ccR_hh jj.1.2.2.2.2.2.1
  have hn := ccR_h jj.1.2.2.2.2.2.1
  have bt : t < 1000000000 := by
    have y := c₀.2.2.2.2.2.1
    omega
  obtain ⟨k, hk⟩ : ∃ k, k = if 30 < t then 30 else t := ⟨_, rfl⟩
  have bk : k ≤ t ∧ k ≤ 30 := by
    rw [hk]
    by_cases y : 30 < t
    · rw [if_pos y]; omega
    · rw [if_neg y]; omega
  have ek : (if (m 6 B 0 20) < (N 30) then (m 6 B 0 20) else (N 30)) = N k := by
    rw [s₂₀, h₁, hk]
    by_cases y : 30 < t
    · rw [if_pos y, if_neg (by rw [N_lt (by omega) (by omega)]; omega)]
    · rw [if_neg y]
      by_cases y₂ : t = 30
      · subst y₂
        rw [if_neg (by rw [N_lt (by omega) (by omega)]; omega)]
      · rw [if_pos (by rw [N_lt (by omega) (by omega)]; omega)]
  have e₁₈ : m 6 B 0 18 = N hh := by rw [xx.2.2.1.1]; exact h2.1
  have e₉ : ∀ p, p < hh → m 6 B 9 p = m 0 0 14 p := fun p y => xx.2.2.1.2 hh h2.1 (by omega) p y
  obtain ⟨x2, hx2⟩ : ∃ x, x = N (ccCnt (ccP (m 0 0)) 96) := ⟨_, rfl⟩
  obtain ⟨x3, hx3⟩ : ∃ x, x = N (ccCnt (ccF (m 0 0)) 96) := ⟨_, rfl⟩
  obtain ⟨x4, hx4⟩ : ∃ x, x = N (ccS (ccCol w l) 8) := ⟨_, rfl⟩
  obtain ⟨m₁, f₁, f₂, f₃⟩ := kwF733 (x2 := x2) (x3 := x3) (x4 := x4) (x5 := N k) q e₁₈ (by omega)
  have q₁ := kwI_9 q f₃ (kwRs_A (kd := 20) (n := 13) (s := 13))
  have o₁ : m₁ 0 0 = m 0 0 := by
    funext j p
    exact f₃ 0 0 j p (by omega)
  obtain ⟨g₀, gr⟩ := kwI_0 q₁
  obtain ⟨M, R, k₁, k₂, k₃, k₄⟩ := kwTl905 (a6 := r.2.2.1) (x2 := x2) (x3 := x3) (x4 := x4) (t := t) (k := k) (h := hh) q₁ (by rw [o₁]; exact h₁) bt hk (by rw [o₁]; exact h2.1) (by rw [f₃ 6 B 0 18 (by omega)]; exact e₁₈) (by omega)
  have vs : ∀ i, i < 13 → F116 (N i) m₁ (rsA r 20 13 13) = rI (kwV13 m B n x2 x3 x4 i) m₁ (rsA r 20 13 13) := fun i hi => by
    have g' : i = 0 ∨ i = 1 ∨ i = 2 ∨ i = 3 ∨ i = 4 ∨ i = 5 ∨ i = 6 ∨ i = 7 ∨ i = 8 ∨ i = 9 ∨ i = 10 ∨ i = 11 ∨ i = 12 := by omega
    rcases g' with rfl | rfl | rfl | rfl | rfl | rfl | rfl | rfl | rfl | rfl | rfl | rfl | rfl <;> unfold kwV13
    · rw [kwE116_0 g₀ gr, gr.2.2.1, s.2.2.2.2.2.2.1]
      rfl
    · rw [kwE116_1 g₀ gr, o₁]
      rfl
    · rw [kwE116_2 g₀ gr, o₁, xx.2.2.1.1]
      rfl
    · rw [kwE116_3 g₀ gr, o₁, hx2]
      rfl
    · rw [kwE116_4 g₀ gr, o₁, hx3]
      rfl
    · rw [kwE116_5 g₀ gr, o₁, xx.2.2.2.2.1]
      rfl
    · rw [kwE116_6 g₀ gr, o₁, s₂₀]
      rfl
    · rw [kwE116_7 g₀ gr, o₁, xx.2.1 0 (by omega)]
      rfl
    · rw [kwE116_8 g₀ gr, o₁, xx.2.1 1 (by omega)]
      rfl
    · rw [kwE116_9 g₀ gr, o₁, xx.2.1 2 (by omega)]
      rfl
    · rw [kwE116_10 g₀ gr, o₁, xx.2.1 3 (by omega)]
      rfl
    · rw [kwE116_11 g₀ gr, o₁, xx.2.2.2.2.2]
      rfl
    · rw [kwE116_12 g₀ gr, hx4]
      rfl
  have d₁ : ∀ f, H240_905 B r.2.2.1 (f + 6 + 1) x2 x3 x4 (N k) (N 0) m₁ (rsA r 20 13 13) = rI (N 1) M R := fun f => kwL905 q₁ (kwSet6 q₁) k₄ 6 0 f (by omega)
  have FUe : ∀ c, c ≤ 99999 → ∃ g, FU = g + c + 1 := fun c hc => ccFU hc
  have d₂ : ∀ f, H240_873 B r.2.2.1 (f + 13 + 1) x2 x3 x4 (N k) (N 0) m₁ (rsA r 20 13 13) = rI (N 1) M R := fun f => kwL873 q₁ vs f₂ kwA_kd (fun f => by
    have e₂ : N 13 ≤ N 13 := by rw [N_le (by omega) (by omega)]; omega
    obtain ⟨g', hg'⟩ := FUe 6 (by omega)
    rw [kwH873, q₁.2.2.2.2, ccMckT, ccIte, if_pos e₂, hg']
    exact d₁ g') 13 0 f (by omega)
  have d₃ : ∀ f, H240_733 B (f + hh + 1) x2 x3 x4 (N k) (N 0) m r = rI (N 1) M R := fun f => kwL733 q h2.1 e₁₈ (by omega) e₉ (fun f => by
    obtain ⟨g', hg'⟩ := FUe 13 (by omega)
    rw [f₁, hg']
    exact d₂ g') hh 0 f (by omega)
  obtain ⟨c, hc⟩ : ∃ c, c = ccCnt (ccHeld (m 0 0)) n := ⟨_, rfl⟩
  have bc : c ≤ n := by rw [hc]; exact ccCnt_le n
  obtain ⟨y₁, hy₁⟩ := FUe hh (by omega)
  obtain ⟨y₂, hy₂⟩ := FUe c (by omega)
  obtain ⟨y₃, hy₃⟩ := FUe (7 * k) (by omega)
  refine ⟨M, R, k₁, kwRs_le (kwRs_trans (kwRs_A (kd := 20) (n := 13) (s := 13)) k₂) (by omega) (by omega), fun f i j p z => ?_, ?_⟩
  · have e₀ : (rsA r 20 13 13).2.2.1 = r.2.2.1 + 1 := rfl
    rw [k₃ f i j p (by omega)]
    exact f₃ f i j p z
  · rw [ek, ← hx2, ← hx3, ← hx4]
    have z₁ := kwL634 (x2 := x2) (x3 := x3) (x4 := x4) q h₁ bt bk.1 bk.2 xx k 0 y₃ (N 0) (by omega)
    have z₂ := kwL698 (x2 := x2) (x3 := x3) (x4 := x4) (x5 := N k) q c 0 y₂ (by omega)
    have z₃ := d₃ y₁
    rw [← hy₃] at z₁
    rw [← hy₂] at z₂
    rw [← hy₁] at z₃
    rw [z₁, z₂, z₃]
