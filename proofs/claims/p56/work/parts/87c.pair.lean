/-! LOOKS: a place with a pair, up to its World. -/
theorem kw253 {m : mMi} {r : mRs} {B w l n lm dp cl bd T Z D a L c p : Nat} {β : Nat → Int32} {W : Nat → Nat} {x2 x3 x4 x5 x6 x7 x8 : Int32} (q : kwI m r B w l n lm dp cl bd β W T Z D) (k : kwLk W (m 0 0) w l p x2 x3 x4 x5 x6 x7 x8) (hp : p = 12 * L + c) (h₁ : L < l) (h₂ : L + c < w) (g : ccP (m 0 0) p = true) : ∃ z4 z6, (z4 = ccCode (ccBst (ccP (m 0 0)) (ccLtW (m 0 0)) (p + 1) 0 (I (-1))) ∧ ∀ i, i < 96 → ccBst (ccP (m 0 0)) (ccLtW (m 0 0)) (p + 1) 0 (I (-1)) = N i → z6 = (m 0 0) 5 i) ∧ ∀ f y2 y3 y5 y7 y8 x9 x10 x14, H242_73 B 0 a (f + 1) 253 y2 y3 x4 y5 x6 y7 y8 x9 x10 (N L) (N c) x14 (N 0) (N 0) m r = kwNw B a f y2 y3 z4 y5 z6 y7 y8 x9 x10 (N L) (N c) x14 m r := by
  have hB := q.2.2.2.2
  have qr := (kwI_0 q).2
  have b₁ : w ≤ 12 := qr.2.2.2.2.1
  have b₂ : l ≤ 8 := qr.2.2.2.2.2.2.1
  obtain ⟨s, gg, kk, cd, _⟩ := kwI_U q
  have g₀ := ccP_t g
  rw [hp] at g₀
  have e₁ : m 23 B L c = m 0 0 5 (12 * L + c) := ((gg L c (by omega) (by omega)).2.2 g₀).2.2
  obtain ⟨w₁, w₂⟩ := kwLk_w k g hp (by omega) (by omega)
  rw [← hp] at e₁
  by_cases g₁ : x4 < N 0
  · obtain ⟨u₁, u₂⟩ := w₁ (Or.inl g₁)
    refine ⟨N 100 * N L + N c, m 0 0 5 p, ⟨u₁.symm, u₂⟩, fun f y2 y3 y5 y7 y8 x9 x10 x14 => ?_⟩
    rw [kwG253, hB, ccMckT, ccIte, if_pos g₁, ccMckIn (by omega : L < 10) (by omega), ccMckIn (by omega : c < 14) (by omega), mix_N (by omega), mix_N (by omega), e₁]
  · by_cases g₂ : m 0 0 5 p ≤ x6
    · obtain ⟨u₁, u₂⟩ := w₂ g₁ g₂
      refine ⟨x4, x6, ⟨u₁.symm, u₂⟩, fun f y2 y3 y5 y7 y8 x9 x10 x14 => ?_⟩
      rw [kwG253, hB, ccMckT, ccIte, if_neg g₁, ccMckIn (by omega : L < 10) (by omega), ccMckIn (by omega : c < 14) (by omega), mix_N (by omega), mix_N (by omega), e₁, ccIte, if_pos g₂]
    · obtain ⟨u₁, u₂⟩ := w₁ (Or.inr g₂)
      refine ⟨N 100 * N L + N c, m 0 0 5 p, ⟨u₁.symm, u₂⟩, fun f y2 y3 y5 y7 y8 x9 x10 x14 => ?_⟩
      rw [kwG253, hB, ccMckT, ccIte, if_neg g₁, ccMckIn (by omega : L < 10) (by omega), ccMckIn (by omega : c < 14) (by omega), mix_N (by omega), mix_N (by omega), e₁, ccIte, if_neg g₂, ccMckIn (by omega : L < 10) (by omega), ccMckIn (by omega : c < 14) (by omega)]
/-- a pair: what is kept, and on to its World -/
theorem kwConP {m : mMi} {r : mRs} {B w l n lm dp cl bd T Z D a L c p : Nat} {β : Nat → Int32} {W : Nat → Nat} {x2 x3 x4 x5 x6 x7 x8 : Int32} (q : kwI m r B w l n lm dp cl bd β W T Z D) (k : kwLk W (m 0 0) w l p x2 x3 x4 x5 x6 x7 x8) (hp : p = 12 * L + c) (h₁ : L < l) (h₂ : L + c < w) (g : ccHP (m 0 0) w l L c = true) : ∃ e z2 z3 z4 z5 z6 z7 z8 v, e ≤ 1 ∧ kwLk W (m 0 0) w l (p + 1) z2 z3 z4 z5 z6 z7 z8 ∧ ∀ f x9 x10, kwCon B a (f + 2) x2 x3 x4 x5 x6 x7 x8 x9 x10 (N L) (N c) m r = kwNw B a (f + e) z2 z3 z4 z5 z6 z7 z8 (x9 + N 1) x10 (N L) (N c) v m r := by
  have hB := q.2.2.2.2
  have qr := (kwI_0 q).2
  have b₁ : w ≤ 12 := qr.2.2.2.2.1
  have b₂ : l ≤ 8 := qr.2.2.2.2.2.2.1
  obtain ⟨s, gg, kk, cd, _⟩ := kwI_U q
  obtain ⟨_, wk, ww⟩ := kwI_P q
  obtain ⟨_, _, g₀⟩ := ccHP_t g
  have gp : ccP (m 0 0) p = true := by rw [hp, ← (kwHP_p h₁ h₂).1]; exact g
  have k₆ := kwE187 (rs := r) hB s gg kk cd wk ww (by omega : L < 8) (by omega : c < 12) g₀
  rw [← hp] at k₆
  obtain ⟨r₁, r₂⟩ := kwLk_r k gp hp (by omega) (by omega)
  obtain ⟨t₁, ⟨t₂, t₃⟩, ⟨t₄, t₅⟩, t₆, t₇⟩ := id k
  have e₀ : 0 + p = p := Nat.zero_add p
  have d₁ : ccTopv (ccP (m 0 0)) (p + 1) 0 (I (-1)) = N L := by
    rw [kwTop_s, e₀, if_pos gp]
    congr 1
    omega
  have d₂ : ccSmr (ccP (m 0 0)) (ccRv W (m 0 0) w l) (p + 1) 0 (N 0) = x7 + ccRv W (m 0 0) w l p := by
    rw [kwSmr_s, e₀, if_pos gp, t₆]
  have d₃ : N (ccCnt (ccP (m 0 0)) (p + 1)) = x8 + N 1 := by
    rw [ccCnt_s, if_pos gp, t₇, N_add]
  have n₁ : N 1 ≠ N 0 := by decide
  have hd : ∀ f x9 x10, kwCon B a (f + 2) x2 x3 x4 x5 x6 x7 x8 x9 x10 (N L) (N c) m r = (if x3 < N 0 then H242_73 B 0 a (f + 2) 240 (N L) x3 x4 x5 x6 (x7 + ccRv W (m 0 0) w l p) (x8 + N 1) (x9 + N 1) x10 (N L) (N c) (ccRv W (m 0 0) w l p) (N 0) (N 0) m r else if x5 ≤ ccRv W (m 0 0) w l p then H242_73 B 0 a (f + 2) 253 (N L) x3 x4 x5 x6 (x7 + ccRv W (m 0 0) w l p) (x8 + N 1) (x9 + N 1) x10 (N L) (N c) (ccRv W (m 0 0) w l p) (N 0) (N 0) m r else H242_73 B 0 a (f + 2) 240 (N L) x3 x4 x5 x6 (x7 + ccRv W (m 0 0) w l p) (x8 + N 1) (x9 + N 1) x10 (N L) (N c) (ccRv W (m 0 0) w l p) (N 0) (N 0) m r) := fun f x9 x10 => by
    unfold kwCon
    rw [kwE178 hB s gg cd (by omega) (by omega), g, ccBi, hB, ccMckT, ccT_t, ccIf1, k₆, ccBi, hB, ccMckT, ccIte, ccIte]
  have h240 : ∀ f x9 x10 x14, H242_73 B 0 a (f + 2) 240 (N L) x3 x4 x5 x6 (x7 + ccRv W (m 0 0) w l p) (x8 + N 1) (x9 + N 1) x10 (N L) (N c) x14 (N 0) (N 0) m r = H242_73 B 0 a (f + 1) 253 (N L) (N 100 * N L + N c) x4 x14 x6 (x7 + ccRv W (m 0 0) w l p) (x8 + N 1) (x9 + N 1) x10 (N L) (N c) x14 (N 0) (N 0) m r := fun f x9 x10 x14 => by
    have e₁ : f + 2 = (f + 1) + 1 := rfl
    rw [e₁, kwG240, hB, ccMckT]
  by_cases g₁ : x3 < N 0
  · obtain ⟨u₁, u₂⟩ := r₁ (Or.inl g₁)
    obtain ⟨z4, z6, v₁, v₂⟩ := kw253 (a := a) q k hp h₁ h₂ gp
    refine ⟨0, N L, N 100 * N L + N c, z4, ccRv W (m 0 0) w l p, z6, x7 + ccRv W (m 0 0) w l p, x8 + N 1, ccRv W (m 0 0) w l p, by omega, ⟨d₁.symm, ⟨u₁.symm, u₂⟩, v₁, d₂.symm, d₃.symm⟩, fun f x9 x10 => ?_⟩
    rw [hd, if_pos g₁, h240, v₂]
    rfl
  · by_cases g₂ : x5 ≤ ccRv W (m 0 0) w l p
    · obtain ⟨u₁, u₂⟩ := r₂ g₁ g₂
      obtain ⟨z4, z6, v₁, v₂⟩ := kw253 (a := a) q k hp h₁ h₂ gp
      refine ⟨1, N L, x3, z4, x5, z6, x7 + ccRv W (m 0 0) w l p, x8 + N 1, ccRv W (m 0 0) w l p, by omega, ⟨d₁.symm, ⟨u₁.symm, u₂⟩, v₁, d₂.symm, d₃.symm⟩, fun f x9 x10 => ?_⟩
      rw [hd, if_neg g₁, if_pos g₂]
      exact v₂ (f + 1) _ _ _ _ _ _ _ _
    · obtain ⟨u₁, u₂⟩ := r₁ (Or.inr g₂)
      obtain ⟨z4, z6, v₁, v₂⟩ := kw253 (a := a) q k hp h₁ h₂ gp
      refine ⟨0, N L, N 100 * N L + N c, z4, ccRv W (m 0 0) w l p, z6, x7 + ccRv W (m 0 0) w l p, x8 + N 1, ccRv W (m 0 0) w l p, by omega, ⟨d₁.symm, ⟨u₁.symm, u₂⟩, v₁, d₂.symm, d₃.symm⟩, fun f x9 x10 => ?_⟩
      rw [hd, if_neg g₁, if_neg g₂, h240, v₂]
      rfl
/-- the weights that are gone -/
theorem kwGone {m : mMi} {r : mRs} {B E a w l n lm dp cl bd T Z D x : Nat} {β : Nat → Int32} {W : Nat → Nat} {x2 x3 x4 x5 x6 x7 x8 x9 x10 x11 x13 x14 : Int32} (q : kwI m r B w l n lm dp cl bd β W T Z D) (hE : r.2.1.1 E = true) (mE : ∀ k, k < n → (kwInW m E k = true → N 2 ≤ m 6 E 4 k)) : ∀ d k, k + d = n → ∀ f, H242_73 B E a (f + d + 1) 353 x2 x3 x4 x5 x6 x7 x8 x9 x10 x11 x13 x14 (I ((kwWs W (fun i => kwInW m B i && !(kwInW m E i)) k : Int) - (x : Int))) (N k) m r = kwEp B E a f x2 x3 x4 x5 x6 x7 x8 x9 x10 x11 x13 x14 (I ((kwWs W (fun i => kwInW m B i && !(kwInW m E i)) n : Int) - (x : Int))) m r := by
  have hB := q.2.2.2.2
  have qr := (kwI_0 q).2
  have b₃ : n ≤ 40 := qr.2.2.2.2.2.2.2
  have s₁₇ : m 6 B 0 17 = N n := (kwI_S q).2.2.2.2.2.2.1
  obtain ⟨_, wk, ww⟩ := kwI_P q
  intro d
  induction d with
  | zero =>
    intro k y f
    have e₁ : k = n := by omega
    subst e₁
    have e₂ : N k ≤ N k := by rw [N_le (by omega) (by omega)]; omega
    rw [kwG353, hB, ccMckT, hE, ccMckT, s₁₇, ccIte, if_pos e₂]
  | succ d i₁ =>
    intro k y f
    have e₀ : f + (d + 1) + 1 = f + d + 1 + 1 := by omega
    have e₂ : ¬ N n ≤ N k := by rw [N_le (by omega) (by omega)]; omega
    have z₀ : ∀ z : Int, I z + N 0 = I z := fun z => by
      rw [← I_N, I_add]
      congr 1
      omega
    have i₂ := i₁ (k + 1) (by omega) f
    have s₂ : kwWs W (fun i => kwInW m B i && !(kwInW m E i)) (k + 1) = kwWs W (fun i => kwInW m B i && !(kwInW m E i)) k + (if (kwInW m B k && !(kwInW m E k)) = true then W k else 0) := rfl
    rw [e₀, kwG353, hB, ccMckT, hE, ccMckT, s₁₇, ccIte, if_neg e₂, ccMckIn (by omega : k < 40) (by omega), mix_N (by omega)]
    by_cases g₁ : m 6 B 4 k ≤ N 1
    · have v₁ : kwInW m B k = false := by unfold kwInW; rw [decide_eq_true g₁]; rfl
      rw [v₁, Bool.false_and, if_neg (by intro v; cases v), Nat.add_zero] at s₂
      rw [s₂] at i₂
      rw [ccIte, if_pos g₁, z₀, N_add]
      exact i₂
    · have v₁ : kwInW m B k = true := by unfold kwInW; rw [decide_eq_false g₁]; rfl
      rw [ccIte, if_neg g₁, ccMckIn (by omega : k < 40) (by omega)]
      by_cases g₂ : N 2 ≤ m 6 E 4 k
      · have v₂ : kwInW m E k = true := by
          have z : ¬ m 6 E 4 k ≤ N 1 := fun u => absurd (Int32.le_trans g₂ u) (by decide)
          unfold kwInW
          rw [decide_eq_false z]
          rfl
        rw [v₁, v₂, Bool.not_true, Bool.and_false, if_neg (by intro v; cases v), Nat.add_zero] at s₂
        rw [s₂] at i₂
        rw [ccIte, if_pos g₂, z₀, N_add]
        exact i₂
      · have v₂ : kwInW m E k = false := by
          cases u : kwInW m E k
          · rfl
          · exact absurd (mE k (by omega) u) g₂
        rw [v₁, v₂, Bool.not_false, Bool.and_true, if_pos rfl] at s₂
        have e₃ : I ((kwWs W (fun i => kwInW m B i && !(kwInW m E i)) k : Int) - (x : Int)) + N (W k) = I ((kwWs W (fun i => kwInW m B i && !(kwInW m E i)) (k + 1) : Int) - (x : Int)) := by
          rw [← I_N, I_add, s₂]
          congr 1
          omega
        rw [ccIte, if_neg g₂, ccMckIn (by omega : k < 40) (by omega), ww k (by omega), e₃, N_add]
        exact i₂
