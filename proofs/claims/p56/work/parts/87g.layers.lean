/-! LOOKS: all layers. -/
/-- the end of a layer -/
theorem kwLineZ {n₀ : Nat} {m₀ : mMi} {B w l n lm dp cl bd : Nat} {β : Nat → Int32} {W : Nat → Nat} {T Z D a L : Nat} {m : mMi} {r : mRs} (h : kwPq n₀ m₀ B w l n lm dp cl bd β W T Z D a (ccLvl (m₀ 0 0) w l L (w - L) 0) m r) (hn : B < n₀ ∧ 10 ≤ n₀) (h₁ : L < l) : ∃ M R, kwI M R B w l n lm dp cl bd β W T Z D ∧ kwRo B R ∧ kwFk n₀ m₀ M ∧ kwRu n₀ 5 38 r R ∧ ∀ f x2 x3 x4 x5 x6 x7 x8 x9 x10, H242_73 B 0 a (f + 1) 96 x2 x3 x4 x5 x6 x7 x8 x9 x10 (N L) (N (w - L)) (N 0) (N 0) (N 0) m r = H242_73 B 0 0 f 73 x2 x3 x4 x5 x6 x7 x8 x9 x10 (N (L + 1)) (N 0) (N 0) (N 0) (N 0) M R := by
  obtain ⟨q, ro, ⟨cap, bd₀⟩, fk₀, hg⟩ := id h
  have hB := q.2.2.2.2
  have nx := q.2.2.2.1
  have qr := (kwI_0 q).2
  have b₁ : w ≤ 12 := qr.2.2.2.2.1
  have b₂ : l ≤ 8 := qr.2.2.2.2.2.2.1
  have cm : m 0 0 = m₀ 0 0 := kwFk_0 fk₀ (by omega)
  obtain ⟨_, y₂⟩ := kwMy (w := w) (L := L) (by omega) (by omega)
  have e₁ : m 6 B 1 0 = N w := (kwI_S q).1
  obtain ⟨M₁, k₁, t₁, o₁⟩ := kwE152 q h₁
  rw [cm] at t₁
  have bd₁ := kwB_k bd₀ (kwFk_v (n₀ := r.2.2.1) o₁) kwRu_rfl (Nat.le_refl _)
  obtain ⟨M₂, R₂, k₂, s₂, f₂, o₂⟩ := kwE204 bd₁ nx
  have t₂ : kwTxt M₂ (ccLvl (m₀ 0 0) w l L (w - L) 0) := kwTxt_cg t₁ (fun j p => o₂.1 2 7 j p (by omega))
  have nx₂ := kwNx_k f₂ nx
  obtain ⟨M, R, k₃, f₃, o₃, v₃⟩ := kwIsT nx₂ s₂ t₂
  have ln : (ccLvl (m₀ 0 0) w l L (w - L) 0).length = w - L := ccLvl_len _ _
  rw [ln] at f₂ k₃
  have y₄ := f₂.2.2.1
  have fM : kwFk r.2.2.1 m M := kwFk_trans (kwFk_v o₁) (kwFk_trans (kwFk_o o₂) (kwFk_le (kwFk_9 o₃) y₄))
  have uM : kwRu r.2.2.1 5 38 r R := kwRu_le (kwRu_trans (kwRu_o o₂ f₂ (Nat.le_refl _)) (kwRu_le (kwRu_s f₃ (Nat.le_refl _) (fun b _ => v₃ b)) y₄ (Nat.le_refl _) (Nat.le_refl _))) (Nat.le_refl _) (by omega) (by omega)
  have ka : r.2.1.2.1 a = some (14, 0) := by
    obtain ⟨v, _, k, _⟩ := bd₀
    exact k
  have h₂ := kwRs_B f₂ hB
  refine ⟨M, R, kwI_k q fM uM (kwNx_k f₃ nx₂) ⟨ro.2.1, ro.2.2⟩, kwRo_u ro uM, kwFk_trans fk₀ (kwFk_le fM hg), kwRu_le uM hg (Nat.le_refl _) (Nat.le_refl _), fun f x2 x3 x4 x5 x6 x7 x8 x9 x10 => ?_⟩
  rw [kwG96, hB, ccMckT, ccMckIn (by omega : 0 < 6) (by omega), e₁, ccIte, if_pos y₂, k₁, ccBi, hB, ccMckT, kwObj ka, k₂, kwBr, h₂, ccMckT, k₃, ccBi, kwRs_B f₃ h₂, ccMckT, ccIf1, N_add]
/-- a layer -/
theorem kwLayer {B w l n lm dp cl bd : Nat} {β : Nat → Int32} {W : Nat → Nat} {T Z D L : Nat} {m : mMi} {r : mRs} {x2 x3 x4 x5 x6 x7 x8 : Int32} (q : kwI m r B w l n lm dp cl bd β W T Z D) (ro : kwRo B r) (bT : T ≤ 900000000) (nm : kwNms m n) (dg : kwDg m) (h₁ : L < l) (k : kwLk W (m 0 0) w l (12 * L) x2 x3 x4 x5 x6 x7 x8) : ∃ e z2 z3 z4 z5 z6 z7 z8 M R, e ≤ 560 ∧ kwI M R B w l n lm dp cl bd β W T Z D ∧ kwRo B R ∧ kwFk r.2.2.1 m M ∧ kwRu r.2.2.1 1399 28054 r R ∧ kwLk W (m 0 0) w l (12 * (L + 1)) z2 z3 z4 z5 z6 z7 z8 ∧ ∀ f x9 x10, H242_73 B 0 0 (f + 560) 73 x2 x3 x4 x5 x6 x7 x8 x9 x10 (N L) (N 0) (N 0) (N 0) (N 0) m r = H242_73 B 0 0 (f + e) 73 z2 z3 z4 z5 z6 z7 z8 (x9 + N (w - L)) x10 (N (L + 1)) (N 0) (N 0) (N 0) (N 0) M R := by
  have hB := q.2.2.2.2
  have nx := q.2.2.2.1
  have qr := (kwI_0 q).2
  have b₁ : w ≤ 12 := qr.2.2.2.2.1
  have b₂ : l ≤ 8 := qr.2.2.2.2.2.2.1
  have e₁ : m 6 B 1 1 = N l := (kwI_S q).2.1
  have e₂ : ¬ N l ≤ N L := by rw [N_le (by omega) (by omega)]; omega
  have hn : B < r.2.2.1 ∧ 10 ≤ r.2.2.1 := ⟨ro.2.1, ro.2.2⟩
  obtain ⟨m₁, r₁, a₁, a₂, a₃, f₁, o₁⟩ := kwE199 (m := m) nx
  have u₁ := kwRu_o o₁ f₁ (Nat.le_refl _)
  have p₁ : kwPq r.2.2.1 m B w l n lm dp cl bd β W T Z D r.2.2.1 (ccLvl (m 0 0) w l L 0 0) m₁ r₁ := ⟨kwI_k q (kwFk_o o₁) u₁ (kwNx_k f₁ nx) hn, kwRo_u ro u₁, ⟨16, a₃⟩, kwFk_o o₁, f₁.2.2.1⟩
  obtain ⟨e, z2, z3, z4, z5, z6, z7, z8, m₂, r₂, he, p₂, u₂, k₂, c₂⟩ := kwLine hn bT nm dg h₁ (w - L) 0 m₁ r₁ x2 x3 x4 x5 x6 x7 x8 (by omega) p₁ k
  obtain ⟨M, R, q₃, ro₃, f₃, u₃, c₃⟩ := kwLineZ p₂ hn h₁
  have pl := (kwI_P q).1
  have kz : kwLk W (m 0 0) w l (12 * (L + 1)) z2 z3 z4 z5 z6 z7 z8 := by
    have e₅ : 12 * (L + 1) = 12 * L + (w - L) + (12 - (w - L)) := by omega
    rw [e₅]
    refine kwLk_f (12 - (w - L)) (fun i y => ?_) k₂
    unfold ccP
    rcases Classical.em (m 0 0 2 (12 * L + (w - L) + i) = I (-1)) with u | u
    · rw [decide_eq_true u]; rfl
    · have v := (pl (12 * L + (w - L) + i) (by omega)).1 u
      omega
  refine ⟨558 - 45 * (w - L) + e, z2, z3, z4, z5, z6, z7, z8, M, R, by omega, q₃, ro₃, f₃, kwRu_le (kwRu_trans u₁ (kwRu_trans u₂ u₃)) (Nat.le_refl _) (by omega) (by omega), kz, fun f x9 x10 => ?_⟩
  have g₁ : f + 560 = ((f + (559 - 45 * (w - L))) + 45 * (w - L)) + 1 := by omega
  have g₂ : f + (559 - 45 * (w - L)) + e = (f + (558 - 45 * (w - L) + e)) + 1 := by omega
  have hB₀ : (rsO r 14 4).2.1.1 B = true := hB
  have hB₁ := kwRs_B f₁ hB
  rw [g₁, kwG73, hB, ccMckT, ccMckIn (by omega : 1 < 6) (by omega), e₁, ccIte, if_neg e₂, a₁, hB₀, ccMckT, a₂, ccBv, hB₁, ccMckT, c₂, g₂, c₃]
/-- all layers -/
theorem kwLayers {B w l n lm dp cl bd : Nat} {β : Nat → Int32} {W : Nat → Nat} {T Z D : Nat} (bT : T ≤ 900000000) : ∀ d L m r x2 x3 x4 x5 x6 x7 x8, L + d = l → kwI m r B w l n lm dp cl bd β W T Z D → kwRo B r → kwNms m n → kwDg m → kwLk W (m 0 0) w l (12 * L) x2 x3 x4 x5 x6 x7 x8 → ∃ e z2 z3 z4 z5 z6 z7 z8 M R, e ≤ 560 * d ∧ kwI M R B w l n lm dp cl bd β W T Z D ∧ kwRo B R ∧ kwFk r.2.2.1 m M ∧ kwRu r.2.2.1 (1399 * d) (28054 * d) r R ∧ kwLk W (m 0 0) w l (12 * l) z2 z3 z4 z5 z6 z7 z8 ∧ ∀ f x10, H242_73 B 0 0 (f + 560 * d + 1) 73 x2 x3 x4 x5 x6 x7 x8 (N (ccS (ccCol w l) L)) x10 (N L) (N 0) (N 0) (N 0) (N 0) m r = H242_599 B FU z2 z3 z4 z5 z6 z7 z8 (N (ccS (ccCol w l) l)) x10 (N 0) M R := by
  intro d
  induction d with
  | zero =>
    intro L m r x2 x3 x4 x5 x6 x7 x8 y q ro nm dg k
    have e₁ : L = l := by omega
    subst e₁
    have b₂ : L ≤ 8 := (kwI_0 q).2.2.2.2.2.2.2.1
    have e₂ : m 6 B 1 1 = N L := (kwI_S q).2.1
    have e₃ : N L ≤ N L := by rw [N_le (by omega) (by omega)]; omega
    refine ⟨0, x2, x3, x4, x5, x6, x7, x8, m, r, Nat.le_refl _, q, ro, kwFk_rfl, kwRu_rfl, k, fun f x10 => ?_⟩
    rw [kwG73, q.2.2.2.2, ccMckT, ccMckIn (by omega : 1 < 6) (by omega), e₂, ccIte, if_pos e₃]
  | succ d i₁ =>
    intro L m r x2 x3 x4 x5 x6 x7 x8 y q ro nm dg k
    have h₁ : L < l := by omega
    obtain ⟨e, z2, z3, z4, z5, z6, z7, z8, m₁, r₁, he, q₁, ro₁, f₁, u₁, k₁, c₁⟩ := kwLayer q ro bT nm dg h₁ k
    have h10 := ro.2.2
    have cm : m₁ 0 0 = m 0 0 := kwFk_0 f₁ (by omega)
    obtain ⟨e₂, y2, y3, y4, y5, y6, y7, y8, M, R, he₂, q₂, ro₂, f₂, u₂, k₂, c₂⟩ := i₁ (L + 1) m₁ r₁ z2 z3 z4 z5 z6 z7 z8 (by omega) q₁ ro₁ ⟨nm.1, fun i y => by rw [f₁ 1 0 2 i (by omega) (by omega) (by omega)]; exact nm.2 i y⟩ (fun i y => by
      rw [f₁ 3 4 0 i (by omega) (by omega) (by omega), f₁ 3 5 0 i (by omega) (by omega) (by omega)]
      exact dg i y) (by rw [cm]; exact k₁)
    rw [cm] at k₂
    have g := u₁.2.2.1
    refine ⟨0, y2, y3, y4, y5, y6, y7, y8, M, R, Nat.zero_le _, q₂, ro₂, kwFk_trans f₁ (kwFk_le f₂ g), kwRu_le (kwRu_trans u₁ (kwRu_le u₂ g (Nat.le_refl _) (Nat.le_refl _))) (Nat.le_refl _) (by omega) (by omega), k₂, fun f x10 => ?_⟩
    have e₃ : f + 560 * (d + 1) + 1 = (f + 560 * d + 1) + 560 := by omega
    have e₄ : f + 560 * d + 1 + e = (f + e) + 560 * d + 1 := by omega
    rw [e₃, c₁, e₄, N_add, kwCol_r h₁, c₂]
