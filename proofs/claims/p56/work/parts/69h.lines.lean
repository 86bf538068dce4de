/-! LOAD: lines of leaning and of flat cards. -/
theorem ccBld_f1 {mc mm m₁ m₂ : mMi} {w l n bd lm dp cl : Nat} {β : Nat → Int32} {W : Nat → Nat} (q : ccBld mc mm w l n bd lm dp cl β W) (h₁ : ∀ j p, m₁ 1 1 j p = mc 1 1 j p) (h₂ : ∀ j p, m₁ 0 2 j p = mc 0 2 j p) (h₃ : ccFm0 mm m₂) : ccBld m₁ m₂ w l n bd lm dp cl β W := by
  have q₂ := ccBld_fr q (ccFc0_rfl (m := mc)) h₃
  have e₁ : m₁ 1 1 = mc 1 1 := by
    funext j p
    exact h₁ j p
  have e₂ : m₁ 0 2 = mc 0 2 := by
    funext j p
    exact h₂ j p
  unfold ccBld ccRu ccNm7 at q₂ ⊢
  rw [e₁, e₂]
  exact q₂
theorem ccBld_J2 {mc mm m₁ m₂ : mMi} {w l n bd lm dp cl : Nat} {β : Nat → Int32} {W : Nat → Nat} (q : ccBld mc mm w l n bd lm dp cl β W) (J : ccJ m₁ m₂ 2 w l n bd β (fun k => N (W k)) W 0 0) (h₁ : ∀ j p, m₁ 1 1 j p = mc 1 1 j p) (h₂ : ∀ p, p ≤ 8 → m₂ 4 0 0 p = mm 4 0 0 p) (h₃ : ∀ p, m₂ 4 0 1 p = mm 4 0 1 p)
    (g₃ : ∀ p, p < 96 → m₁ 0 2 2 p ≠ I (-1) → (∃ a, m₁ 0 2 4 p = N a ∧ 20 ≤ a ∧ a ≤ 70) ∧ m₁ 0 2 5 p = N 0) (g₄ : ∀ k, n ≤ k → k < 40 → m₁ 0 2 13 k = mc 0 2 13 k ∧ m₁ 0 2 12 k = mc 0 2 12 k ∧ m₂ 4 0 3 (9 + 6 * k) = mm 4 0 3 (9 + 6 * k) ∧ m₂ 4 0 3 (11 + 6 * k) = mm 4 0 3 (11 + 6 * k) ∧ m₂ 4 0 3 (12 + 6 * k) = mm 4 0 3 (12 + 6 * k)) : ccBld m₁ m₂ w l n bd lm dp cl β W := by
  obtain ⟨a, b, c, ⟨d₁, d₂, d₃⟩, ⟨d₄, d₅, d₆⟩, ⟨d₇, d₈, d₉⟩, e₁, e₂, f, k₁, k₂, k₃, k₄⟩ := q
  obtain ⟨⟨j₁, j₂, j₃, j₄, j₅, j₆, j₇, j₈⟩, i₁, i₂, i₃, i₄⟩ := J
  refine ⟨j₁, j₃, ⟨j₂, j₄, j₅⟩, ⟨by rw [h₁]; exact d₁, by rw [h₂ 4 (by omega)]; exact d₂, d₃⟩, ⟨by rw [h₁]; exact d₄, by rw [h₂ 5 (by omega)]; exact d₅, d₆⟩, ⟨by rw [h₁]; exact d₇, by rw [h₂ 6 (by omega)]; exact d₈, d₉⟩, j₆, ⟨j₇, i₁⟩, ⟨i₂, i₃, i₄⟩, fun k y₁ => by rw [h₁]; exact k₁ k y₁, fun k y₁ => ?_, g₃, fun k y₁ y₂ => ?_⟩
  · obtain ⟨g, u, x₁, x₂, x₃, x₄, x₅⟩ := k₂ k y₁
    exact ⟨g, u, x₁, x₂, fun i z₁ => ⟨(x₃ i z₁).1, (x₃ i z₁).2.1, by rw [h₃]; exact (x₃ i z₁).2.2⟩, fun i z₁ z₂ => by rw [h₃]; exact x₄ i z₁ z₂, by rw [h₁]; exact x₅⟩
  · obtain ⟨z₁, z₂, z₃, z₄, z₅⟩ := g₄ k y₁ y₂
    rw [z₁, z₂, z₃, z₄, z₅]
    exact k₄ k y₁ y₂
theorem ccFrc_1 {m m₁ : mMi} (h : ccFc1 m m₁) : ccFrc m m₁ := fun f a j q y₁ y₂ y₃ y₄ => h f a j q y₁ y₂
def ccK196 (v2 v3 : Int32) (m : mMi) (r : mRs) : mRz := bV (F189 m r) (fun m r => bI (F203 (I (-1)) m r) (fun v6 m r => bI (F203 v6 m r) (fun v7 m r => bI (F190 (N 20) (N 70) m r) (fun v8 m r => mifO (decide ((m 4 0 0 25) ≠ (N 0))) (some (.inl none, m, r)) (bI (F200 v2 v3 m r) (fun v9 m r => bV (F205 v9 v6 v7 v8 m r) (fun m r => some (.inl none, m, r))))))))
theorem ccE196w {m : mMi} {rs : mRs} : F196 m rs = bV (F189 m rs) (fun m r => bI (F190 (N 0) ((m 4 0 0 3) - (N 1)) m r) (fun v2 m r => bI (F191 (N 0) (((m 4 0 0 2) - (N 1)) - v2) m r) (fun v3 m r => mifO (decide ((m 4 0 0 25) ≠ (N 0))) (bV (F187 (N 0) (N 5) m r) (ccK196 v2 v3)) (bI (F197 v2 v3 m r) (fun v m r => mifO (decide (v ≠ (N 0))) (bV (F187 (N 0) (N 5) m r) (ccK196 v2 v3)) (bV (F187 (N 1) (N 5) m r) (ccK196 v2 v3))))))) := rfl
theorem ccK196e {m : mMi} {rs : mRs} {x y : Int32} (h : m 4 0 0 25 ≠ N 0) : ccK196 x y m rs = rV m rs := by
  unfold ccK196
  rw [ccE189e h, ccBv, ccE203e h, ccBi, ccE203e h, ccBi, ccE190e h, ccBi, ccIte, if_pos h]
theorem ccLine_lean {mc mm : mMi} {b : Nat → Nat} {L e p s r kd w l n bd lm dp cl : Nat} {β : Nat → Int32} {W : Nat → Nat} (c : ccCx mc b L e r) (m : ccMx mm b L e s r kd) (t : ccTok b L p s r kd) (q : ccBld mc mm w l n bd lm dp cl β W) : ccLn b L e r w l bd lm dp cl (fun rs => F73 mc rs) (fun rs => F196 mm rs) mc mm := by
  have w₃ := (ccTok_b t).2.2.1
  have q₀ := m.2.1.1
  have q₁ := m.1
  have b₁ : w ≤ 12 := q.1.2.2.2.2.1
  have b₂ : l ≤ 8 := q.1.2.2.2.2.2.2.1
  have b₃ : n ≤ 40 := q.1.2.2.2.2.2.2.2
  have z0 : (mZ (N 0) || false) = true := rfl
  obtain ⟨mm₁, s₁, r₁, kd₁, h₁, h₂, h₃, h₄⟩ := ccE189x m w₃
  have q₂ := ccBld_fr q (ccFc0_rfl (m := mc)) h₄
  have ml : mm₁ 4 0 0 3 = N l := q₂.2.1.2.1
  rcases ccPlace (lo := 0) c h₃ h₂ q₂.1 q₂.2.1 (by omega) with ⟨x, y, M, mm₂, s₂, r₂, kd₂, a₁, a₂, a₃, a₄, a₅, a₆, a₇, a₈, a₉, a₁₀, a₁₁, a₁₂, a₁₃, a₁₄, a₁₅⟩ | ⟨x, y, M, mm₂, mm₃, a₄, a₅, a₆, a₇, a₈, a₉, a₁₀⟩
  rotate_left
  · refine Or.inr ⟨M, mm₃, fun rs => ?_, fun rs => ?_, a₈, ccFrc_1 a₉, ccFrm_0 (ccFm0_tr h₄ a₁₀)⟩
    · show F73 mc rs = _
      unfold F73
      rw [a₄, ccBi, ccIf0]
    · show F196 mm rs = _
      rw [ccE196w, h₁, ccBv, ml, a₅, ccBi, a₇, a₆, ccBi, ccIte, if_pos (ccErd_e a₈), ccE187z, ccBv, ccK196e (ccErd_e a₈)]
  have q₃ : ccBld M mm₂ w l n bd lm dp cl β W := ccBld_f1 q₂ (fun j p => a₁₃ 1 1 j p (by omega) (by omega)) (fun j p => a₁₃ 0 2 j p (by omega) (by omega)) a₁₄
  have q₃m := q₃.2.1
  have mw : mm₂ 4 0 0 2 = N w := q₃.2.1.1
  have x₈ := a₁₁.2.2.2.2.2.2.2.1
  have x₅ := a₁₁.2.2.2.2.1
  have tb₂ := ccTok_b a₁₂
  have J₃ := ccBld_J q₃
  have cl₁ : ∀ rs, F12 2 (N x) (N y) M rs = rI (ccT (ccMayLean (M 0 2) w l x y)) M rs := fun rs => ccE12 J₃.1.1 (by omega) (by omega)
  have cl₂ : ∀ rs, F197 (N x) (N y) mm₂ rs = rI (ccT (ccMayLean (M 0 2) w l x y)) mm₂ rs := fun rs => ccE197 (ccJ_wm J₃) (by omega) (by omega)
  have A : ∀ rs, F73 mc rs = bI (F12 2 (N x) (N y) M rs) (fun v2 m2 r2 => mifO (decide (v2 ≠ (N 0))) (bI (F75 (I (-1)) m2 r2) (fun v3 m3 r3 => mifO (decide (v3 ≠ (I (-1)))) (bI (F75 v3 m3 r3) (fun v4 m4 r4 => mifO (decide (v4 = (I (-1)))) (some (.inl (some (mI (N 0))), m4, r4)) (bI (F70 (N 20) (N 70) m4 r4) (fun v5 m5 r5 => mifO (decide (v5 ≠ (N 0))) (bI (F81 1 (m5 2 3 0 5) (m5 2 3 0 6) m5 r5) (fun v6 m6 r6 => bV (F15 2 v6 v3 v4 (m6 2 4 0 5) m6 r6) (fun m7 r7 => some (.inl (some (mI (N 1))), m7, r7)))) (some (.inl (some (mI (N 0))), m5, r5)))))) (some (.inl (some (mI (N 0))), m3, r3)))) (bI (F69 (N 5) m2 r2) (fun v8 m8 r8 => mckO (mZ v8 || false) (some (.inl (some (mI v8)), m8, r8))))) := fun rs => by
    unfold F73
    rw [a₄, ccBi, ccIf1, a₇, a₈]
  have B : ∀ rs, F196 mm rs = bI (F197 (N x) (N y) mm₂ rs) (fun v m r => mifO (decide (v ≠ (N 0))) (bV (F187 (N 0) (N 5) m r) (ccK196 (N x) (N y))) (bV (F187 (N 1) (N 5) m r) (ccK196 (N x) (N y)))) := fun rs => by
    rw [ccE196w, h₁, ccBv, ml, a₅, ccBi, mw, a₆, ccBi, x₈, ccIf0]
  have fc₁ : ccFrc mc M := ccFrc_1 a₁₃
  have fm₁ : ccFrm mm mm₂ := ccFrm_0 (ccFm0_tr h₄ a₁₄)
  cases g : ccMayLean (M 0 2) w l x y
  · have er := ccErd_mk (mc := M) (mm := mm₂) (k := 5) (s := s₂) (by omega) (by omega) (by omega)
    refine Or.inr ⟨ccEc M 5 s₂, ccEm mm₂ 5 s₂, fun rs => ?_, fun rs => ?_, er, ccFrc_tr fc₁ (ccFrc_0 ccEc_fr), ccFrm_tr fm₁ (ccFrm_0 ccEm_fr)⟩
    · show F73 mc rs = _
      rw [A, cl₁, g, ccBi, ccT_f, ccIf0, ccE69 a₉]
      rfl
    · show F196 mm rs = _
      rw [B, cl₂, g, ccBi, ccT_f, ccIf0, ccE187 x₈ x₅, ccBv, ccK196e (ccErd_e er)]
  obtain ⟨mm₃, s₃, r₃, kd₃, i₁, i₂, i₃, i₄⟩ := ccE189x a₁₁ tb₂.2.2.1
  have q₄ := ccBld_fr q₃ (ccFc0_rfl (m := M)) i₄
  have A₂ : ∀ rs, F73 mc rs = bI (F75 (I (-1)) M rs) (fun v3 m3 r3 => mifO (decide (v3 ≠ (I (-1)))) (bI (F75 v3 m3 r3) (fun v4 m4 r4 => mifO (decide (v4 = (I (-1)))) (some (.inl (some (mI (N 0))), m4, r4)) (bI (F70 (N 20) (N 70) m4 r4) (fun v5 m5 r5 => mifO (decide (v5 ≠ (N 0))) (bI (F81 1 (m5 2 3 0 5) (m5 2 3 0 6) m5 r5) (fun v6 m6 r6 => bV (F15 2 v6 v3 v4 (m6 2 4 0 5) m6 r6) (fun m7 r7 => some (.inl (some (mI (N 1))), m7, r7)))) (some (.inl (some (mI (N 0))), m5, r5)))))) (some (.inl (some (mI (N 0))), m3, r3))) := fun rs => by
    rw [A, cl₁, g, ccBi, ccT_t, ccIf1]
  have B₂ : ∀ rs, F196 mm rs = bI (F203 (I (-1)) mm₃ rs) (fun v6 m r => bI (F203 v6 m r) (fun v7 m r => bI (F190 (N 20) (N 70) m r) (fun v8 m r => mifO (decide ((m 4 0 0 25) ≠ (N 0))) (some (.inl none, m, r)) (bI (F200 (N x) (N y) m r) (fun v9 m r => bV (F205 v9 v6 v7 v8 m r) (fun m r => some (.inl none, m, r))))))) := fun rs => by
    rw [B, cl₂, g, ccBi, ccT_t, ccIf1, ccE187z, ccBv]
    unfold ccK196
    rw [i₁, ccBv]
  have fm₂ : ccFrm mm mm₃ := ccFrm_tr fm₁ (ccFrm_0 i₄)
  rcases ccHand (x1 := I (-1)) a₁₀ i₃ i₂ q₄ with ⟨a, M₂, mm₄, s₄, r₄, kd₄, d₁, d₂, d₃, d₄, d₅, d₆, d₇, d₈, d₉, d₁₀, d₁₁⟩ | ⟨M₂, mm₄, d₄, d₅, d₆, d₇, d₈⟩
  rotate_left
  · refine Or.inr ⟨M₂, mm₄, fun rs => ?_, fun rs => ?_, d₆, ccFrc_tr fc₁ (ccFrc_0 d₇), ccFrm_tr fm₂ (ccFrm_0 d₈)⟩
    · show F73 mc rs = _
      rw [A₂, d₄, ccBi, ccIte, if_neg (fun z => z rfl)]
    · show F196 mm rs = _
      rw [B₂, d₅, ccBi, ccE203e (ccErd_e d₆), ccBi, ccE190e (ccErd_e d₆), ccBi, ccIte, if_pos (ccErd_e d₆)]
  have q₅ := ccBld_fr q₄ d₉ d₁₀
  have fc₃ : ccFrc mc M₂ := ccFrc_tr fc₁ (ccFrc_0 d₉)
  have fm₃ : ccFrm mm mm₄ := ccFrm_tr fm₂ (ccFrm_0 d₁₀)
  have na : N a ≠ I (-1) := ccNI1 (by omega)
  rcases ccHand (x1 := N a) d₆ d₇ d₈ q₅ with ⟨a', M₃, mm₅, s₅, r₅, kd₅, k₁, k₂, k₃, k₄, k₅, k₆, k₇, k₈, k₉, k₁₀, k₁₁⟩ | ⟨M₃, mm₅, k₄, k₅, k₆, k₇, k₈⟩
  rotate_left
  · refine Or.inr ⟨M₃, mm₅, fun rs => ?_, fun rs => ?_, k₆, ccFrc_tr fc₃ (ccFrc_0 k₇), ccFrm_tr fm₃ (ccFrm_0 k₈)⟩
    · show F73 mc rs = _
      rw [A₂, d₄, ccBi, ccIte, if_pos na, k₄, ccBi, ccIte, if_pos rfl]
    · show F196 mm rs = _
      rw [B₂, d₅, ccBi, k₅, ccBi, ccE190e (ccErd_e k₆), ccBi, ccIte, if_pos (ccErd_e k₆)]
  have q₆ := ccBld_fr q₅ k₉ k₁₀
  have fc₄ : ccFrc mc M₃ := ccFrc_tr fc₃ (ccFrc_0 k₉)
  have fm₄ : ccFrm mm mm₅ := ccFrm_tr fm₃ (ccFrm_0 k₁₀)
  have na' : ¬ N a' = I (-1) := ccNI1 (by omega)
  rcases ccNumbN (lo := 20) (h := 71) k₆ k₇ k₈ (by omega) (ccHi (k := 70) (by omega)).1 (ccHi (k := 70) (by omega)).2 with ⟨z, M₄, mm₆, s₆, r₆, kd₆, u₁, u₂, u₃, u₄, u₅, u₆, u₇, u₈, u₉, u₁₀, u₁₁, u₁₂⟩ | ⟨M₄, mm₆, u₁, u₂, u₃, u₄, u₅⟩
  rotate_left
  · refine Or.inr ⟨M₄, mm₆, fun rs => ?_, fun rs => ?_, u₃, ccFrc_tr fc₄ (ccFrc_0 u₄), ccFrm_tr fm₄ (ccFrm_0 u₅)⟩
    · show F73 mc rs = _
      rw [A₂, d₄, ccBi, ccIte, if_pos na, k₄, ccBi, ccIte, if_neg na', u₁, ccBi, ccIf0]
    · show F196 mm rs = _
      rw [B₂, d₅, ccBi, k₅, ccBi, u₂, ccBi, ccIte, if_pos (ccErd_e u₃)]
  have q₇ := ccBld_fr q₆ u₁₀ u₁₁
  have J₇ := ccBld_J q₇
  have rw₀ : ∀ j p, M₄ 0 2 j p = M 0 2 j p := fun j p => by rw [u₁₀ 0 2 j p (by omega) (by omega), k₉ 0 2 j p (by omega) (by omega), d₉ 0 2 j p (by omega) (by omega)]
  have ca : M₄ 0 2 13 a = I (-1) := by rw [rw₀]; exact d₃
  have ca' : M₄ 0 2 13 a' = I (-1) := by rw [u₁₀ 0 2 13 a' (by omega) (by omega), k₉ 0 2 13 a' (by omega) (by omega)]; exact k₃
  have aa : a ≠ a' := fun y₁ => k₂ (by rw [y₁])
  obtain ⟨v₁, v₂⟩ := ccMayLean_t a₂ a₃ g
  obtain ⟨pp, hp⟩ : ∃ pp, pp = 12 * x + y := ⟨_, rfl⟩
  have hp₁ : pp / 12 = x ∧ pp % 12 = y := by omega
  have y5 : M₄ 2 3 0 5 = N x := by rw [u₁₀ 2 3 0 5 (by omega) (by omega), k₉ 2 3 0 5 (by omega) (by omega), d₉ 2 3 0 5 (by omega) (by omega)]; exact a₇
  have y6 : M₄ 2 3 0 6 = N y := by rw [u₁₀ 2 3 0 6 (by omega) (by omega), k₉ 2 3 0 6 (by omega) (by omega), d₉ 2 3 0 6 (by omega) (by omega)]; exact a₈
  have y7 : ∀ rs, F81 1 (N x) (N y) M₄ rs = rI (N pp) M₄ rs := fun rs => by
    have y₁ := ccE81 (rs := rs) (L := x) (c := y) q₇.1 (by omega) (by omega)
    have y₂ : ccSp w l x y = N pp := by
      unfold ccSp
      rw [if_pos ⟨a₂, a₃⟩, hp]
    rw [y₂] at y₁
    exact y₁
  obtain ⟨J₈, j₁, j₂, j₃⟩ := ccLean1 (p := pp) (a := a) (b := a') (g := N z) J₇ (by omega) (by omega) d₁ k₁ aa ca ca' (by rw [rw₀, hp]; exact v₁) (fun y₁ => by rw [rw₀, hp]; exact v₂ (by omega)) ⟨by omega, by omega⟩
  obtain ⟨F, hF⟩ : ∃ F, F = mset (mset (mset (mset (mset (mset M₄ 0 2 2 pp (N a)) 0 2 3 pp (N a')) 0 2 4 pp (N z)) 0 2 5 pp (N 0)) 0 2 13 a (N pp)) 0 2 13 a' (N pp) := ⟨_, rfl⟩
  obtain ⟨G, hG⟩ : ∃ G, G = mset (mset (mset (mset (mset (mset (mset (mset mm₆ 4 0 3 (248 + 4 * pp) (N a)) 4 0 3 (249 + 4 * pp) (N a')) 4 0 3 (250 + 4 * pp) (N z)) 4 0 3 (251 + 4 * pp) (N 0)) 4 0 3 (9 + 6 * a) (N 2)) 4 0 3 (10 + 6 * a) (N pp)) 4 0 3 (9 + 6 * a') (N 2)) 4 0 3 (10 + 6 * a') (N pp) := ⟨_, rfl⟩
  rw [← hF, ← hG] at J₈
  rw [← hF] at j₁ j₂ j₃
  have fF : ∀ f u j i, ¬ (f = 0 ∧ u = 2 ∧ ((2 ≤ j ∧ j ≤ 5) ∨ (j = 13 ∧ (i = a ∨ i = a')))) → F f u j i = M₄ f u j i := fun f u j i y₁ => by rw [hF, ccRd, if_neg (by omega), ccRd, if_neg (by omega), ccRd, if_neg (by omega), ccRd, if_neg (by omega), ccRd, if_neg (by omega), ccRd, if_neg (by omega)]
  have fG : ∀ f u j i, ¬ (f = 4 ∧ u = 0 ∧ j = 3 ∧ ((248 + 4 * pp ≤ i ∧ i ≤ 251 + 4 * pp) ∨ i = 9 + 6 * a ∨ i = 10 + 6 * a ∨ i = 9 + 6 * a' ∨ i = 10 + 6 * a')) → G f u j i = mm₆ f u j i := fun f u j i y₁ => by rw [hG, ccRd, if_neg (by omega), ccRd, if_neg (by omega), ccRd, if_neg (by omega), ccRd, if_neg (by omega), ccRd, if_neg (by omega), ccRd, if_neg (by omega), ccRd, if_neg (by omega), ccRd, if_neg (by omega)]
  have ppb : pp < 96 := by omega
  have bld : ccBld F G w l n bd lm dp cl β W := by
    refine ccBld_J2 q₇ J₈ (fun j i => fF 1 1 j i (by omega)) (fun i y₁ => fG 4 0 0 i (by omega)) (fun i => fG 4 0 1 i (by omega)) (fun i y₁ y₂ => ?_) (fun k y₁ y₂ => ⟨fF 0 2 13 k (by omega), fF 0 2 12 k (by omega), fG 4 0 3 _ (by omega), fG 4 0 3 _ (by omega), fG 4 0 3 _ (by omega)⟩)
    rw [j₁] at y₂
    rw [j₂, j₃]
    by_cases y₃ : i = pp
    · rw [if_pos y₃, if_pos y₃]
      exact ⟨⟨z, rfl, u₁, by omega⟩, rfl⟩
    · rw [if_neg y₃] at y₂
      rw [if_neg y₃, if_neg y₃]
      exact q₇.2.2.2.2.2.2.2.2.2.2.2.1 i y₁ y₂
  refine Or.inl ⟨n, β, W, F, G, r₅, s₆, r₆, kd₆, fun rs => ?_, fun rs => ?_, ccCx_fr u₇ (fun j i _ => fF 2 1 j i (by omega)) (fun i _ => fF 2 4 0 i (by omega)) (fun i _ => fF 2 3 0 i (by omega)), ccMx_fr u₈ (fun i => fG 4 0 7 i (by omega)) (fun i _ _ => fG 4 0 0 i (by omega)), u₉, bld, ccFrc_tr (ccFrc_tr fc₄ (ccFrc_0 u₁₀)) (fun f u j i y₁ y₂ y₃ y₄ => fF f u j i (by omega)), ccFrm_tr (ccFrm_tr fm₄ (ccFrm_0 u₁₁)) (fun f u j i y₁ => fG f u j i (by omega)), by omega⟩
  · show F73 mc rs = _
    rw [A₂, d₄, ccBi, ccIte, if_pos na, k₄, ccBi, ccIte, if_neg na', u₄, ccBi, ccIf1, y5, y6, y7, ccBi, u₆, ccE15 (by omega) (by omega) (by omega), ccBv, ← hF]
  · show F196 mm rs = _
    rw [B₂, d₅, ccBi, k₅, ccBi, u₅, ccBi, u₈.2.2.2.2.2.2.2.1, ccIf0, ccE200, ccBi, ← hp, ccE205 (by omega) (by omega) (by omega), ccBv, ← hG]
