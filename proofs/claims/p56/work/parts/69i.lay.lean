/-! LOAD: lines of flat cards. -/
def ccK208 (v2 v3 : Int32) (m : mMi) (r : mRs) : mRz := bV (F189 m r) (fun m r => bI (F203 (I (-1)) m r) (fun v6 m r => mifO (decide ((m 4 0 0 25) ≠ (N 0))) (some (.inl none, m, r)) (bI (F200 v2 v3 m r) (fun v7 m r => bV (F210 v7 v6 m r) (fun m r => some (.inl none, m, r))))))
theorem ccE208w {m : mMi} {rs : mRs} : F208 m rs = bV (F189 m rs) (fun m r => bI (F190 (N 1) ((m 4 0 0 3) - (N 1)) m r) (fun v2 m r => bI (F191 (N 0) (((m 4 0 0 2) - (N 1)) - v2) m r) (fun v3 m r => mifO (decide ((m 4 0 0 25) ≠ (N 0))) (bV (F187 (N 0) (N 5) m r) (ccK208 v2 v3)) (bI (F209 v2 v3 m r) (fun v m r => mifO (decide (v ≠ (N 0))) (bV (F187 (N 0) (N 5) m r) (ccK208 v2 v3)) (bV (F187 (N 1) (N 5) m r) (ccK208 v2 v3))))))) := rfl
theorem ccK208e {m : mMi} {rs : mRs} {x y : Int32} (h : m 4 0 0 25 ≠ N 0) : ccK208 x y m rs = rV m rs := by
  unfold ccK208
  rw [ccE189e h, ccBv, ccE203e h, ccBi, ccIte, if_pos h]
theorem ccLine_lay {mc mm : mMi} {b : Nat → Nat} {L e p s r kd w l n bd lm dp cl : Nat} {β : Nat → Int32} {W : Nat → Nat} (c : ccCx mc b L e r) (m : ccMx mm b L e s r kd) (t : ccTok b L p s r kd) (q : ccBld mc mm w l n bd lm dp cl β W) : ccLn b L e r w l bd lm dp cl (fun rs => F76 mc rs) (fun rs => F208 mm rs) mc mm := by
  have w₃ := (ccTok_b t).2.2.1
  have q₀ := m.2.1.1
  have q₁ := m.1
  have b₁ : w ≤ 12 := q.1.2.2.2.2.1
  have b₂ : l ≤ 8 := q.1.2.2.2.2.2.2.1
  have b₃ : n ≤ 40 := q.1.2.2.2.2.2.2.2
  obtain ⟨mm₁, s₁, r₁, kd₁, h₁, h₂, h₃, h₄⟩ := ccE189x m w₃
  have q₂ := ccBld_fr q (ccFc0_rfl (m := mc)) h₄
  have ml : mm₁ 4 0 0 3 = N l := q₂.2.1.2.1
  rcases ccPlace (lo := 1) c h₃ h₂ q₂.1 q₂.2.1 (by omega) with ⟨x, y, M, mm₂, s₂, r₂, kd₂, a₁, a₂, a₃, a₄, a₅, a₆, a₇, a₈, a₉, a₁₀, a₁₁, a₁₂, a₁₃, a₁₄, a₁₅⟩ | ⟨x, y, M, mm₂, mm₃, a₄, a₅, a₆, a₇, a₈, a₉, a₁₀⟩
  rotate_left
  · refine Or.inr ⟨M, mm₃, fun rs => ?_, fun rs => ?_, a₈, ccFrc_1 a₉, ccFrm_0 (ccFm0_tr h₄ a₁₀)⟩
    · show F76 mc rs = _
      unfold F76
      rw [a₄, ccBi, ccIf0]
    · show F208 mm rs = _
      rw [ccE208w, h₁, ccBv, ml, a₅, ccBi, a₇, a₆, ccBi, ccIte, if_pos (ccErd_e a₈), ccE187z, ccBv, ccK208e (ccErd_e a₈)]
  have q₃ : ccBld M mm₂ w l n bd lm dp cl β W := ccBld_f1 q₂ (fun j p => a₁₃ 1 1 j p (by omega) (by omega)) (fun j p => a₁₃ 0 2 j p (by omega) (by omega)) a₁₄
  have mw : mm₂ 4 0 0 2 = N w := q₃.2.1.1
  have x₈ := a₁₁.2.2.2.2.2.2.2.1
  have x₅ := a₁₁.2.2.2.2.1
  have tb₂ := ccTok_b a₁₂
  have J₃ := ccBld_J q₃
  have cl₁ : ∀ rs, F16 2 (N x) (N y) M rs = rI (ccT (ccMayLay (M 0 2) w l x y)) M rs := fun rs => ccE16 J₃.1.1 (by omega) (by omega)
  have cl₂ : ∀ rs, F209 (N x) (N y) mm₂ rs = rI (ccT (ccMayLay (M 0 2) w l x y)) mm₂ rs := fun rs => ccE209 (ccJ_wm J₃) a₂ (by omega)
  have A : ∀ rs, F76 mc rs = bI (F16 2 (N x) (N y) M rs) (fun v2 m2 r2 => mifO (decide (v2 ≠ (N 0))) (bI (F75 (I (-1)) m2 r2) (fun v3 m3 r3 => mifO (decide (v3 ≠ (I (-1)))) (bI (F81 1 (m3 2 3 0 5) (m3 2 3 0 6) m3 r3) (fun v4 m4 r4 => bV (F17 2 v4 v3 m4 r4) (fun m5 r5 => some (.inl (some (mI (N 1))), m5, r5)))) (some (.inl (some (mI (N 0))), m3, r3)))) (bI (F69 (N 5) m2 r2) (fun v6 m6 r6 => mckO (mZ v6 || false) (some (.inl (some (mI v6)), m6, r6))))) := fun rs => by
    unfold F76
    rw [a₄, ccBi, ccIf1, a₇, a₈]
  have B : ∀ rs, F208 mm rs = bI (F209 (N x) (N y) mm₂ rs) (fun v m r => mifO (decide (v ≠ (N 0))) (bV (F187 (N 0) (N 5) m r) (ccK208 (N x) (N y))) (bV (F187 (N 1) (N 5) m r) (ccK208 (N x) (N y)))) := fun rs => by
    rw [ccE208w, h₁, ccBv, ml, a₅, ccBi, mw, a₆, ccBi, x₈, ccIf0]
  have fc₁ : ccFrc mc M := ccFrc_1 a₁₃
  have fm₁ : ccFrm mm mm₂ := ccFrm_0 (ccFm0_tr h₄ a₁₄)
  cases g : ccMayLay (M 0 2) w l x y
  · have er := ccErd_mk (mc := M) (mm := mm₂) (k := 5) (s := s₂) (by omega) (by omega) (by omega)
    refine Or.inr ⟨ccEc M 5 s₂, ccEm mm₂ 5 s₂, fun rs => ?_, fun rs => ?_, er, ccFrc_tr fc₁ (ccFrc_0 ccEc_fr), ccFrm_tr fm₁ (ccFrm_0 ccEm_fr)⟩
    · show F76 mc rs = _
      rw [A, cl₁, g, ccBi, ccT_f, ccIf0, ccE69 a₉]
      rfl
    · show F208 mm rs = _
      rw [B, cl₂, g, ccBi, ccT_f, ccIf0, ccE187 x₈ x₅, ccBv, ccK208e (ccErd_e er)]
  obtain ⟨mm₃, s₃, r₃, kd₃, i₁, i₂, i₃, i₄⟩ := ccE189x a₁₁ tb₂.2.2.1
  have q₄ := ccBld_fr q₃ (ccFc0_rfl (m := M)) i₄
  have A₂ : ∀ rs, F76 mc rs = bI (F75 (I (-1)) M rs) (fun v3 m3 r3 => mifO (decide (v3 ≠ (I (-1)))) (bI (F81 1 (m3 2 3 0 5) (m3 2 3 0 6) m3 r3) (fun v4 m4 r4 => bV (F17 2 v4 v3 m4 r4) (fun m5 r5 => some (.inl (some (mI (N 1))), m5, r5)))) (some (.inl (some (mI (N 0))), m3, r3))) := fun rs => by
    rw [A, cl₁, g, ccBi, ccT_t, ccIf1]
  have B₂ : ∀ rs, F208 mm rs = bI (F203 (I (-1)) mm₃ rs) (fun v6 m r => mifO (decide ((m 4 0 0 25) ≠ (N 0))) (some (.inl none, m, r)) (bI (F200 (N x) (N y) m r) (fun v7 m r => bV (F210 v7 v6 m r) (fun m r => some (.inl none, m, r))))) := fun rs => by
    rw [B, cl₂, g, ccBi, ccT_t, ccIf1, ccE187z, ccBv]
    unfold ccK208
    rw [i₁, ccBv]
  have fm₂ : ccFrm mm mm₃ := ccFrm_tr fm₁ (ccFrm_0 i₄)
  rcases ccHand (x1 := I (-1)) a₁₀ i₃ i₂ q₄ with ⟨a, M₂, mm₄, s₄, r₄, kd₄, d₁, d₂, d₃, d₄, d₅, d₆, d₇, d₈, d₉, d₁₀, d₁₁⟩ | ⟨M₂, mm₄, d₄, d₅, d₆, d₇, d₈⟩
  rotate_left
  · refine Or.inr ⟨M₂, mm₄, fun rs => ?_, fun rs => ?_, d₆, ccFrc_tr fc₁ (ccFrc_0 d₇), ccFrm_tr fm₂ (ccFrm_0 d₈)⟩
    · show F76 mc rs = _
      rw [A₂, d₄, ccBi, ccIte, if_neg (fun z => z rfl)]
    · show F208 mm rs = _
      rw [B₂, d₅, ccBi, ccIte, if_pos (ccErd_e d₆)]
  have q₅ := ccBld_fr q₄ d₉ d₁₀
  have J₅ := ccBld_J q₅
  have fc₃ : ccFrc mc M₂ := ccFrc_tr fc₁ (ccFrc_0 d₉)
  have fm₃ : ccFrm mm mm₄ := ccFrm_tr fm₂ (ccFrm_0 d₁₀)
  have na : N a ≠ I (-1) := ccNI1 (by omega)
  have rw₀ : ∀ j p, M₂ 0 2 j p = M 0 2 j p := fun j p => d₉ 0 2 j p (by omega) (by omega)
  have ca : M₂ 0 2 13 a = I (-1) := by rw [rw₀]; exact d₃
  obtain ⟨v₁, v₂, v₃, v₄⟩ := ccMayLay_t g
  obtain ⟨pp, hp⟩ : ∃ pp, pp = 12 * x + y := ⟨_, rfl⟩
  have ppb : pp < 96 := by omega
  have y5 : M₂ 2 3 0 5 = N x := by rw [d₉ 2 3 0 5 (by omega) (by omega)]; exact a₇
  have y6 : M₂ 2 3 0 6 = N y := by rw [d₉ 2 3 0 6 (by omega) (by omega)]; exact a₈
  have y7 : ∀ rs, F81 1 (N x) (N y) M₂ rs = rI (N pp) M₂ rs := fun rs => by
    have y₁ := ccE81 (rs := rs) (L := x) (c := y) q₅.1 (by omega) (by omega)
    have y₂ : ccSp w l x y = N pp := by
      unfold ccSp
      rw [if_pos ⟨a₂, a₃⟩, hp]
    rw [y₂] at y₁
    exact y₁
  obtain ⟨J₈, j₁⟩ := ccLay1 (p := pp) (a := a) J₅ (by omega) (by omega) ppb d₁ ca (by rw [rw₀, hp]; exact v₂) (by rw [rw₀, hp]; exact v₃) (by rw [rw₀, hp]; exact v₄) ⟨by omega, by omega⟩
  obtain ⟨F, hF⟩ : ∃ F, F = mset (mset M₂ 0 2 6 pp (N a)) 0 2 13 a (N pp) := ⟨_, rfl⟩
  obtain ⟨G, hG⟩ : ∃ G, G = mset (mset (mset mm₄ 4 0 3 (632 + pp) (N a)) 4 0 3 (9 + 6 * a) (N 3)) 4 0 3 (10 + 6 * a) (N pp) := ⟨_, rfl⟩
  rw [← hF, ← hG] at J₈
  rw [← hF] at j₁
  have fF : ∀ f u j i, ¬ (f = 0 ∧ u = 2 ∧ (j = 6 ∨ (j = 13 ∧ i = a))) → F f u j i = M₂ f u j i := fun f u j i y₁ => by rw [hF, ccRd, if_neg (by omega), ccRd, if_neg (by omega)]
  have fG : ∀ f u j i, ¬ (f = 4 ∧ u = 0 ∧ j = 3 ∧ (i = 632 + pp ∨ i = 9 + 6 * a ∨ i = 10 + 6 * a)) → G f u j i = mm₄ f u j i := fun f u j i y₁ => by rw [hG, ccRd, if_neg (by omega), ccRd, if_neg (by omega), ccRd, if_neg (by omega)]
  have bld : ccBld F G w l n bd lm dp cl β W := by
    refine ccBld_J2 q₅ J₈ (fun j i => fF 1 1 j i (by omega)) (fun i y₁ => fG 4 0 0 i (by omega)) (fun i => fG 4 0 1 i (by omega)) (fun i y₁ y₂ => ?_) (fun k y₁ y₂ => ⟨fF 0 2 13 k (by omega), fF 0 2 12 k (by omega), fG 4 0 3 _ (by omega), fG 4 0 3 _ (by omega), fG 4 0 3 _ (by omega)⟩)
    rw [fF 0 2 2 i (by omega)] at y₂
    rw [fF 0 2 4 i (by omega), fF 0 2 5 i (by omega)]
    exact q₅.2.2.2.2.2.2.2.2.2.2.2.1 i y₁ y₂
  refine Or.inl ⟨n, β, W, F, G, r₃, s₄, r₄, kd₄, fun rs => ?_, fun rs => ?_, ccCx_fr d₆ (fun j i _ => fF 2 1 j i (by omega)) (fun i _ => fF 2 4 0 i (by omega)) (fun i _ => fF 2 3 0 i (by omega)), ccMx_fr d₇ (fun i => fG 4 0 7 i (by omega)) (fun i _ _ => fG 4 0 0 i (by omega)), d₈, bld, ccFrc_tr fc₃ (fun f u j i y₁ y₂ y₃ y₄ => fF f u j i (by omega)), ccFrm_tr fm₃ (fun f u j i y₁ => fG f u j i (by omega)), by omega⟩
  · show F76 mc rs = _
    rw [A₂, d₄, ccBi, ccIte, if_pos na, y5, y6, y7, ccBi, ccE17 ppb (by omega), ccBv, ← hF]
  · show F208 mm rs = _
    rw [B₂, d₅, ccBi, d₇.2.2.2.2.2.2.2.1, ccIf0, ccE200, ccBi, ← hp, ccE210 ppb (by omega), ccBv, ← hG]
/-- a line, of whatever kind -/
theorem ccLine {mc mm : mMi} {b : Nat → Nat} {L e p s r kd w l n bd lm dp cl : Nat} {β : Nat → Int32} {W : Nat → Nat} (c : ccCx mc b L e p) (m : ccMx mm b L e s r kd) (t : ccTok b L p s r kd) (q : ccBld mc mm w l n bd lm dp cl β W) : ccLn b L e r w l bd lm dp cl (fun rs => F71 mc rs) (fun rs => F192 mm rs) mc mm := by
  have q₀ := m.2.1.1
  have q₁ := m.1
  have m₈ := m.2.2.2.2.2.2.2.1
  have m₅ := m.2.2.2.2.1
  have tb := ccTok_b t
  obtain ⟨m₁, k₁, k₂, k₃, k₄⟩ := ccE94x c t
  have q₂ := ccBld_fr q k₄ (ccFm0_rfl (m := mm))
  have c2 : ∀ rs, F97 2 m₁ rs = rI (ccT (ccWrd b s r kd 2)) m₁ rs := fun rs => ccE97 (k := 2) (by omega) k₃ k₂ t
  have c3 : ∀ rs, F97 3 m₁ rs = rI (ccT (ccWrd b s r kd 3)) m₁ rs := fun rs => ccE97 (k := 3) (by omega) k₃ k₂ t
  have c4 : ∀ rs, F97 4 m₁ rs = rI (ccT (ccWrd b s r kd 4)) m₁ rs := fun rs => ccE97 (k := 4) (by omega) k₃ k₂ t
  have d2 : ∀ rs, F186 9 mm rs = rI (ccT (ccWrd b s r kd 2)) mm rs := fun rs => ccE186 (k := 2) (by omega) m t
  have d3 : ∀ rs, F186 10 mm rs = rI (ccT (ccWrd b s r kd 3)) mm rs := fun rs => ccE186 (k := 3) (by omega) m t
  have d4 : ∀ rs, F186 11 mm rs = rI (ccT (ccWrd b s r kd 4)) mm rs := fun rs => ccE186 (k := 4) (by omega) m t
  have step : ∀ Fc Fm : mRs → mRz, ccLn b L e r w l bd lm dp cl Fc Fm m₁ mm → (∀ v M rs, Fc rs = rI (N v) M rs → v ≤ 1 → F71 mc rs = rI (N v) M rs) → (∀ M rs, Fm rs = rV M rs → F192 mm rs = rV M rs) → ccLn b L e r w l bd lm dp cl (fun rs => F71 mc rs) (fun rs => F192 mm rs) mc mm := fun Fc Fm h₁ h₂ h₃ => by
    rcases h₁ with ⟨n', β', W', mc₁, mm₁, p', s', r', kd', x₁, x₂, x₃, x₄, x₅, x₆, x₇, x₈, x₉⟩ | ⟨mc₁, mm₁, x₁, x₂, x₃, x₄, x₅⟩
    · exact Or.inl ⟨n', β', W', mc₁, mm₁, p', s', r', kd', fun rs => h₂ 1 _ rs (x₁ rs) (by omega), fun rs => h₃ _ rs (x₂ rs), x₃, x₄, x₅, x₆, ccFrc_tr (ccFrc_0 k₄) x₇, x₈, x₉⟩
    · exact Or.inr ⟨mc₁, mm₁, fun rs => h₂ 0 _ rs (x₁ rs) (by omega), fun rs => h₃ _ rs (x₂ rs), x₃, ccFrc_tr (ccFrc_0 k₄) x₄, x₅⟩
  have z01 : ∀ v, v ≤ 1 → (mZ (N v) || false) = true := fun v y₁ => by
    have y₂ : v = 0 ∨ v = 1 := by omega
    rcases y₂ with y₂ | y₂ <;> subst y₂ <;> rfl
  cases g₂ : ccWrd b s r kd 2
  rotate_left
  · refine step _ _ (ccLine_card k₃ k₂.2.1 m t q₂) (fun v M rs y₁ y₂ => ?_) (fun M rs y₁ => ?_)
    · have y₃ : ccCdc m₁ rs = rI (N v) M rs := y₁
      have y₄ : F71 mc rs = ccCdc m₁ rs := by
        unfold F71
        rw [k₁, ccBv, c2, g₂, ccBi, ccT_t, ccIf1e]
        rfl
      rw [y₄, y₃]
    · have y₃ : F193 mm rs = rV M rs := y₁
      unfold F192
      rw [d2, g₂, ccBi, ccT_t, ccIf1e, y₃, ccBv]
  cases g₃ : ccWrd b s r kd 3
  rotate_left
  · refine step _ _ (ccLine_lean k₃ m t q₂) (fun v M rs y₁ y₂ => ?_) (fun M rs y₁ => ?_)
    · have y₃ : F73 m₁ rs = rI (N v) M rs := y₁
      unfold F71
      rw [k₁, ccBv, c2, g₂, ccBi, ccT_f, ccIf0e, c3, g₃, ccBi, ccT_t, ccIf1e, y₃, ccBi, ccMck (z01 v y₂)]
    · have y₃ : F196 mm rs = rV M rs := y₁
      unfold F192
      rw [d2, g₂, ccBi, ccT_f, ccIf0e, d3, g₃, ccBi, ccT_t, ccIf1e, y₃, ccBv]
  cases g₄ : ccWrd b s r kd 4
  rotate_left
  · refine step _ _ (ccLine_lay k₃ m t q₂) (fun v M rs y₁ y₂ => ?_) (fun M rs y₁ => ?_)
    · have y₃ : F76 m₁ rs = rI (N v) M rs := y₁
      unfold F71
      rw [k₁, ccBv, c2, g₂, ccBi, ccT_f, ccIf0e, c3, g₃, ccBi, ccT_f, ccIf0e, c4, g₄, ccBi, ccT_t, ccIf1e, y₃, ccBi, ccMck (z01 v y₂)]
    · have y₃ : F208 mm rs = rV M rs := y₁
      unfold F192
      rw [d2, g₂, ccBi, ccT_f, ccIf0e, d3, g₃, ccBi, ccT_f, ccIf0e, d4, g₄, ccBi, ccT_t, ccIf1e, y₃, ccBv]
  have er := ccErd_mk (mc := m₁) (mm := mm) (k := 1) (s := s) (by omega) (by omega) (by omega)
  refine Or.inr ⟨ccEc m₁ 1 s, ccEm mm 1 s, fun rs => ?_, fun rs => ?_, er, ccFrc_0 (ccFc0_tr k₄ ccEc_fr), ccFrm_0 ccEm_fr⟩
  · show F71 mc rs = _
    unfold F71
    rw [k₁, ccBv, c2, g₂, ccBi, ccT_f, ccIf0e, c3, g₃, ccBi, ccT_f, ccIf0e, c4, g₄, ccBi, ccT_f, ccIf0e, ccE69 k₂.2.1]
    rfl
  · show F192 mm rs = _
    unfold F192
    rw [d2, g₂, ccBi, ccT_f, ccIf0e, d3, g₃, ccBi, ccT_f, ccIf0e, d4, g₄, ccBi, ccT_f, ccIf0e, ccE188 m₈ m₅, ccBv]
