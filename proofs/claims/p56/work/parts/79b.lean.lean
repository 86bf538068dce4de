/-! THE ARMS of an act: taken down; no cards; leaned. -/
theorem kwAd_well {m : mMi} {r : mRs} {L B w l n lm dp cl bd T Z D L₁ c₁ : Nat} {β : Nat → Int32} {W : Nat → Nat} {v : Int32} (q : kwI m r B w l n lm dp cl bd β W T Z D) (bT : T ≤ 800000000) (h₁ : L₁ < l) (h₂ : L₁ + c₁ < w) : kwWell m r B w l n lm dp cl bd β W (T + 192) Z D (kwAd L B v (N L₁) (N c₁) m r) := by
  have hB := q.2.2.2.2
  obtain ⟨h₀, ru⟩ := kwI_0 q
  obtain ⟨s, g, k, cd, _⟩ := kwI_U q
  have b₁ : w ≤ 12 := ru.2.2.2.2.1
  have b₂ : l ≤ 8 := ru.2.2.2.2.2.2.1
  have b₃ : n ≤ 40 := ru.2.2.2.2.2.2.2
  have e₁ := kwE178 (rs := r) (L := L₁) (c := c₁) hB s g cd (by omega) (by omega)
  have e₂ := kwE179 (rs := r) (L := L₁ + 1) (c := c₁) hB s g cd (by omega) (by omega)
  obtain ⟨bl, f₁, f₂⟩ : ∃ bl, H179 B (N L₁ + N 1) (N c₁ - N 1) m r = rI (ccT bl) m r ∧ ccFree (m 0 0) w l L₁ c₁ = (!bl && !(ccHF (m 0 0) w l (L₁ + 1) c₁)) := by
    cases c₁ with
    | zero =>
      have e₀ : N 0 - N 1 = I (-1) := rfl
      refine ⟨false, ?_, rfl⟩
      rw [N_add, e₀]
      exact kwE179m hB (by omega)
    | succ c =>
      have e₀ : N (c + 1) - N 1 = N c := by rw [N_sub (by omega), Nat.add_sub_cancel]
      refine ⟨ccHF (m 0 0) w l (L₁ + 1) c, ?_, rfl⟩
      rw [N_add, e₀]
      exact kwE179 (rs := r) (L := L₁ + 1) (c := c) hB s g cd (by omega) (by omega)
  have no : ccFree (m 0 0) w l L₁ c₁ = false → kwWell m r B w l n lm dp cl bd β W (T + 192) Z D (H241_936 L B v (N L₁) (N c₁) (m 6 B 0 20) m r) := fun y₁ => kwWell_T (kwArm15 q h₁ h₂ (fun y => by
    rw [y₁] at y
    exact absurd y.2 (by decide))) (by omega)
  unfold kwAd
  rw [e₁, ccBi, hB, ccMckT]
  cases g₁ : ccHP (m 0 0) w l L₁ c₁
  · rw [ccT_f, ccIf0e]
    exact kwWell_T (kwArm15 q h₁ h₂ (fun y => by
      rw [g₁] at y
      exact absurd y.1 (by decide))) (by omega)
  · rw [ccT_t, ccIf1e, f₁, ccBi, hB, ccMckT]
    cases bl
    · rw [ccT_f, ccIf0, N_add, e₂, ccBi, hB, ccMckT]
      cases g₃ : ccHF (m 0 0) w l (L₁ + 1) c₁
      · rw [g₃] at f₂
        obtain ⟨_, _, g₄⟩ := ccHP_t g₁
        obtain ⟨a, b, a₁, a₂, a₃, a₄⟩ := cd.1 (12 * L₁ + c₁) (by omega) g₄
        obtain ⟨w₀, _, w₃⟩ := g L₁ c₁ (by omega) (by omega)
        have w₁ : m 20 B L₁ c₁ = N a := by rw [w₀]; exact a₃
        have w₂ : m 21 B L₁ c₁ = N b := by rw [(w₃ g₄).1]; exact a₄
        obtain ⟨m₁, m₂, v₁, ⟨x₁, x₃⟩, k₂, k₃, k₄, k₅, k₆, k₇, k₈⟩ := kwStepW q.1 (kwCn_f (fun mw a b y₁ y₂ => by rw [y₁, y₂])) (kwHop160 (L := L₁) (c := c₁) (a := a) (b := b) q.1 q.2.1 bT h₁ h₂ a₁ a₂ a₃ a₄ f₂)
        obtain ⟨o₀, o₁, o₂⟩ := kwFr_k k₆ h₀ ru
        have e₃ : F160 (N L₁) (N c₁) m₁ r = rI v₁ m₂ r := by
          rw [kwE160 o₁ o₂ h₁ h₂, o₀, if_pos ⟨g₁, f₂⟩]
          exact k₂ r
        have q₁ := kwI_s q k₃ k₄ k₅
        obtain ⟨s', g', k', cd', _⟩ := kwI_U q₁
        refine ⟨m₂, r, ?_, q₁, kwRs_le kwRs_rfl (by omega) (by omega), kwFy_x k₅⟩
        rw [ccT_f, ccIf0e, ccMckIn (by omega : L₁ < 10) (by omega), ccMckIn (by omega : c₁ < 14) (by omega), mix_N (by omega), mix_N (by omega), w₁, w₂, ccMckIn (by omega : a < 40) (by omega), ccMckIn (by omega : L₁ < 10) (by omega), ccMckIn (by omega : c₁ < 14) (by omega), ccMckIn (by omega : b < 40) (by omega), ccMckIn (by omega : L₁ < 10) (by omega), ccMckIn (by omega : c₁ < 14) (by omega), mix_N (by omega), mix_N (by omega)]
        have x₁' : mset (mset (mset m 6 B 4 a (N 0)) 6 B 4 b (N 0)) 20 B L₁ c₁ (I (-1)) = m₁ := by rw [x₁]; rfl
        rw [x₁', e₃, ccBi, hB, ccMckT, kwE176 hB s' k', ccBi, hB, ccMckT, k₈, kwEndV]
      · rw [g₃] at f₂
        rw [ccT_t, ccIf1e]
        exact no f₂
    · rw [ccT_t, ccIf1]
      exact no f₂
theorem kwA0_well {m : mMi} {r : mRs} {L B w l n lm dp cl bd T Z D : Nat} {β : Nat → Int32} {W : Nat → Nat} {v x y : Int32} (q : kwI m r B w l n lm dp cl bd β W T Z D) (h : n = 0) : kwWell m r B w l n lm dp cl bd β W T Z D (kwA0 L B v x y m r) := by
  subst h
  have no : ¬ ∃ a, N 0 = N a ∧ a < 0 := fun ⟨a, _, y⟩ => by omega
  obtain ⟨M, R, f₁, f₂, f₃⟩ := kwK14 (B := B) (m := m) (r := r) (E := 2) (x₁ := N 0) q.2.2.2.1 q.2.2.2.2 (by omega) (fun M R y => by
    obtain ⟨y₁, y₂, _⟩ := kwI_M q y
    exact (kwN120 y₁ y₂ no).1)
  have q₁ := kwI_9 q f₂ f₁
  obtain ⟨M', R', g₁, g₂, g₃⟩ := kwK17 (B := B) (m := M) (r := R) (E := 2) (x₁ := N 0) q₁.2.2.2.1 q₁.2.2.2.2 (by omega) (fun M R y => by
    obtain ⟨y₁, y₂, _⟩ := kwI_M q₁ y
    exact (kwN120 y₁ y₂ no).2.1)
  have q₂ := kwI_9 q₁ g₂ g₁
  obtain ⟨M'', R'', k₁, k₂, k₃⟩ := kwK21 (B := B) (m := M') (r := R') (E := 2) (x₁ := N 0) q₂.2.2.2.1 q₂.2.2.2.2 (by omega) (fun M R y => by
    obtain ⟨y₁, y₂, _⟩ := kwI_M q₂ y
    exact (kwN120 y₁ y₂ no).2.2)
  have q₃ := kwI_9 q₂ k₂ k₁
  refine ⟨M'', R'', ?_, q₃, kwRs_le (kwRs_trans f₁ (kwRs_trans g₁ k₁)) (by omega) (by omega), kwFy_trans (kwFy_trans (kwFy_9 f₂) f₁ (kwFy_9 g₂)) (kwRs_trans f₁ g₁) (kwFy_9 k₂)⟩
  unfold kwA0
  rw [f₃, q₁.2.2.2.2, ccMckT, kwEq2, g₃, q₂.2.2.2.2, ccMckT, kwEq2, k₃, q₃.2.2.2.2, ccMckT, kwEnd2]
theorem kwNo12 {m : mMi} {r : mRs} {B w l n lm dp cl bd T Z D L₁ c₁ a b : Nat} {g : Int32} {β : Nat → Int32} {W : Nat → Nat} (q : kwI m r B w l n lm dp cl bd β W T Z D) (h₁ : L₁ < l) (h₂ : L₁ + c₁ < w) (h₃ : a < n) (h₃' : b < n) (h₄ : ¬ (ccMayLean (m 0 0) w l L₁ c₁ = true ∧ a ≠ b ∧ ccHeld (m 0 0) a = true ∧ ccHeld (m 0 0) b = true ∧ ∃ u, g = N u ∧ 20 ≤ u ∧ u ≤ 70)) : ∃ M R, kwRs 3 22 r R ∧ (∀ f i j p, ¬ (f = 9 ∧ r.2.2.1 ≤ i) → M f i j p = m f i j p) ∧ ∀ K : Int32 → mMi → mRs → mRz, bN 20 (N 5) m r (fun n m2 r2 => mckO (r2.2.1.1 B) (mckO (mIsArr (r2.2.1.2.1 n) 20 (N 0)) (mckO (mIsArr (r2.2.1.2.1 n) 20 (N 1)) (mckO (mIsArr (r2.2.1.2.1 n) 20 (N 2)) (mckO (mIsArr (r2.2.1.2.1 n) 20 (N 3)) (mckO (mIsArr (r2.2.1.2.1 n) 20 (N 4)) (bI (H238 n (N 12) (mset (mset (mset (mset (mset m2 9 n 0 0 (N L₁)) 9 n 0 1 (N c₁)) 9 n 0 2 (N a)) 9 n 0 3 (N b)) 9 n 0 4 g) r2) K))))))) = K (N 3) M R := kwK12 q.2.2.2.1 q.2.2.2.2 (by omega) (fun M R y => by
    obtain ⟨y₁, y₂, y₃⟩ := kwI_M q y
    rw [kwE157 y₁ y₂ h₁ h₂ h₃ h₃', y₃, if_neg h₄])
theorem kwIf1b {x y : mRz} : mifO (decide (N 3 = N 3)) x y = x := rfl
theorem kwAe_well {m : mMi} {r : mRs} {L B w l n lm dp cl bd T Z D L₁ c₁ : Nat} {β : Nat → Int32} {W : Nat → Nat} {v : Int32} (q₀ : kwI m r B w l n lm dp cl bd β W T Z D) (bT : T ≤ 800000000) (hL : L < 2147483648) (bD : D < 900000) (h₁ : L₁ < l) (h₂ : L₁ + c₁ < w) : kwWell m r B w l n lm dp cl bd β W (T + 192) Z (D + 1) (kwAe L B v (N L₁) (N c₁) m r) := by
  have hB := q₀.2.2.2.2
  obtain ⟨s₀, _, k₀, _, _⟩ := kwI_U q₀
  have p₁ := kwE180 (rs := r) (e := 0) hB s₀ k₀ (by omega)
  have p₂ := kwE180 (rs := r) (e := 1) hB s₀ k₀ (by omega)
  obtain ⟨i, i₁, i₂⟩ := q₀.2.2.1
  obtain ⟨u, a₁, a₂, a₃⟩ := kwE171 (r := r) (lo := 20) (hi := 70) i₁ (by omega) hL (by omega) (by omega)
  have q := kwI_7 q₀ (i := i + 1) (by omega)
  obtain ⟨mx, hmx⟩ : ∃ M, M = mset m 7 0 0 1 (N (i + 1)) := ⟨_, rfl⟩
  rw [← hmx] at a₃ q
  have fx : kwFy B r m mx := by rw [hmx]; exact kwFy_7
  have s₂₀ : m 6 B 0 20 = mx 6 B 0 20 := by rw [hmx, ccRd, if_neg (by omega)]
  have cx : m 0 0 = mx 0 0 := by
    funext j p
    rw [hmx, ccRd, if_neg (by omega)]
  obtain ⟨h₀, ru⟩ := kwI_0 q
  obtain ⟨s, g, k, cd, _⟩ := kwI_U q
  have b₁ : w ≤ 12 := ru.2.2.2.2.1
  have b₂ : l ≤ 8 := ru.2.2.2.2.2.2.1
  have b₃ : n ≤ 40 := ru.2.2.2.2.2.2.2
  have e₁ := kwE177 (rs := r) (L := L₁) (c := c₁) hB s g cd (by omega) (by omega)
  have s₁₇ : mx 6 B 0 17 = N n := s.2.2.2.2.2.2.1
  rw [cx] at p₁ p₂
  unfold kwAe
  rw [p₁, ccBi, hB, ccMckT, p₂, ccBi, hB, ccMckT, a₃, ccBi, hB, ccMckT, s₂₀]
  rcases kwNth_is (f := ccHeld (mx 0 0)) n 1 0 with y | ⟨b, y, _, y₁, y₂⟩
  · have g₃ : ¬ N 0 ≤ I (-1) := by decide
    rw [y, ccIte, if_neg g₃, s₁₇, ccIte]
    by_cases g₄ : n = 0
    · subst g₄
      obtain ⟨M, R, f₁, f₂, f₃⟩ := kwK12 (B := B) (m := mx) (r := r) (E := 2) (x₁ := N L₁) (x₂ := N c₁) (x₃ := N 0) (x₄ := N 0) (x₅ := N 45) q.2.2.2.1 hB (by omega) (fun M R y => by
        obtain ⟨y₁, y₂, _⟩ := kwI_M q y
        exact kwN157c y₁ y₂ h₁ h₂ (fun ⟨a, _, z⟩ => by omega))
      have q₁ := kwI_9 q f₂ f₁
      refine ⟨M, R, ?_, kwI_T q₁ (by omega), kwRs_le f₁ (by omega) (by omega), kwFy_trans fx kwRs_rfl (kwFy_9 f₂)⟩
      rw [if_neg (by intro z; exact z rfl), f₃, q₁.2.2.2.2, ccMckT, kwEnd2]
    · have g₅ : N n ≠ N 0 := by rw [ne_eq, N_eq (by omega) (by omega)]; exact g₄
      obtain ⟨M, R, f₁, f₂, f₃⟩ := kwNo12 (a := 0) (b := 0) (g := N 45) q h₁ h₂ (by omega) (by omega) (fun z => z.2.1 rfl)
      have q₁ := kwI_9 q f₂ f₁
      refine ⟨M, R, ?_, kwI_T q₁ (by omega), kwRs_le f₁ (by omega) (by omega), kwFy_trans fx kwRs_rfl (kwFy_9 f₂)⟩
      rw [if_pos g₅, f₃, q₁.2.2.2.2, ccMckT, kwEnd3]
  · obtain ⟨a, z, _, z₁, z₂⟩ := kwNth_2 n 0 y (by omega) (by omega)
    have g₃ : N 0 ≤ N b := by rw [N_le (by omega) (by omega)]; omega
    rw [y, z, ccIte, if_pos g₃, e₁, ccBi, hB, ccMckT]
    cases g₄ : ccMayLean (mx 0 0) w l L₁ c₁
    · obtain ⟨M, R, f₁, f₂, f₃⟩ := kwNo12 (a := b) (b := a) (g := N u) q h₁ h₂ (by omega) (by omega) (fun z => by
        rw [g₄] at z
        exact absurd z.1 (by decide))
      have q₁ := kwI_9 q f₂ f₁
      refine ⟨M, R, ?_, kwI_T q₁ (by omega), kwRs_le f₁ (by omega) (by omega), kwFy_trans fx kwRs_rfl (kwFy_9 f₂)⟩
      rw [ccT_f, ccIf0, f₃, q₁.2.2.2.2, ccMckT, kwEnd3]
    · obtain ⟨M, R, f₁, f₂, f₃⟩ := kwNo12 (a := b) (b := b) (g := N u) q h₁ h₂ (by omega) (by omega) (fun z => z.2.1 rfl)
      have q₁ := kwI_9 q f₂ f₁
      obtain ⟨M', R', f₄, f₅, f₆⟩ := kwNo12 (a := b) (b := a) (g := N 71) q₁ h₁ h₂ (by omega) (by omega) (fun ⟨_, _, _, _, u₁, z₁, z₂, z₃⟩ => by
        have z₄ := ccNinj z₁ (by omega) (by omega)
        omega)
      have q₂ := kwI_9 q₁ f₅ f₄
      have cM : M' 0 0 = mx 0 0 := by
        funext j p
        rw [f₅ 0 0 j p (by omega), f₂ 0 0 j p (by omega)]
      have sM : mx 6 B 0 20 = M' 6 B 0 20 := by rw [f₅ 6 B 0 20 (by omega), f₂ 6 B 0 20 (by omega)]
      have hB₂ := q₂.2.2.2.2
      obtain ⟨h₀', ru'⟩ := kwI_0 q₂
      obtain ⟨m₁, m₂, v₁, ⟨my, x₁, x₂, x₃⟩, k₂, k₃, k₄, k₅, k₆, k₇, _⟩ := kwStepW q₂.1 (kwSet0_f (fun mw a b y₁ y₂ => by rw [y₁, y₂])) (kwHop157 (L := L₁) (c := c₁) (a := b) (b := a) (u₀ := u) q₂.1 q₂.2.1 bT h₁ h₂ (by omega) (by omega) (by omega) (by rw [cM]; exact g₄) (by rw [cM]; exact y₂) (by rw [cM]; exact z₂) a₁ a₂)
      subst x₁
      obtain ⟨o₀, o₁, o₂⟩ := kwFr_k k₆ h₀' ru'
      have o₃ : m₂ 6 B 0 20 - M' 6 B 0 20 = v₁ := by rw [k₇ 6 0 20 (Or.inl rfl), x₃]
      have e₃ : F157 (N L₁) (N c₁) (N b) (N a) (N u) m₁ R' = rI v₁ m₂ R' := by
        rw [kwE157 o₁ o₂ h₁ h₂ (by omega : b < n) (by omega : a < n), o₀, cM, if_pos ⟨g₄, by omega, y₂, z₂, u, rfl, a₁, a₂⟩]
        exact k₂ R'
      refine ⟨m₂, R', ?_, kwI_s q₂ k₃ k₄ k₅, kwRs_le (kwRs_trans f₁ f₄) (by omega) (by omega), kwFy_trans (kwFy_trans (kwFy_trans fx kwRs_rfl (kwFy_9 f₂)) f₁ (kwFy_9 f₅)) (kwRs_trans f₁ f₄) (kwFy_x k₅)⟩
      rw [ccT_t, ccIf1, f₃, q₁.2.2.2.2, ccMckT, kwEq3, f₆, hB₂, ccMckT, kwIf1b, kwE181 hB₂ (by omega) (by omega) (by omega) (by omega), ccBv, hB₂, ccMckT, x₂ R' hB₂, ccBv, hB₂, ccMckT, e₃, ccBi, hB₂, ccMckT, sM, o₃, kwEndV]
