/-! THE ARMS of an act: turned, lifted, taken down. -/
theorem kwI_T {m : mMi} {r : mRs} {B w l n lm dp cl bd T T₁ Z D : Nat} {β : Nat → Int32} {W : Nat → Nat} (q : kwI m r B w l n lm dp cl bd β W T Z D) (h : T ≤ T₁) : kwI m r B w l n lm dp cl bd β W T₁ Z D := by
  obtain ⟨⟨hh, t, j₀, a₁, a₀, a₂, a₃, a₄, a₅, a₆⟩, q₂, q₃, q₄, q₅⟩ := q
  exact ⟨⟨hh, t, j₀, a₁, a₀, a₂, a₃, a₄, by omega, a₆⟩, q₂, q₃, q₄, q₅⟩
/-- what World's own change leaves of the class -/
theorem kwFr_k {m m₁ : mMi} {B w l n : Nat} (k₆ : kwFr B m m₁) (h₀ : m 2 0 0 10 = N 1) (ru : ccRu m 0 w l n) : m₁ 0 0 = m 0 0 ∧ m₁ 2 0 0 10 = N 1 ∧ ccRu m₁ 0 w l n := by
  refine ⟨?_, by rw [k₆ 2 0 0 10 (by omega) (by omega)]; exact h₀, ?_⟩
  · funext j p
    exact k₆ 0 0 j p (by omega) (by omega)
  · unfold ccRu at ru ⊢
    rw [k₆ 1 0 1 0 (by omega) (by omega), k₆ 1 0 1 1 (by omega) (by omega), k₆ 1 0 0 4 (by omega) (by omega)]
    exact ru
/-- the ties of class and World in the middle of an act -/
theorem kwI_U {m : mMi} {r : mRs} {B w l n lm dp cl bd T Z D : Nat} {β : Nat → Int32} {W : Nat → Nat} (q : kwI m r B w l n lm dp cl bd β W T Z D) : kwS m B w l n lm dp cl bd ∧ kwG m B (m 0 0) ∧ kwK ccX0 n m B (m 0 0) ∧ ccCd n (m 0 0) ∧ m 6 B 0 20 = m 0 0 7 2 := by
  obtain ⟨hh, t, j₀, c₀⟩ := q.1
  obtain ⟨mm, jj⟩ := j₀.1
  exact ⟨j₀.2.1, j₀.2.2.1.1, j₀.2.2.1.2.1, ccCd_of jj.1.2.2.2.2.2.1.2.1, j₀.2.2.1.2.2.1.1⟩
theorem kwNo20 {m : mMi} {r : mRs} {B w l n lm dp cl bd T Z D L₁ c₁ : Nat} {g : Int32} {β : Nat → Int32} {W : Nat → Nat} (q : kwI m r B w l n lm dp cl bd β W T Z D) (h₁ : L₁ < l) (h₂ : L₁ + c₁ < w) (h₄ : ¬ (ccHP (m 0 0) w l L₁ c₁ = true ∧ ∃ u, g = N u ∧ 20 ≤ u ∧ u ≤ 70)) : ∃ M R, kwRs 3 22 r R ∧ (∀ f i j p, ¬ (f = 9 ∧ r.2.2.1 ≤ i) → M f i j p = m f i j p) ∧ ∀ K : Int32 → mMi → mRs → mRz, bN 20 (N 3) m r (fun n m2 r2 => mckO (r2.2.1.1 B) (mckO (mIsArr (r2.2.1.2.1 n) 20 (N 0)) (mckO (mIsArr (r2.2.1.2.1 n) 20 (N 1)) (mckO (mIsArr (r2.2.1.2.1 n) 20 (N 2)) (bI (H238 n (N 20) (mset (mset (mset m2 9 n 0 0 (N L₁)) 9 n 0 1 (N c₁)) 9 n 0 2 g) r2) K))))) = K (N 3) M R := kwK20 q.2.2.2.1 q.2.2.2.2 (by omega) (fun M R y => by
    obtain ⟨y₁, y₂, y₃⟩ := kwI_M q y
    rw [kwE165 y₁ y₂ h₁ h₂, y₃, if_neg h₄])
theorem kwAw_well {m : mMi} {r : mRs} {L B w l n lm dp cl bd T Z D L₁ c₁ : Nat} {β : Nat → Int32} {W : Nat → Nat} {v : Int32} (q₀ : kwI m r B w l n lm dp cl bd β W T Z D) (hL : L < 2147483648) (bD : D < 900000) (h₁ : L₁ < l) (h₂ : L₁ + c₁ < w) : kwWell m r B w l n lm dp cl bd β W (T + 192) Z (D + 1) (kwAw L B v (N L₁) (N c₁) m r) := by
  have hB := q₀.2.2.2.2
  obtain ⟨i, i₁, i₂⟩ := q₀.2.2.1
  obtain ⟨a, a₁, a₂, a₃⟩ := kwE171 (r := r) (lo := 20) (hi := 70) i₁ (by omega) hL (by omega) (by omega)
  have q := kwI_7 q₀ (i := i + 1) (by omega)
  obtain ⟨mx, hmx⟩ : ∃ M, M = mset m 7 0 0 1 (N (i + 1)) := ⟨_, rfl⟩
  rw [← hmx] at a₃ q
  have fx : kwFy B r m mx := by rw [hmx]; exact kwFy_7
  have s₂₀ : m 6 B 0 20 = mx 6 B 0 20 := by rw [hmx, ccRd, if_neg (by omega)]
  obtain ⟨h₀, ru⟩ := kwI_0 q
  obtain ⟨s, g, k, cd, _⟩ := kwI_U q
  have b₁ : w ≤ 12 := ru.2.2.2.2.1
  have b₂ : l ≤ 8 := ru.2.2.2.2.2.2.1
  have e₁ := kwE178 (rs := r) (L := L₁) (c := c₁) hB s g cd (by omega) (by omega)
  unfold kwAw
  rw [a₃, ccBi, hB, ccMckT, e₁, ccBi, hB, ccMckT, s₂₀]
  cases g₁ : ccHP (mx 0 0) w l L₁ c₁
  · obtain ⟨M, R, k₁, k₂, k₃⟩ := kwNo20 (g := N a) q h₁ h₂ (fun y => by
      rw [g₁] at y
      exact absurd y.1 (by decide))
    have q₁ := kwI_9 q k₂ k₁
    refine ⟨M, R, ?_, kwI_T q₁ (by omega), kwRs_le k₁ (by omega) (by omega), kwFy_trans fx kwRs_rfl (kwFy_9 k₂)⟩
    rw [ccT_f, ccIf0, k₃, q₁.2.2.2.2, ccMckT, kwEnd3]
  · obtain ⟨m₁, m₂, v₁, ⟨my, x₁, x₂, x₃⟩, k₂, k₃, k₄, k₅, k₆, k₇, _⟩ := kwStepW q.1 (kwSet0_f (fun mw a b y₁ y₂ => by rw [y₁, y₂])) (kwHop165 (L := L₁) (c := c₁) (u₀ := a) q.1 q.2.1 h₁ h₂ a₁ a₂)
    subst x₁
    obtain ⟨o₀, o₁, o₂⟩ := kwFr_k k₆ h₀ ru
    have o₃ : m₂ 6 B 0 20 - mx 6 B 0 20 = v₁ := by rw [k₇ 6 0 20 (Or.inl rfl), x₃]
    have e₃ : F165 (N L₁) (N c₁) (N a) m₁ r = rI v₁ m₂ r := by
      rw [kwE165 o₁ o₂ h₁ h₂, o₀, if_pos ⟨g₁, a, rfl, a₁, a₂⟩]
      exact k₂ r
    have q₁ := kwI_s q k₃ k₄ k₅
    obtain ⟨s', g', _, cd', _⟩ := kwI_U q₁
    have e₄ := kwE178 (rs := r) (L := L₁) (c := c₁) hB s' g' cd' (by omega) (by omega)
    rw [ccT_t, ccIf1, ccMckIn (by omega : L₁ < 10) (by omega), ccMckIn (by omega : c₁ < 14) (by omega), mix_N (by omega), mix_N (by omega), x₂ r hB, ccBv, hB, ccMckT, e₃, ccBi, hB, ccMckT, o₃, kwEqV, e₄, ccBi, hB, ccMckT]
    cases g₂ : ccHP (m₂ 0 0) w l L₁ c₁
    · refine ⟨m₂, r, ?_, q₁, kwRs_le kwRs_rfl (by omega) (by omega), kwFy_trans fx kwRs_rfl (kwFy_x k₅)⟩
      rw [ccT_f, ccIf0e]
      rfl
    · obtain ⟨M, R, f₁, f₂, f₃⟩ := kwNo20 (g := N 19) q₁ h₁ h₂ (fun ⟨_, u₁, y₁, y₂, y₃⟩ => by
        have y₄ := ccNinj y₁ (by omega) (by omega)
        omega)
      have q₂ := kwI_9 q₁ f₂ f₁
      refine ⟨M, R, ?_, q₂, kwRs_le f₁ (by omega) (by omega), kwFy_trans (kwFy_trans fx kwRs_rfl (kwFy_x k₅)) kwRs_rfl (kwFy_9 f₂)⟩
      rw [ccT_t, ccIf1e, f₃, q₂.2.2.2.2, ccMckT, kwEnd3]
/-! lifted, taken down -/
theorem kwCn_f {n B : Nat} {Om : mMi → mMi → Prop} (hOm : ∀ mw a b, Om mw a → Om mw b → a = b) : ∀ mw v m₂ u m₃, kwCn n B Om mw v m₂ → kwCn n B Om mw u m₃ → v = u ∧ m₂ = m₃ := fun mw v m₂ u m₃ ⟨a₁, a₃⟩ ⟨b₁, b₃⟩ => by
  have e₁ := hOm mw m₂ m₃ a₁ b₁
  subst e₁
  exact ⟨by rw [a₃, b₃], rfl⟩
theorem kwArm16 {m : mMi} {r : mRs} {L B w l n lm dp cl bd T Z D L₁ c₁ : Nat} {β : Nat → Int32} {W : Nat → Nat} {v x : Int32} (q : kwI m r B w l n lm dp cl bd β W T Z D) (h₁ : L₁ < l) (h₂ : L₁ + c₁ < w) (h₄ : ¬ (ccHF (m 0 0) w l L₁ c₁ = true ∧ ccHP (m 0 0) w l L₁ c₁ = false)) : kwWell m r B w l n lm dp cl bd β W T Z D (H241_1057 L B v (N L₁) (N c₁) x m r) := by
  have hB := q.2.2.2.2
  obtain ⟨M, R, k₁, k₂, k₃⟩ := kwK16 (B := B) (m := m) (r := r) (E := 3) (x₁ := N L₁) (x₂ := N c₁) q.2.2.2.1 hB (by omega) (fun M R y => by
    obtain ⟨y₁, y₂, y₃⟩ := kwI_M q y
    rw [kwE161 y₁ y₂ h₁ h₂, y₃, if_neg h₄])
  have q₁ := kwI_9 q k₂ k₁
  refine ⟨M, R, ?_, q₁, kwRs_le k₁ (by omega) (by omega), kwFy_9 k₂⟩
  unfold H241_1057
  rw [hB, ccMckT, k₃, q₁.2.2.2.2, ccMckT, kwEnd3]
theorem kwArm15 {m : mMi} {r : mRs} {L B w l n lm dp cl bd T Z D L₁ c₁ : Nat} {β : Nat → Int32} {W : Nat → Nat} {v x : Int32} (q : kwI m r B w l n lm dp cl bd β W T Z D) (h₁ : L₁ < l) (h₂ : L₁ + c₁ < w) (h₄ : ¬ (ccHP (m 0 0) w l L₁ c₁ = true ∧ ccFree (m 0 0) w l L₁ c₁ = true)) : kwWell m r B w l n lm dp cl bd β W T Z D (H241_936 L B v (N L₁) (N c₁) x m r) := by
  have hB := q.2.2.2.2
  obtain ⟨M, R, k₁, k₂, k₃⟩ := kwK15 (B := B) (m := m) (r := r) (E := 3) (x₁ := N L₁) (x₂ := N c₁) q.2.2.2.1 hB (by omega) (fun M R y => by
    obtain ⟨y₁, y₂, y₃⟩ := kwI_M q y
    rw [kwE160 y₁ y₂ h₁ h₂, y₃, if_neg h₄])
  have q₁ := kwI_9 q k₂ k₁
  refine ⟨M, R, ?_, q₁, kwRs_le k₁ (by omega) (by omega), kwFy_9 k₂⟩
  unfold H241_936
  rw [hB, ccMckT, k₃, q₁.2.2.2.2, ccMckT, kwEnd3]
theorem kwWell_T {m : mMi} {r : mRs} {B w l n lm dp cl bd T T₁ Z D : Nat} {β : Nat → Int32} {W : Nat → Nat} {x : mRz} (q : kwWell m r B w l n lm dp cl bd β W T Z D x) (h : T ≤ T₁) : kwWell m r B w l n lm dp cl bd β W T₁ Z D x := by
  obtain ⟨M, R, a, b, c, d₁⟩ := q
  exact ⟨M, R, a, kwI_T b h, c, d₁⟩
theorem kwAf_well {m : mMi} {r : mRs} {L B w l n lm dp cl bd T Z D L₁ c₁ : Nat} {β : Nat → Int32} {W : Nat → Nat} {v : Int32} (q : kwI m r B w l n lm dp cl bd β W T Z D) (bT : T ≤ 800000000) (h₁ : L₁ < l) (h₂ : L₁ + c₁ < w) : kwWell m r B w l n lm dp cl bd β W (T + 192) Z D (kwAf L B v (N L₁) (N c₁) m r) := by
  have hB := q.2.2.2.2
  obtain ⟨h₀, ru⟩ := kwI_0 q
  obtain ⟨s, g, k, cd, _⟩ := kwI_U q
  have b₁ : w ≤ 12 := ru.2.2.2.2.1
  have b₂ : l ≤ 8 := ru.2.2.2.2.2.2.1
  have b₃ : n ≤ 40 := ru.2.2.2.2.2.2.2
  have e₁ := kwE178 (rs := r) (L := L₁) (c := c₁) hB s g cd (by omega) (by omega)
  have e₂ := kwE179 (rs := r) (L := L₁) (c := c₁) hB s g cd (by omega) (by omega)
  unfold kwAf
  rw [e₂, ccBi, hB, ccMckT]
  cases g₁ : ccHF (m 0 0) w l L₁ c₁
  · rw [ccT_f, ccIf0e]
    exact kwWell_T (kwArm16 q h₁ h₂ (fun y => by
      rw [g₁] at y
      exact absurd y.1 (by decide))) (by omega)
  · rw [ccT_t, ccIf1e, e₁, ccBi, hB, ccMckT]
    cases g₂ : ccHP (m 0 0) w l L₁ c₁
    · obtain ⟨_, _, g₃⟩ := ccHF_t g₁
      obtain ⟨a, a₁, a₂⟩ := cd.2 (12 * L₁ + c₁) (by omega) g₃
      have a₃ : m 0 0 2 (12 * L₁ + c₁) = I (-1) := by
        by_cases y : m 0 0 2 (12 * L₁ + c₁) = I (-1)
        · exact y
        · rw [ccHP_i h₁ h₂ y] at g₂
          cases g₂
      have w₁ : m 24 B L₁ c₁ = N a := by rw [(g L₁ c₁ (by omega) (by omega)).2.1]; exact a₂
      obtain ⟨m₁, m₂, v₁, ⟨x₁, x₃⟩, k₂, k₃, k₄, k₅, k₆, k₇, k₈⟩ := kwStepW q.1 (kwCn_f (fun mw a b y₁ y₂ => by rw [y₁, y₂])) (kwHop161 (L := L₁) (c := c₁) (a := a) q.1 q.2.1 bT h₁ h₂ a₁ a₂ a₃)
      obtain ⟨o₀, o₁, o₂⟩ := kwFr_k k₆ h₀ ru
      have e₃ : F161 (N L₁) (N c₁) m₁ r = rI v₁ m₂ r := by
        rw [kwE161 o₁ o₂ h₁ h₂, o₀, if_pos ⟨g₁, g₂⟩]
        exact k₂ r
      have q₁ := kwI_s q k₃ k₄ k₅
      obtain ⟨s', g', k', cd', _⟩ := kwI_U q₁
      refine ⟨m₂, r, ?_, q₁, kwRs_le kwRs_rfl (by omega) (by omega), kwFy_x k₅⟩
      rw [ccT_f, ccIf0e, ccMckIn (by omega : L₁ < 10) (by omega), ccMckIn (by omega : c₁ < 14) (by omega), mix_N (by omega), mix_N (by omega), w₁, ccMckIn (by omega : a < 40) (by omega), mix_N (by omega), ccMckIn (by omega : L₁ < 10) (by omega), ccMckIn (by omega : c₁ < 14) (by omega)]
      have x₁' : mset (mset m 6 B 4 a (N 0)) 24 B L₁ c₁ (I (-1)) = m₁ := by rw [x₁]; rfl
      rw [x₁', e₃, ccBi, hB, ccMckT, kwE176 hB s' k', ccBi, hB, ccMckT, k₈, kwEndV]
    · rw [ccT_t, ccIf1e]
      exact kwWell_T (kwArm16 q h₁ h₂ (fun y => by
        rw [g₂] at y
        exact absurd y.2 (by decide))) (by omega)
