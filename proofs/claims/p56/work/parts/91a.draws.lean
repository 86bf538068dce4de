/-! THE WORLD IS MADE: draws and the text's head. -/
/-- the World B at work on its text t, at most k letters' steps since r₀, at most D draws -/
def kwVv (B k : Nat) (r₀ : mRs) (D : Nat) (t : List Nat) (m : mMi) (r : mRs) : Prop := kwZz (B + 1) 500 k r₀ m (B + 1) t m r ∧ r₀.2.1.1 B = true ∧ kwDg m ∧ ∃ i, m 7 0 0 1 = N i ∧ i ≤ D
theorem kwVv_al {B k D : Nat} {r₀ r : mRs} {t : List Nat} {m : mMi} (h : kwVv B k r₀ D t m r) : r.2.1.1 B = true := by
  rw [h.1.2.2.2.2]
  exact h.2.1
theorem kwB_m {n₀ a cap : Nat} {m M : mMi} {r : mRs} {t : List Nat} (h : kwB n₀ m r a cap t) (h₁ : ∀ i j p, M 9 i j p = m 9 i j p) : kwB n₀ M r a cap t := by
  obtain ⟨v, p₁, k₁, k₂, k₃, c₁, c₂, l₁, l₂, y₁, y₂⟩ := h
  exact ⟨v, p₁, k₁, k₂, k₃, by rw [h₁]; exact c₁, by rw [h₁]; exact c₂, l₁, l₂, fun k y => by rw [h₁]; exact y₁ k y, fun k y => by rw [h₁]; exact y₂ k y⟩
theorem kwZz_r {n₁ LB k a : Nat} {r₀ r : mRs} {m₀ m M : mMi} {t : List Nat} (h : kwZz n₁ LB k r₀ m₀ a t m r) (h₁ : ∀ i j p, M 9 i j p = m 9 i j p) : kwZz n₁ LB k r₀ M a t M r := by
  obtain ⟨⟨cap, b⟩, nx, f, o, al⟩ := h
  exact ⟨⟨cap, kwB_m b h₁⟩, nx, f, ⟨fun _ _ _ _ _ => rfl, o.2⟩, al⟩
theorem kwVv_w {B k D : Nat} {r₀ r : mRs} {t : List Nat} {m M : mMi} (h : kwVv B k r₀ D t m r) (h₁ : ∀ f i j p, f = 9 ∨ f = 3 ∨ f = 7 → M f i j p = m f i j p) : kwVv B k r₀ D t M r := by
  obtain ⟨z, al, dg, i, e₁, e₂⟩ := h
  exact ⟨kwZz_r z (fun i j p => h₁ 9 i j p (Or.inl rfl)), al, fun k y => by rw [h₁ 3 4 0 k (by omega), h₁ 3 5 0 k (by omega)]; exact dg k y, i, by rw [h₁ 7 0 0 1 (by omega)]; exact e₁, e₂⟩
/-- what a letter's step leaves -/
def kwFn (B : Nat) (m M : mMi) : Prop := ∀ f i j p, ¬ (f = 9 ∧ B + 1 ≤ i) → M f i j p = m f i j p
theorem kwVv_z {B k k₁ D : Nat} {r₀ r R : mRs} {t u : List Nat} {m M : mMi} (h : kwVv B k r₀ D t m r) (h₁ : kwZz (B + 1) 500 k₁ r₀ m (B + 1) u M R) (hb : 0 < B) : kwVv B k₁ r₀ D u M R ∧ kwFn B m M := by
  obtain ⟨z, al, dg, i, e₁, e₂⟩ := h
  have fr : kwFn B m M := h₁.2.2.2.1.1
  exact ⟨⟨kwZz_r h₁ (fun _ _ _ => rfl), al, fun k y => by rw [fr 3 4 0 k (by omega), fr 3 5 0 k (by omega)]; exact dg k y, i, by rw [fr 7 0 0 1 (by omega)]; exact e₁, e₂⟩, fr⟩
theorem kwVv_c {B k D b : Nat} {r₀ r : mRs} {t : List Nat} {m : mMi} (h : kwVv B k r₀ D t m r) (hB : 0 < B) (hb : b < 128) (hl : t.length ≤ 500) : ∃ M R, H202 (B + 1) (N b) m r = some (.inl (some (mR 9 (B + 1) 0)), M, R) ∧ kwVv B (k + 1) r₀ D (t ++ [b]) M R ∧ kwFn B m M := by
  obtain ⟨M, R, c, z⟩ := kwZz_c h.1 hb hl (by omega)
  exact ⟨M, R, c, kwVv_z h z hB⟩
theorem kwVv_p {B k D j : Nat} {r₀ r : mRs} {t u : List Nat} {m : mMi} (h : kwVv B k r₀ D t m r) (hB : 0 < B) (hb : kwPool j u) (hl : t.length ≤ 500) : ∃ M R, H201 (B + 1) j m r = some (.inl (some (mR 9 (B + 1) 0)), M, R) ∧ kwVv B (k + 1) r₀ D (t ++ u) M R ∧ kwFn B m M := by
  obtain ⟨M, R, c, z⟩ := kwZz_p h.1 hb hl (by omega)
  exact ⟨M, R, c, kwVv_z h z hB⟩
theorem kwVv_n {B k D x : Nat} {r₀ r : mRs} {t : List Nat} {m : mMi} (h : kwVv B k r₀ D t m r) (hB : 0 < B) (hx : x < 1000) (hl : t.length ≤ 500) : ∃ M R, H203 (B + 1) (N x) m r = some (.inl (some (mR 9 (B + 1) 0)), M, R) ∧ kwVv B (k + 1) r₀ D (t ++ ccNl x) M R ∧ kwFn B m M := by
  obtain ⟨M, R, c, z⟩ := kwZz_n h.1 h.2.2.1 (by omega) hx hl (by omega)
  exact ⟨M, R, c, kwVv_z h z (by omega)⟩
/-- a draw -/
theorem kwVv_d {L B k D lo hi : Nat} {r₀ r : mRs} {t : List Nat} {m : mMi} (h : kwVv B k r₀ D t m r) (hL : L < 2147483648) (hD : D < 900000) (h₁ : lo ≤ hi) (h₂ : hi < 1000000) : ∃ v M, lo ≤ v ∧ v ≤ hi ∧ H171 L (N lo) (N hi) m r = rI (N v) M r ∧ kwVv B k r₀ (D + 1) t M r ∧ ∀ f i j p, f ≠ 7 → M f i j p = m f i j p := by
  obtain ⟨z, al, dg, i, e₁, e₂⟩ := h
  obtain ⟨v, v₁, v₂, v₃⟩ := kwE171 (r := r) e₁ (by omega) hL h₁ h₂
  have o : ∀ f a j p, f ≠ 7 → mset m 7 0 0 1 (N (i + 1)) f a j p = m f a j p := fun f a j p g => by rw [ccRd, if_neg (by omega)]
  exact ⟨v, _, v₁, v₂, v₃, ⟨kwZz_r z (fun a j p => o 9 a j p (by omega)), al, fun k y => by rw [o 3 4 0 k (by omega), o 3 5 0 k (by omega)]; exact dg k y, i + 1, by rw [ccRd, if_pos ⟨rfl, rfl, rfl, rfl⟩], by omega⟩, o⟩
/-- a setting that is drawn -/
theorem kwVv_s {B k D j v : Nat} {r₀ r : mRs} {t : List Nat} {m : mMi} (h : kwVv B k r₀ D t m r) : kwVv B k r₀ D t (mset m 6 B 1 j (N v)) r := kwVv_w h (fun f i j₁ p g => by rw [ccRd, if_neg (by omega)])
/-- what a setting's draw leaves -/
def kwFs1 (B : Nat) (m M : mMi) (j v : Nat) : Prop := M 6 B 1 j = N v ∧ ∀ f i j₁ p, f ≠ 7 → ¬ (f = 6 ∧ i = B ∧ j₁ = 1 ∧ p = j) → M f i j₁ p = m f i j₁ p
theorem kwDr2 {L B k D c j lo h₁ h₂ : Nat} {r₀ r : mRs} {t : List Nat} {m : mMi} (K : mMi → mRs → mRz) (h : kwVv B k r₀ D t m r) (hL : L < 2147483648) (hD : D + 1 < 900000) (hc : c < 1000) (hj : j < 6) (l₁ : lo ≤ h₁) (l₂ : lo ≤ h₂) (b₁ : h₁ < 1000) (b₂ : h₂ < 1000) : ∃ v M, lo ≤ v ∧ (v ≤ h₁ ∨ v ≤ h₂) ∧ bI (H171 L (N 0) (N c) m r) (fun v m r => mckO (r.2.1.1 B) (mifO (decide (v ≠ (N 0))) (bI (H171 L (N lo) (N h₁) m r) (fun v m r => mckO (r.2.1.1 B) (mckO (mIn (N j) 6) (K (mset m 6 B 1 (mix (N j)) v) r)))) (bI (H171 L (N lo) (N h₂) m r) (fun v m r => mckO (r.2.1.1 B) (mckO (mIn (N j) 6) (K (mset m 6 B 1 (mix (N j)) v) r)))))) = K M r ∧ kwVv B k r₀ (D + 2) t M r ∧ kwFs1 B m M j v := by
  obtain ⟨x, m₁, _, x₂, x₃, x₄, x₅⟩ := kwVv_d (lo := 0) (hi := c) h hL (by omega) (by omega) (by omega)
  have al := kwVv_al x₄
  have fs : ∀ (m₂ : mMi) (v : Nat), (∀ f i j p, f ≠ 7 → m₂ f i j p = m₁ f i j p) → kwFs1 B m (mset m₂ 6 B 1 j (N v)) j v := fun m₂ v o => ⟨by rw [ccRd, if_pos ⟨rfl, rfl, rfl, rfl⟩], fun f i j₁ p g₁ g₂ => by rw [ccRd, if_neg g₂, o f i j₁ p g₁, x₅ f i j₁ p g₁]⟩
  by_cases g : x = 0
  · obtain ⟨v, m₂, v₁, v₂, v₃, v₄, v₅⟩ := kwVv_d (lo := lo) (hi := h₂) x₄ hL (by omega) l₂ (by omega)
    refine ⟨v, mset m₂ 6 B 1 j (N v), v₁, Or.inr v₂, ?_, kwVv_s v₄, fs m₂ v v₅⟩
    rw [x₃, ccBi, al, ccMckT, g, ccIf0, v₃, ccBi, al, ccMckT, ccMckIn hj (by omega), mix_N (by omega)]
  · obtain ⟨v, m₂, v₁, v₂, v₃, v₄, v₅⟩ := kwVv_d (lo := lo) (hi := h₁) x₄ hL (by omega) l₁ (by omega)
    refine ⟨v, mset m₂ 6 B 1 j (N v), v₁, Or.inl v₂, ?_, kwVv_s v₄, fs m₂ v v₅⟩
    rw [x₃, ccBi, al, ccMckT, ccIte, if_pos (by rw [ne_eq, N_eq (by omega) (by omega)]; exact g), v₃, ccBi, al, ccMckT, ccMckIn hj (by omega), mix_N (by omega)]
/-- all settings -/
theorem kwSets {L B k D : Nat} {r₀ r : mRs} {t : List Nat} {m : mMi} (h : kwVv B k r₀ D t m r) (hL : L < 2147483648) (hD : D + 11 < 900000) : ∃ w l lm dp cl bd M, (2 ≤ w ∧ w ≤ 12 ∧ 1 ≤ l ∧ l ≤ 8 ∧ 1 ≤ lm ∧ lm ≤ 99 ∧ dp ≤ 9 ∧ cl ≤ 20 ∧ bd ≤ 8) ∧ (bI (H171 L (N 0) (N 2) m r) (fun v m r => mckO (r.2.1.1 B) (mifO (decide (v ≠ (N 0))) (bI (H171 L (N 2) (N 5) m r) (fun v m r => mckO (r.2.1.1 B) (mckO (mIn (N 0) 6) (kwW1 L B (mset m 6 B 1 (mix (N 0)) v) r)))) (bI (H171 L (N 2) (N 12) m r) (fun v m r => mckO (r.2.1.1 B) (mckO (mIn (N 0) 6) (kwW1 L B (mset m 6 B 1 (mix (N 0)) v) r))))))) = H172_317 L B FU (N 0) M r ∧ kwVv B k r₀ (D + 11) t M r ∧ (M 6 B 1 0 = N w ∧ M 6 B 1 1 = N l ∧ M 6 B 1 2 = N lm ∧ M 6 B 1 3 = N dp ∧ M 6 B 1 4 = N cl ∧ M 6 B 1 5 = N bd) ∧ ∀ f i j p, f ≠ 7 → ¬ (f = 6 ∧ i = B ∧ j = 1) → M f i j p = m f i j p := by
  obtain ⟨w, m₁, a₁, a₂, a₃, a₄, a₅, a₆⟩ := kwDr2 (c := 2) (j := 0) (lo := 2) (h₁ := 5) (h₂ := 12) (kwW1 L B) h hL (by omega) (by omega) (by omega) (by omega) (by omega) (by omega) (by omega)
  obtain ⟨l, m₂, b₁, b₂, b₃, b₄, b₅, b₆⟩ := kwDr2 (c := 2) (j := 1) (lo := 1) (h₁ := 4) (h₂ := 8) (kwW2 L B) a₄ hL (by omega) (by omega) (by omega) (by omega) (by omega) (by omega) (by omega)
  obtain ⟨lm, m₃, c₁, c₂, c₃, c₄, c₅, c₆⟩ := kwDr2 (c := 1) (j := 2) (lo := 1) (h₁ := 99) (h₂ := 10) (kwW3 L B) b₄ hL (by omega) (by omega) (by omega) (by omega) (by omega) (by omega) (by omega)
  obtain ⟨dp, m₄, d₁, d₂, d₃, d₄, d₅⟩ := kwVv_d (lo := 0) (hi := 9) c₄ hL (by omega) (by omega) (by omega)
  have d₆ : kwVv B k r₀ (D + 2 + 2 + 2 + 1) t (mset m₄ 6 B 1 3 (N dp)) r := kwVv_s d₄
  obtain ⟨cl, m₅, e₁, e₂, e₃, e₄, e₅, e₆⟩ := kwDr2 (c := 1) (j := 4) (lo := 0) (h₁ := 20) (h₂ := 3) (kwW5 L B) d₆ hL (by omega) (by omega) (by omega) (by omega) (by omega) (by omega) (by omega)
  obtain ⟨bd, m₆, f₁, f₂, f₃, f₄, f₅, f₆⟩ := kwDr2 (c := 1) (j := 5) (lo := 0) (h₁ := 8) (h₂ := 1) (H172_317 L B FU (N 0)) e₄ hL (by omega) (by omega) (by omega) (by omega) (by omega) (by omega) (by omega)
  have al := kwVv_al d₄
  have s₃ : ∀ j, j ≠ 3 → mset m₄ 6 B 1 3 (N dp) 6 B 1 j = m₄ 6 B 1 j := fun j y => by rw [ccRd, if_neg (by omega)]
  refine ⟨w, l, lm, dp, cl, bd, m₆, ⟨a₁, by omega, b₁, by omega, c₁, by omega, d₂, by omega, by omega⟩, ?_, f₄, ⟨?_, ?_, ?_, ?_, ?_, f₅⟩, fun f i j p g₁ g₂ => ?_⟩
  · refine Eq.trans a₃ ?_
    refine Eq.trans b₃ ?_
    refine Eq.trans c₃ ?_
    show bI (H171 L (N 0) (N 9) m₃ r) _ = _
    rw [d₃, ccBi, al, ccMckT, ccMckIn (by omega : 3 < 6) (by omega), mix_N (by omega)]
    refine Eq.trans e₃ ?_
    exact f₃
  · rw [f₆ 6 B 1 0 (by omega) (by omega), e₆ 6 B 1 0 (by omega) (by omega), s₃ 0 (by omega), d₅ 6 B 1 0 (by omega), c₆ 6 B 1 0 (by omega) (by omega), b₆ 6 B 1 0 (by omega) (by omega)]; exact a₅
  · rw [f₆ 6 B 1 1 (by omega) (by omega), e₆ 6 B 1 1 (by omega) (by omega), s₃ 1 (by omega), d₅ 6 B 1 1 (by omega), c₆ 6 B 1 1 (by omega) (by omega)]; exact b₅
  · rw [f₆ 6 B 1 2 (by omega) (by omega), e₆ 6 B 1 2 (by omega) (by omega), s₃ 2 (by omega), d₅ 6 B 1 2 (by omega)]; exact c₅
  · rw [f₆ 6 B 1 3 (by omega) (by omega), e₆ 6 B 1 3 (by omega) (by omega), ccRd, if_pos ⟨rfl, rfl, rfl, rfl⟩]
  · rw [f₆ 6 B 1 4 (by omega) (by omega)]; exact e₅
  · rw [f₆ f i j p g₁ (by omega), e₆ f i j p g₁ (by omega), ccRd, if_neg (by omega), d₅ f i j p g₁, c₆ f i j p g₁ (by omega), b₆ f i j p g₁ (by omega), a₆ f i j p g₁ (by omega)]
