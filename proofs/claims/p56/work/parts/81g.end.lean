/-! THE LAW COMPARES: what is refused at the end. -/
theorem kwN124 {m : mMi} {r : mRs} {t k : Nat} {y : Int32} (h₀ : m 2 0 0 10 = N 1) (h₁ : m 0 0 7 2 = N t) (bt : t < 1000000000) (hk : k = if 30 < t then 30 else t) : F124 (N k) y m r = rX 2 m (rsT r) := by
  have bk : k ≤ 30 := by
    rw [hk]
    by_cases g : 30 < t
    · rw [if_pos g]; omega
    · rw [if_neg g]; omega
  have e₄ : F47 0 m r = rI (N k) m r := by
    unfold F47
    rw [h₁, hk]
    by_cases g : 30 < t
    · rw [if_pos g, if_pos (by rw [N_lt (by omega) (by omega)]; exact g)]
    · rw [if_neg g, if_neg (by rw [N_lt (by omega) (by omega)]; exact g)]
  show bV (F114 m r) _ = _
  rw [kwE114 h₀, ccBv, e₄, ccBi, ccE106 (by omega) (by omega), if_neg (by omega), ccBvX]
theorem kwN125 {m : mMi} {r : mRs} {w l n : Nat} (h₀ : m 2 0 0 10 = N 1) (qr : ccRu m 0 w l n) : F125 (N (ccCnt (ccHeld (m 0 0)) n)) m r = rX 2 m (rsT r) := by
  have b₃ : n ≤ 40 := qr.2.2.2.2.2.2.2
  have cl := ccCnt_le (f := ccHeld (m 0 0)) n
  show bV (F114 m r) _ = _
  rw [kwE114 h₀, ccBv, ccE6 (i := 0) qr, ccBi, ccE106 (by omega) (by omega), if_neg (by omega), ccBvX]
theorem kwN126 {m : mMi} {r : mRs} {h : Nat} (h₀ : m 2 0 0 10 = N 1) (h₁ : m 0 0 10 5 = N h) (h₃ : h ≤ 40) : F126 (N h) m r = rX 2 m (rsT r) := by
  show bV (F114 m r) _ = _
  rw [kwE114 h₀, ccBv, h₁, ccE106 (by omega) (by omega), if_neg (by omega), ccBvX]
theorem kwN119 {m : mMi} {r : mRs} {w l n : Nat} {y : Int32} (h₀ : m 2 0 0 10 = N 1) (qr : ccRu m 0 w l n) : F119 (N n) y m r = rX 2 m (rsT r) := by
  have b₃ : n ≤ 40 := qr.2.2.2.2.2.2.2
  show bV (F120 (N n) m r) _ = _
  rw [ccE120f h₀ qr (fun ⟨a, y₁, y₂⟩ => by
    have y₃ := ccNinj y₁ (by omega) (by omega)
    omega), ccBvX]
theorem kwN121 {m : mMi} {r : mRs} {w l n : Nat} {x y z : Int32} (h₀ : m 2 0 0 10 = N 1) (qr : ccRu m 0 w l n) (h : ¬ ccIsPl w l x y) : F121 x y z m r = rX 2 m (rsT r) := by
  show bV (F122 x y m r) _ = _
  rw [ccE122f h₀ qr h, ccBvX]
theorem kwTl905 {m : mMi} {r : mRs} {B a6 w l n lm dp cl bd T Z D t k h : Nat} {β : Nat → Int32} {W : Nat → Nat} {x2 x3 x4 : Int32} (q : kwI m r B w l n lm dp cl bd β W T Z D) (h₁ : m 0 0 7 2 = N t) (bt : t < 1000000000) (hk : k = if 30 < t then 30 else t) (e₁₀ : m 0 0 10 5 = N h) (e₁₈ : m 6 B 0 18 = N h) (bh : h ≤ 40) : ∃ M R, kwI M R B w l n lm dp cl bd β W T Z D ∧ kwRs 15 110 r R ∧ (∀ f i j p, ¬ (f = 9 ∧ r.2.2.1 ≤ i) → M f i j p = m f i j p) ∧ ∀ f, H240_905 B a6 (f + 1) x2 x3 x4 (N k) (N 6) m r = rI (N 1) M R := by
  have hB := q.2.2.2.2
  have b₂ : l ≤ 8 := (kwI_0 q).2.2.2.2.2.2.2.1
  have b₁ : w ≤ 12 := (kwI_0 q).2.2.2.2.2.1
  obtain ⟨M₁, R₁, f₁, g₁, c₁⟩ := kwK5 (B := B) (m := m) (r := r) (E := 2) (x₁ := N k) (x₂ := N 0) q.2.2.2.1 hB (by omega) (fun M R y => by
    obtain ⟨y₁, y₂, y₃⟩ := kwI_M q y
    exact kwN124 y₁ (by rw [y₃]; exact h₁) bt hk)
  have q₁ := kwI_9 q g₁ f₁
  have o₁ : M₁ 0 0 = m 0 0 := by
    funext j p
    exact g₁ 0 0 j p (by omega)
  obtain ⟨s₁, _, k₁, _, _⟩ := kwI_U q₁
  obtain ⟨M₂, R₂, f₂, g₂, c₂⟩ := kwX6 (m := M₁) (r := R₁) (E := 2) (x₁ := N (ccCnt (ccHeld (M₁ 0 0)) n)) q₁.2.2.2.1 (by omega) (fun M R y => by
    obtain ⟨y₁, y₂, y₃⟩ := kwI_M q₁ y
    rw [← y₃]
    exact kwN125 y₁ y₂)
  have q₂ := kwI_9 q₁ g₂ f₂
  have o₂ : M₂ 0 0 = m 0 0 := by
    rw [← o₁]
    funext j p
    exact g₂ 0 0 j p (by omega)
  have w₂ : M₂ 6 B 0 18 = N h := by rw [g₂ 6 B 0 18 (by omega), g₁ 6 B 0 18 (by omega)]; exact e₁₈
  obtain ⟨M₃, R₃, f₃, g₃, c₃⟩ := kwX7 (m := M₂) (r := R₂) (E := 2) (x₁ := N h) q₂.2.2.2.1 (by omega) (fun M R y => by
    obtain ⟨y₁, y₂, y₃⟩ := kwI_M q₂ y
    exact kwN126 y₁ (by rw [y₃, o₂]; exact e₁₀) bh)
  have q₃ := kwI_9 q₂ g₃ f₃
  have w₃ : M₃ 6 B 0 17 = N n := (kwI_S q₃).2.2.2.2.2.2.1
  obtain ⟨M₄, R₄, f₄, g₄, c₄⟩ := kwX2 (m := M₃) (r := R₃) (E := 2) (x₁ := N n) (x₂ := N 0) q₃.2.2.2.1 (by omega) (fun M R y => by
    obtain ⟨y₁, y₂, y₃⟩ := kwI_M q₃ y
    exact kwN119 y₁ y₂)
  have q₄ := kwI_9 q₃ g₄ f₄
  have w₄ : M₄ 6 B 1 1 = N l := (kwI_S q₄).2.1
  obtain ⟨M₅, R₅, f₅, g₅, c₅⟩ := kwX3 (m := M₄) (r := R₄) (E := 2) (x₁ := N l) (x₂ := N 0) (x₃ := N 0) q₄.2.2.2.1 (by omega) (fun M R y => by
    obtain ⟨y₁, y₂, y₃⟩ := kwI_M q₄ y
    exact kwN121 y₁ y₂ (kwPl_no (fun z => by omega) (by omega) (by omega) b₁ b₂))
  have q₅ := kwI_9 q₄ g₅ f₅
  have r₁ := f₁.2.2.1
  have r₂ := f₂.2.2.1
  have r₃ := f₃.2.2.1
  have r₄ := f₄.2.2.1
  refine ⟨M₅, R₅, q₅, kwRs_le (kwRs_trans f₁ (kwRs_trans f₂ (kwRs_trans f₃ (kwRs_trans f₄ f₅)))) (by omega) (by omega), fun f i j p y => ?_, fun f => ?_⟩
  · rw [g₅ f i j p (by omega), g₄ f i j p (by omega), g₃ f i j p (by omega), g₂ f i j p (by omega), g₁ f i j p y]
  · have e₂ : N 6 ≤ N 6 := by rw [N_le (by omega) (by omega)]; omega
    have hB₁ := q₁.2.2.2.2
    have hA : (rsA R₁ 20 1 1).2.1.1 B = true := hB₁
    have kf : kwK ccX0 n (mfill M₁ 9 R₁.2.2.1 0 1 0) B (M₁ 0 0) := fun k y => by
      have z := k₁ k y
      unfold kwL at z ⊢
      rw [mfill_ne (f' := 6) (by omega), mfill_ne (f' := 6) (by omega), mfill_ne (f' := 6) (by omega), mfill_ne (f' := 6) (by omega)]
      exact z
    have sf : kwS (mfill M₁ 9 R₁.2.2.1 0 1 0) B w l n lm dp cl bd := kwS_st (fun j p _ => by rw [mfill_ne (by omega)]) s₁
    have e₆ := kwE176 (rs := rsA R₁ 20 1 1) hA sf kf
    have p₂ : mfill M₂ 9 R₂.2.2.1 0 1 0 6 B 0 18 = N h := by rw [mfill_ne (by omega)]; exact w₂
    have p₃ : mfill M₃ 9 R₃.2.2.1 0 2 0 6 B 0 17 = N n := by rw [mfill_ne (by omega)]; exact w₃
    have p₄ : mfill M₄ 9 R₄.2.2.1 0 3 0 6 B 1 1 = N l := by rw [mfill_ne (by omega)]; exact w₄
    rw [kwH905, hB, ccMckT, ccIte, if_pos e₂, c₁, hB₁, ccMckT, kwEq2, kwBn q₁.2.2.2.1 (by omega)]
    simp (disch := omega) only [kwAl, hB₁, kwIsA, ccMckT, e₆, ccBi, mix_N, c₂]
    rw [q₂.2.2.2.2, ccMckT, kwEq2, kwBn q₂.2.2.2.1 (by omega)]
    simp (disch := omega) only [kwAl, q₂.2.2.2.2, kwIsA, ccMckT, ccBi, p₂, c₃]
    rw [q₃.2.2.2.2, ccMckT, kwEq2, kwBn q₃.2.2.2.1 (by omega)]
    simp (disch := omega) only [kwAl, q₃.2.2.2.2, kwIsA, ccMckT, ccBi, p₃, c₄]
    rw [q₄.2.2.2.2, ccMckT, kwEq2, kwBn q₄.2.2.2.1 (by omega)]
    simp (disch := omega) only [kwAl, q₄.2.2.2.2, kwIsA, ccMckT, ccMckIn, ccBi, p₄, c₅]
    rw [q₅.2.2.2.2, ccMckT, kwEnd2]
