/-! LOOKS: what the class says would fall. -/
theorem kwE133n {X : mMi} {r : mRs} {B w l n lm dp cl bd T Z D L c : Nat} {β : Nat → Int32} {W : Nat → Nat} (qX : kwI X r B w l n lm dp cl bd β W T Z D) (bT : T ≤ 900000000) (h₁ : L < l) (h₂ : L + c < w) (g : ccHP (X 0 0) w l L c = false) : ∃ Y, kwFv X Y ∧ (∀ rs, F133 (N L) (N c) X rs = rI (N 0) Y rs) ∧ (∀ rs, F134 (N L) (N c) X rs = rI (N 0) Y rs) := by
  obtain ⟨h₀, qr⟩ := kwI_0 qX
  obtain ⟨h, t, j₀, c₀⟩ := qX.1
  have b₁ : w ≤ 12 := qr.2.2.2.2.1
  have b₂ : l ≤ 8 := qr.2.2.2.2.2.2.1
  have b₃ : n ≤ 40 := qr.2.2.2.2.2.2.2
  have tt : X 0 0 7 2 = N t := j₀.2.2.1.2.2.2.1
  obtain ⟨s, gg, kk, cd, _⟩ := kwI_U qX
  obtain ⟨Y, a₁, a₂, a₃⟩ := ccE18 (m := X) (i := 1) (i₂ := 0) (by omega)
  have xy : kwFv X Y := fun f a j p g₁ _ => a₂ f a j p g₁
  have d₁ : ccRu Y (RO 1) w l n := ⟨Eq.trans (a₂ 1 0 1 0 (by omega)) qr.1, Eq.trans (a₂ 1 0 1 1 (by omega)) qr.2.1, Eq.trans (a₂ 1 0 0 4 (by omega)) qr.2.2.1, qr.2.2.2⟩
  have d₂ : ∀ rs, F26 1 (N L) (N c) (N 0) (I (-1)) Y rs = rV Y rs := fun rs => by
    unfold F26
    exact ccNoP (f := 19) d₁ (by omega) (by omega) (by rw [ccHP_ag a₃ b₁ b₂]; exact g)
  have d₃ : Y 0 1 7 2 = N t := by rw [a₃.2.2.2.1]; exact tt
  have e₁ : ∀ rs, F32 1 (N L) (N c) Y rs = rI (N 0) Y rs := fun rs => by
    unfold F32
    rw [d₂, ccBv, d₃, N_sub (Nat.le_refl _), Nat.sub_self]
  have qY := kwI_v qX xy
  have wt := kwI_wt qY
  have cY : Y 0 0 = X 0 0 := kwFv_0 xy
  have cd₁ : ccCd n (Y 0 1) := by
    obtain ⟨mm, q₀⟩ := j₀.1
    exact ccCd_of (ccR_ag q₀.1.2.2.2.2.2.1 b₃ a₃ ccAr_rfl).2.1
  have s₀ : ∀ rs, F33 0 Y rs = rI (ccSum (ccW1 (fun k => N (W k)) (X 0 0)) 96) Y rs := fun rs => ccE33 cY wt cd b₃
  have s₁ : ∀ rs, F33 1 Y rs = rI (ccSum (ccW1 (fun k => N (W k)) (X 0 0)) 96) Y rs := fun rs => by
    rw [ccE33 rfl wt cd₁ b₃, ccW1_ag a₃]
  have sp : ccSp w l L c = N (12 * L + c) := if_pos ⟨h₁, h₂⟩
  have wp : ccWP W (X 0 0) (12 * L + c) = 0 := by
    rw [(kwHP_p h₁ h₂).1] at g
    unfold ccWP
    rw [g, if_neg (by intro y; cases y)]
  refine ⟨Y, xy, fun rs => ?_, fun rs => ?_⟩
  · unfold F133
    rw [ccE122t h₀ qr h₁ h₂, ccBv, a₁, ccBv, e₁, ccBi]
  · unfold F134
    rw [ccE122t h₀ qr h₁ h₂, ccBv, ccE81 qr (by omega) (by omega), ccBi, a₁, ccBv, e₁, ccBi, s₀, ccBi, s₁, ccBi, sp, ccE22 cY wt cd b₃ (by omega), ccBi, wp, ccSs0]
/-- the same where a pair stands, with the World's own fall -/
theorem kwE133 {m X M₁ : mMi} {r r₁ : mRs} {B E w l n lm dp cl bd T Z D L c : Nat} {β : Nat → Int32} {W : Nat → Nat} (q : kwI m r B w l n lm dp cl bd β W T Z D) (bT : T ≤ 900000000) (qX : kwI X r₁ B w l n lm dp cl bd β W T Z D) (eX : X 0 0 = m 0 0) (h₁ : L < l) (h₂ : L + c < w) (s : kwS M₁ E w l n lm dp cl bd) (g : kwG M₁ E (m 0 0)) (k : kwK ccX0 n M₁ E (m 0 0)) (f : kwF M₁ E (m 0 0)) : ∃ t v Y M₃, m 0 0 7 2 = N t ∧ kwFv X Y ∧ (∀ rs, F133 (N L) (N c) X rs = rI (N (v - t)) Y rs) ∧ (∀ rs, F134 (N L) (N c) X rs = rI ((N (kwWs W (kwIn (m 0 0)) n) - N (kwWs W (kwInW M₃ E) n)) - N (ccWP W (m 0 0) (12 * L + c))) Y rs) ∧ t ≤ v ∧ v < 1000000000 ∧ (∀ rs, rs.2.1.1 E = true → H191 E (N L) (N c) (N 0) (I (-1)) M₁ rs = rV M₃ rs) ∧ M₃ 6 E 0 20 = N v ∧ kwFr E M₁ M₃ ∧ (∀ i, i < n → kwInW M₃ E i = true → kwIn (m 0 0) i = true) ∧ (∀ i, i < n → kwInW M₃ E i = true → N 2 ≤ M₃ 6 E 4 i) := by
  obtain ⟨t, v, Y, Y₁, M₃, k₁, k₂, k₃, k₄, k₅, k₆, k₇, k₈, k₉, l₁, l₂, l₃, l₄⟩ := kwTry q bT qX eX h₁ h₂ s g k f
  obtain ⟨h₀, qr⟩ := kwI_0 qX
  have b₁ : w ≤ 12 := qr.2.2.2.2.1
  have b₂ : l ≤ 8 := qr.2.2.2.2.2.2.1
  have b₃ : n ≤ 40 := qr.2.2.2.2.2.2.2
  have qY := kwI_v qX k₅
  have wt := kwI_wt qY
  have cY : Y₁ 0 0 = m 0 0 := Eq.trans (kwFv_0 k₅) eX
  obtain ⟨_, _, _, cd, _⟩ := kwI_U q
  have s₀ : ∀ rs, F33 0 Y₁ rs = rI (N (kwWs W (kwIn (m 0 0)) n)) Y₁ rs := fun rs => by
    rw [ccE33 cY wt cd b₃, kwI_sum q]
  have sp : ccSp w l L c = N (12 * L + c) := if_pos ⟨h₁, h₂⟩
  have ew : kwWs W (kwInW M₃ E) n = kwWs W (kwIn (Y₁ 0 1)) n := kwWs_c n (fun i y => kwInW_e l₂ y)
  refine ⟨t, v, Y₁, M₃, k₁, k₅, fun rs => ?_, fun rs => ?_, k₆, k₇, k₈, k₉, l₁, fun i y z => l₃ i y (by rw [← kwInW_e l₂ y]; exact z), fun i y z => kwWh2 l₂ y z⟩
  · unfold F133
    rw [ccE122t h₀ qr h₁ h₂, ccBv, k₂, ccBv, k₃, ccBi]
  · unfold F134
    rw [ccE122t h₀ qr h₁ h₂, ccBv, ccE81 qr (by omega) (by omega), ccBi, k₂, ccBv, k₃, ccBi, s₀, ccBi, l₄, ccBi, sp, ccE22 cY wt cd b₃ (by omega), ccBi, ew]
