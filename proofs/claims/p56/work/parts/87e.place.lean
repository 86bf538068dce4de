/-! LOOKS: a place with a pair. -/
theorem kwStr_v {n₀ s : Nat} {m M : mMi} {r : mRs} {t : List Nat} (h : kwStr n₀ m r s t) (h₁ : kwFv m M) : kwStr n₀ M r s t := by
  obtain ⟨v, p₁, k₁, k₂, k₃, c₁, l₁, y₁, y₂⟩ := h
  exact ⟨v, p₁, k₁, k₂, k₃, by rw [h₁ 9 s 0 1 (by omega) (by omega)]; exact c₁, l₁, y₁, fun k y => by rw [h₁ 9 v 0 k (by omega) (by omega)]; exact y₂ k y⟩
theorem kwGsum {W : Nat → Nat} {n x : Nat} {P Q : Nat → Bool} (h : ∀ i, i < n → Q i = true → P i = true) : (N (kwWs W P n) - N (kwWs W Q n)) - N x = I ((kwWs W (fun i => P i && !(Q i)) n : Int) - (x : Int)) := by
  have e := kwWs_d (W := W) n h
  rw [← I_N, ← I_N, ← I_N, I_sub, I_sub, e]
  congr 1
  omega
theorem kwNwP {n₀ : Nat} {m₀ : mMi} {B w l n lm dp cl bd : Nat} {β : Nat → Int32} {W : Nat → Nat} {T Z D a L c : Nat} {t : List Nat} {m : mMi} {r : mRs} (h : kwPq n₀ m₀ B w l n lm dp cl bd β W T Z D a t m r) (bT : T ≤ 900000000) (nm : kwNms m n) (dg : kwDg m) (h₁ : L < l) (h₂ : L + c < w) (g : ccHP (m 0 0) w l L c = true) : ∃ M R, kwPq n₀ m₀ B w l n lm dp cl bd β W T Z D a t M R ∧ kwRu n₀ 115 2293 r R ∧ ∀ f x2 x3 x4 x5 x6 x7 x8 x9 x10 x14, kwNw B a (f + n + 1) x2 x3 x4 x5 x6 x7 x8 x9 x10 (N L) (N c) x14 m r = H242_73 B 0 a f 96 x2 x3 x4 x5 x6 x7 x8 x9 x10 (N L) (N (c + 1)) (N 0) (N 0) (N 0) M R := by
  obtain ⟨q, ro, bd₀, fk₀, hg⟩ := id h
  obtain ⟨E, hE⟩ : ∃ E, E = r.2.2.1 := ⟨_, rfl⟩
  have hB := q.2.2.2.2
  have qr := (kwI_0 q).2
  have b₁ : w ≤ 12 := qr.2.2.2.2.1
  have b₂ : l ≤ 8 := qr.2.2.2.2.2.2.1
  have b₃ : n ≤ 40 := qr.2.2.2.2.2.2.2
  have b₄ : 12 * L + c < 96 := by omega
  obtain ⟨_, _, g₀⟩ := ccHP_t g
  obtain ⟨a', b', uu, vv, k₄, k₅, ka, kb, uu₁, uu₃, vv₁, vv₂⟩ := kwI_p q b₄ g₀
  obtain ⟨M₁, R₁, e₀, u₁, f₁, aE, nx₁, s₁, g₁, k₁, ff₁, w₁, lx⟩ := kwNew q ro
  rw [← hE] at e₀ u₁ f₁ aE s₁ g₁ k₁ ff₁ w₁ lx
  have rE : B < E ∧ 10 ≤ E := by rw [hE]; exact ⟨ro.2.1, ro.2.2⟩
  obtain ⟨t₀, v, _, M₃, e₁, _, _, _, e₂, e₃, e₄, e₅, e₆, e₇, e₈⟩ := kwE133 q bT q rfl h₁ h₂ s₁ g₁ k₁ ff₁
  have f₃ : kwFk E m M₃ := fun f i j p y₁ y₂ y₃ => by
    rw [e₆ f i j p (by omega) (by omega)]
    exact f₁ f i j p y₁ y₂ y₃
  have q₃ := kwI_k q f₃ u₁ nx₁ rE
  have c₃ : M₃ 0 0 = m 0 0 := kwFk_0 f₃ (by omega)
  have ro₁ := kwRo_u ro u₁
  have dg₃ : kwDg M₃ := fun i y => by
    rw [f₃ 3 4 0 i (by omega) (by omega) (by omega), f₃ 3 5 0 i (by omega) (by omega) (by omega)]
    exact dg i y
  have hB₁ : R₁.2.1.1 B = true := u₁.2.1 B hB
  obtain ⟨_, wk, ww⟩ := kwI_P q₃
  obtain ⟨s, M₄, R₄, str, f₄, u₄, nx₄, al₄, eq₄⟩ := kwEpT (a12 := a) q₃ ro₁ dg₃ aE nm.1 h₁ h₂ (by rw [c₃]; exact k₄) (by rw [c₃]; exact k₅) ka kb (by rw [c₃]; exact uu₁) uu₃ (by rw [c₃]; exact vv₁) vv₂
  rw [c₃] at str
  have rE₁ : B < R₁.2.2.1 ∧ 10 ≤ R₁.2.2.1 := ⟨ro₁.2.1, ro₁.2.2⟩
  have q₄ := kwI_k q₃ f₄ u₄ nx₄ rE₁
  have c₄ : M₄ 0 0 = m 0 0 := Eq.trans (kwFk_0 f₄ (by omega)) c₃
  have hB₄ : R₄.2.1.1 B = true := by rw [al₄]; exact hB₁
  have hE₄ : R₄.2.1.1 E = true := by rw [al₄]; exact aE
  obtain ⟨t₅, v₅, Y₁, M₅, a₁, o₁, a₂, _, _, a₃, a₄, a₅, _, _, _⟩ := kwE133 q bT q₄ c₄ h₁ h₂ s₁ g₁ k₁ ff₁
  have m₅ : M₅ = M₃ := by
    have y₁ := e₄ R₁ aE
    rw [a₄ R₁ aE] at y₁
    injection y₁ with y₂
    injection y₂ with y₃ y₄
    injection y₄ with y₅ y₆
  have v₆ : v₅ = v := by
    rw [m₅, e₅] at a₅
    exact ccNinj a₅.symm (by omega) (by omega)
  have t₆ : t₅ = t₀ := by
    rw [e₁] at a₁
    exact ccNinj a₁.symm (by omega) (by omega)
  have q₅ := kwI_v q₄ o₁
  have c₅ : Y₁ 0 0 = m 0 0 := Eq.trans (kwFv_0 o₁) c₄
  obtain ⟨_, _, Y₂, M₆, _, o₂, _, a₆, _, _, a₇, _, _, _, _⟩ := kwE133 q bT q₅ c₅ h₁ h₂ s₁ g₁ k₁ ff₁
  have m₆ : M₆ = M₃ := by
    have y₁ := e₄ R₁ aE
    rw [a₇ R₁ aE] at y₁
    injection y₁ with y₂
    injection y₂ with y₃ y₄
    injection y₄ with y₅ y₆
  have q₆ := kwI_v q₅ o₂
  have c₆ : Y₂ 0 0 = m 0 0 := Eq.trans (kwFv_0 o₂) c₅
  have fx : kwFk E M₃ Y₂ := kwFk_trans (kwFk_le f₄ (by omega)) (kwFk_trans (kwFk_v o₁) (kwFk_v o₂))
  have nm₆ : kwNms Y₂ n := ⟨nm.1, fun i y => by
    rw [fx 1 0 2 i (by omega) (by omega) (by omega), f₃ 1 0 2 i (by omega) (by omega) (by omega)]
    exact nm.2 i y⟩
  obtain ⟨Y₃, a₈, t₈, o₃⟩ := kwE153 q₆ nm₆ h₁ h₂ (by rw [c₆]; exact g) (by rw [c₆]; exact k₄) (by rw [c₆]; exact k₅) ka kb (by rw [c₆]; exact uu₁) uu₃ (by rw [c₆]; exact vv₁) vv₂
  rw [c₆] at a₈ t₈
  obtain ⟨M, R, a₉, f₉, o₄, v₉⟩ := kwIsT nx₄ (kwStr_v str (kwFv_trans o₁ (kwFv_trans o₂ o₃))) t₈
  have y₄ := u₄.2.2.1
  have fM : kwFk E m M := kwFk_trans f₃ (kwFk_trans fx (kwFk_trans (kwFk_v o₃) (kwFk_le (kwFk_9 o₄) (by omega))))
  have uM : kwRu E 115 2293 r R := kwRu_le (kwRu_trans u₁ (kwRu_trans (kwRu_le u₄ (by omega) (Nat.le_refl _) (Nat.le_refl _)) (kwRu_le (kwRu_s f₉ (Nat.le_refl _) (fun b _ => v₉ b)) (by omega) (Nat.le_refl _) (Nat.le_refl _)))) (Nat.le_refl _) (by omega) (by omega)
  refine ⟨M, R, kwPq_k h (by rw [← hE]; exact fM) (by rw [← hE]; exact uM) (kwNx_k f₉ nx₄), kwRu_le uM (by omega) (Nat.le_refl _) (Nat.le_refl _), fun f x2 x3 x4 x5 x6 x7 x8 x9 x10 x14 => ?_⟩
  have r₂₀ : M₃ 20 B L c = N a' := by
    obtain ⟨_, y, _, _, _⟩ := kwI_U q₃
    rw [(y L c (by omega) (by omega)).1, c₃]
    exact k₄
  have r₂₁ : M₃ 21 B L c = N b' := by
    obtain ⟨_, y, _, _, _⟩ := kwI_U q₃
    rw [((y L c (by omega) (by omega)).2.2 (by rw [c₃]; exact g₀)).1, c₃]
    exact k₅
  have x₁ : -(N (W a')) - N (W b') = I (((kwWs W (fun i => kwInW M₃ B i && !(kwInW M₃ E i)) 0 : Nat) : Int) - ((W a' + W b' : Nat) : Int)) := by
    have z : kwWs W (fun i => kwInW M₃ B i && !(kwInW M₃ E i)) 0 = 0 := rfl
    rw [z, ← I_N, ← I_N, I_neg, I_sub]
    congr 1
    omega
  have gone := kwGone (E := E) (a := a) (x := W a' + W b') (x2 := x2) (x3 := x3) (x4 := x4) (x5 := x5) (x6 := x6) (x7 := x7) (x8 := x8) (x9 := x9) (x10 := x10) (x11 := N L) (x13 := N c) (x14 := x14) q₃ aE e₈ n 0 (by omega) f
  have s₂₀ : Y₁ 6 E 0 20 = N v := by
    rw [o₁ 6 E 0 20 (by omega) (by omega), f₄ 6 E 0 20 (by omega) (by omega) (by omega)]
    exact e₅
  have s₂₁ : Y₁ 6 B 0 20 = N t₀ := by
    rw [(kwI_U q₅).2.2.2.2, c₅]
    exact e₁
  have wp : ccWP W (m 0 0) (12 * L + c) = W a' + W b' := by
    have z : ccP (m 0 0) (12 * L + c) = true := by rw [← (kwHP_p h₁ h₂).1]; exact g
    unfold ccWP
    rw [z, if_pos rfl, k₄, k₅, mix_N (by omega), mix_N (by omega)]
  have eg : kwWs W (kwInW M₃ B) n = kwWs W (kwIn (m 0 0)) n := kwWs_c n (fun i y => by
    rw [← c₃]
    exact kwInW_e (kwI_U q₃).2.2.1 y)
  have gs : (N (kwWs W (kwIn (m 0 0)) n) - N (kwWs W (kwInW M₃ E) n)) - N (ccWP W (m 0 0) (12 * L + c)) = I ((kwWs W (fun i => kwInW M₃ B i && !(kwInW M₃ E i)) n : Int) - ((W a' + W b' : Nat) : Int)) := by
    rw [wp, ← eg]
    exact kwGsum (fun i y₁ y₂ => by
      rw [kwInW_e (kwI_U q₃).2.2.1 y₁, c₃]
      exact e₇ i y₁ y₂)
  have hR := kwRs_B f₉ hB₄
  have hRE := kwRs_B f₉ hE₄
  rw [t₆, v₆] at a₂
  rw [m₆, gs] at a₆
  unfold kwNw
  rw [e₀]
  show mckO (R₁.2.1.1 B) (mckO (R₁.2.1.1 E) (bV (H191 E (N L) (N c) (N 0) (I (-1)) M₁ R₁) _)) = _
  rw [hB₁, ccMckT, aE, ccMckT, e₄ R₁ aE, ccBv, hB₁, ccMckT, aE, ccMckT, ccMckIn (by omega : L < 10) (by omega), ccMckIn (by omega : c < 14) (by omega), mix_N (by omega), mix_N (by omega), r₂₀, ccMckIn (by omega : a' < 40) (by omega), ccMckIn (by omega : L < 10) (by omega), ccMckIn (by omega : c < 14) (by omega), r₂₁, ccMckIn (by omega : b' < 40) (by omega), mix_N (by omega), mix_N (by omega), ww a' ka, ww b' kb, x₁, gone, eq₄]
  unfold kwEz
  rw [a₂, ccBi, hB₄, ccMckT, hE₄, ccMckT, s₂₀, s₂₁, N_sub e₂, ccIte, if_neg (by intro y; exact y rfl), a₆, ccBi, hB₄, ccMckT, hE₄, ccMckT, ccIte, if_neg (by intro y; exact y rfl), a₈, ccBi, hB₄, ccMckT, hE₄, ccMckT, a₉, ccBi, hR, ccMckT, hRE, ccMckT, ccIf1, N_add]
