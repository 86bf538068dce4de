/-! THE LAW COMPARES the places: one place. -/
theorem kwFin_e {m : mMi} {r : mRs} {B w l n lm dp cl bd T Z D L c f : Nat} {β : Nat → Int32} {W : Nat → Nat} {x2 x3 x4 x7 x8 : Int32} (q : kwI m r B w l n lm dp cl bd β W T Z D) (h₁ : L < l) (h₂ : L + c < w) (h₇ : x7 = N 0 ∨ x7 = N 1) (h₈ : x8 = N 0 ∨ x8 = N 1) : kwFin B f x2 x3 x4 (N L) (N c) x7 x8 m r = H240_164 B 0 f 178 (x2 + x7) (x3 + x8) (x4 + N 1) (N L) (N c + N 1) (N 0) (N 0) (N 0) m r := by
  obtain ⟨h₀, qr⟩ := kwI_0 q
  have b₁ : w ≤ 12 := qr.2.2.2.2.1
  have b₂ : l ≤ 8 := qr.2.2.2.2.2.2.1
  obtain ⟨s, g, kk, cd, _⟩ := kwI_U q
  have hB := q.2.2.2.2
  have n₁ : ¬ N 1 = N 0 := by decide
  have pl : ccPl w l L c = true := by
    unfold ccPl
    rw [decide_eq_true h₁, decide_eq_true h₂]
    rfl
  unfold kwFin
  rw [kwE127 h₀ qr h₁ h₂, ccBi, hB, ccMckT, kwE177 hB s g cd (by omega) (by omega), ccBi, hB, ccMckT, ccIte, if_neg (by intro y; exact y rfl), kwE128 h₀ qr h₁ h₂, ccBi, hB, ccMckT, kwE183 hB s g cd (by omega) (by omega) pl, ccBi, hB, ccMckT, ccIte, if_pos rfl]
  rcases h₇ with rfl | rfl <;> rcases h₈ with rfl | rfl <;> simp only [ccIte, n₁, if_true, if_false, eq_self]
theorem kwEnd7 {m : mMi} {r : mRs} {B a9 w l n lm dp cl bd T Z D L c : Nat} {β : Nat → Int32} {W : Nat → Nat} {x2 x3 x4 x7 : Int32} (q : kwI m r B w l n lm dp cl bd β W T Z D) (h₁ : L < l) (h₂ : L + c < w) (h₇ : x7 = N 0 ∨ x7 = N 1) : ∃ M, ccFs m M ∧ ∀ f, H240_164 B a9 (f + 1) 348 x2 x3 x4 (N L) (N c) x7 (ccT (ccHF (m 0 0) w l L c)) (N 7) m r = H240_164 B 0 f 178 (x2 + x7) (x3 + ccT (ccHF (m 0 0) w l L c)) (x4 + N 1) (N L) (N c + N 1) (N 0) (N 0) (N 0) M r := by
  obtain ⟨h₀, qr⟩ := kwI_0 q
  have b₁ : w ≤ 12 := qr.2.2.2.2.1
  have b₂ : l ≤ 8 := qr.2.2.2.2.2.2.1
  have b₃ : n ≤ 40 := qr.2.2.2.2.2.2.2
  obtain ⟨s, g, kk, cd, _⟩ := kwI_U q
  obtain ⟨pl, wk, ww⟩ := kwI_P q
  have hB := q.2.2.2.2
  have n₁ : ¬ N 1 = N 0 := by decide
  have e₇ : N 7 ≤ N 7 := by rw [N_le (by omega) (by omega)]; omega
  have e₂₄ := (g L c (by omega) (by omega)).2.1
  cases g₁ : ccHF (m 0 0) w l L c
  · have g₂ : m 0 0 6 (12 * L + c) = I (-1) := by
      rcases Classical.em (m 0 0 6 (12 * L + c) = I (-1)) with y | y
      · exact y
      · have z : ccHF (m 0 0) w l L c = true := by
          unfold ccHF ccPl ccF
          rw [decide_eq_true h₁, decide_eq_true h₂, decide_eq_false y]
          rfl
        rw [z] at g₁
        cases g₁
    rw [g₂] at e₂₄
    have k : ∀ e, e < 4 → F123 (N L) (N c) (N e) m r = rI (I (-1)) m r := fun e y => kwE123f h₀ qr h₁ h₂ y g₁
    have k₀ := k 0 (by omega)
    have k₁ := k 1 (by omega)
    have k₂ := k 2 (by omega)
    have k₃ := k 3 (by omega)
    refine ⟨m, fun _ _ _ _ _ => rfl, fun f => ?_⟩
    have fin := kwFin_e (f := f) (x2 := x2) (x3 := x3) (x4 := x4) q h₁ h₂ h₇ (Or.inl rfl : N 0 = N 0 ∨ N 0 = N 1)
    rw [ccT_f]
    rw [kwH348, hB, ccMckT, ccIte, if_pos e₇, ccIte, if_pos rfl, k₀, ccBi, hB, ccMckT, ccMckIn (by omega : L < 10) (by omega), ccMckIn (by omega : c < 14) (by omega), mix_N (by omega), mix_N (by omega), e₂₄, ccIte, if_neg (by intro y; exact y rfl), k₁, ccBi, hB, ccMckT, ccIte, if_pos rfl, ccIte, if_neg (by intro y; exact y rfl), k₂, ccBi, hB, ccMckT, ccIte, if_pos rfl, ccIte, if_neg (by intro y; exact y rfl), k₃, ccBi, hB, ccMckT, ccIte, if_pos rfl, ccIte, if_pos rfl]
    exact fin
  · obtain ⟨u, hu⟩ : ∃ u, u = ccFL W (m 0 0) w l (8 - L) L c := ⟨_, rfl⟩
    have bu : u < 1000000 := by
      have y := ccFL_le cd wk b₁ b₂ b₃ (8 - L) L c
      omega
    have k₉ := kwE190 (rs := r) hB s g cd wk ww (by omega : L < 8) g₁
    rw [← hu] at k₉
    obtain ⟨m₁, f₁, k₀⟩ := kwE123 q h₁ h₂ (by omega : 0 < 4) g₁
    have q₁ := kwI_sc q f₁
    have o₁ := ccFs_0 (i := 0) f₁
    obtain ⟨m₂, f₂, k₁⟩ := kwE123 q₁ h₁ h₂ (by omega : 1 < 4) (by rw [o₁]; exact g₁)
    have q₂ := kwI_sc q₁ f₂
    have o₂ : m₂ 0 0 = m 0 0 := Eq.trans (ccFs_0 f₂) o₁
    obtain ⟨m₃, f₃, k₂⟩ := kwE123 q₂ h₁ h₂ (by omega : 2 < 4) (by rw [o₂]; exact g₁)
    have q₃ := kwI_sc q₂ f₃
    have o₃ : m₃ 0 0 = m 0 0 := Eq.trans (ccFs_0 f₃) o₂
    obtain ⟨m₄, f₄, k₃⟩ := kwE123 q₃ h₁ h₂ (by omega : 3 < 4) (by rw [o₃]; exact g₁)
    have q₄ := kwI_sc q₃ f₄
    rw [← hu] at k₀
    rw [o₁, ← hu] at k₁
    rw [o₂, ← hu] at k₂
    rw [o₃, ← hu] at k₃
    have k₀ : ∀ rs, F123 (N L) (N c) (N 0) m rs = rI (m 0 0 6 (12 * L + c)) m₁ rs := k₀
    have k₁ : ∀ rs, F123 (N L) (N c) (N 1) m₁ rs = rI (N u) m₂ rs := k₁
    have k₂ : ∀ rs, F123 (N L) (N c) (N 2) m₂ rs = rI (N (u - u / 2)) m₃ rs := k₂
    have k₃ : ∀ rs, F123 (N L) (N c) (N 3) m₃ rs = rI (N (u / 2)) m₄ rs := k₃
    have e₂₅ : m₁ 24 B L c = m 0 0 6 (12 * L + c) := by rw [f₁ 24 B L c (by omega)]; exact e₂₄
    refine ⟨m₄, fun f a j p y => by rw [f₄ f a j p y, f₃ f a j p y, f₂ f a j p y, f₁ f a j p y], fun f => ?_⟩
    have fin := kwFin_e (f := f) (x2 := x2) (x3 := x3) (x4 := x4) q₄ h₁ h₂ h₇ (Or.inr rfl : N 1 = N 0 ∨ N 1 = N 1)
    rw [ccT_t]
    rw [kwH348, hB, ccMckT, ccIte, if_pos e₇, ccIte, if_neg n₁, k₉, ccBi, hB, ccMckT, k₀, ccBi, hB, ccMckT, ccMckIn (by omega : L < 10) (by omega), ccMckIn (by omega : c < 14) (by omega), mix_N (by omega), mix_N (by omega), e₂₅, ccIte, if_neg (by intro y; exact y rfl), k₁, ccBi, hB, ccMckT, ccIte, if_neg n₁, ccIte, if_neg (by intro y; exact y rfl), k₂, ccBi, hB, ccMckT, ccIte, if_neg n₁, N_div (by omega) (by omega) (by omega), N_sub (by omega), ccIte, if_neg (by intro y; exact y rfl), k₃, ccBi, hB, ccMckT, ccIte, if_neg n₁, ccIte, if_pos rfl]
    exact fin
theorem kwL348 {r : mRs} {B a9 w l n lm dp cl bd T Z D L c : Nat} {β : Nat → Int32} {W : Nat → Nat} {x2 x3 x4 x7 x8 : Int32} (h₁ : L < l) (h₂ : L + c < w) (h₃ : r.2.1.2.1 a9 = some (20, 7)) : ∀ d e, e + d = 7 → ∀ m, kwI m r B w l n lm dp cl bd β W T Z D → (∀ e, e < 7 → m 9 a9 0 e = kwV121 W (m 0 0) w l L c e) → ∃ M, ccFs m M ∧ ∀ f, H240_164 B a9 (f + d + 1) 348 x2 x3 x4 (N L) (N c) x7 x8 (N e) m r = H240_164 B a9 (f + 1) 348 x2 x3 x4 (N L) (N c) x7 x8 (N 7) M r := by
  intro d
  induction d with
  | zero =>
    intro e y m q h₄
    have e₁ : e = 7 := by omega
    subst e₁
    exact ⟨m, fun _ _ _ _ _ => rfl, fun f => rfl⟩
  | succ d i₁ =>
    intro e y m q h₄
    have hB := q.2.2.2.2
    obtain ⟨m₁, f₁, k₁⟩ := kwE121 q h₁ h₂ (by omega : e < 7)
    have o₁ := ccFs_0 (i := 0) f₁
    obtain ⟨M, f₂, k₂⟩ := i₁ (e + 1) (by omega) m₁ (kwI_sc q f₁) (fun e y => by rw [f₁ 9 a9 0 e (by omega), o₁]; exact h₄ e y)
    refine ⟨M, fun f a j p z => by rw [f₂ f a j p z, f₁ f a j p z], fun f => ?_⟩
    have e₀ : f + (d + 1) + 1 = f + d + 1 + 1 := by omega
    have e₂ : ¬ N 7 ≤ N e := by rw [N_le (by omega) (by omega)]; omega
    have e₃ : mIsInt (some (20, 7)) (N e) = true := mIn_N (by omega) (by omega)
    have e₄ : m₁ 9 a9 0 e = kwV121 W (m 0 0) w l L c e := by rw [f₁ 9 a9 0 e (by omega)]; exact h₄ e (by omega)
    rw [e₀, kwH348, hB, ccMckT, ccIte, if_neg e₂, k₁, ccBi, hB, ccMckT, h₃, e₃, ccMckT, mix_N (by omega), e₄, ccIte, if_pos rfl, N_add]
    exact k₂ f
