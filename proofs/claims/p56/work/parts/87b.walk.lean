/-! LOOKS: one place without a pair. -/
/-- at work on a level's text -/
def kwPq (n₀ : Nat) (m₀ : mMi) (B w l n lm dp cl bd : Nat) (β : Nat → Int32) (W : Nat → Nat) (T Z D a : Nat) (t : List Nat) (m : mMi) (r : mRs) : Prop := kwI m r B w l n lm dp cl bd β W T Z D ∧ kwRo B r ∧ (∃ cap, kwB n₀ m r a cap t) ∧ kwFk n₀ m₀ m ∧ n₀ ≤ r.2.2.1
theorem kwPq_k {n₀ : Nat} {m₀ : mMi} {B w l n lm dp cl bd : Nat} {β : Nat → Int32} {W : Nat → Nat} {T Z D a k s : Nat} {t : List Nat} {m M : mMi} {r R : mRs} (h : kwPq n₀ m₀ B w l n lm dp cl bd β W T Z D a t m r) (h₁ : kwFk r.2.2.1 m M) (h₂ : kwRu r.2.2.1 k s r R) (nx : kwNx R) : kwPq n₀ m₀ B w l n lm dp cl bd β W T Z D a t M R := by
  obtain ⟨q, ro, ⟨cap, b⟩, f, g⟩ := h
  have y := h₂.2.2.1
  exact ⟨kwI_k q h₁ h₂ nx ⟨ro.2.1, ro.2.2⟩, kwRo_u ro h₂, ⟨cap, kwB_k b h₁ h₂ (Nat.le_refl _)⟩, kwFk_trans f (kwFk_le h₁ g), by omega⟩
theorem kwPq_a {n₀ : Nat} {m₀ : mMi} {B w l n lm dp cl bd : Nat} {β : Nat → Int32} {W : Nat → Nat} {T Z D a b : Nat} {t : List Nat} {m : mMi} {r : mRs} (h : kwPq n₀ m₀ B w l n lm dp cl bd β W T Z D a t m r) (hn : B < n₀ ∧ 10 ≤ n₀) (hb : b < 128) (hl : t.length ≤ 12) : ∃ M R, H202 a (N b) m r = some (.inl (some (mR 9 a 0)), M, R) ∧ kwPq n₀ m₀ B w l n lm dp cl bd β W T Z D a (t ++ [b]) M R ∧ kwRu n₀ 1 40 r R := by
  obtain ⟨q, ro, ⟨cap, bb⟩, f, g⟩ := h
  have nx := q.2.2.2.1
  obtain ⟨M, R, cap₁, e₁, h₁, f₁, o₁⟩ := kwE202 bb nx hb (by omega)
  have u := kwRu_o o₁ f₁ g
  have y := u.2.2.1
  exact ⟨M, R, e₁, ⟨kwI_k q (kwFk_o o₁) u (kwNx_k f₁ nx) hn, kwRo_u ro u, ⟨cap₁, h₁⟩, kwFk_trans f (kwFk_o o₁), by omega⟩, kwRu_le u (Nat.le_refl _) (by omega) (by omega)⟩
theorem kwRu_s {n₀ k s : Nat} {r R : mRs} (h₁ : kwRs k s r R) (h₂ : n₀ ≤ r.2.2.1) (h₃ : ∀ a, a < n₀ → R.2.1.2.2 a = r.2.1.2.2 a) : kwRu n₀ k s r R := by
  obtain ⟨a₁, a₂, a₃, a₄, a₅, a₆⟩ := h₁
  exact ⟨by rw [a₁], fun b y => by rw [a₂]; exact y, a₃, a₄, a₅, fun a y => ⟨a₆ a (by omega), h₃ a y⟩⟩
theorem kwPool18 : kwPool 18 [45] := ⟨rfl, rfl, by decide, by decide⟩
/-- a place without a pair -/
theorem kwConN {n₀ : Nat} {m₀ : mMi} {B w l n lm dp cl bd : Nat} {β : Nat → Int32} {W : Nat → Nat} {T Z D a L c : Nat} {t : List Nat} {m : mMi} {r : mRs} (h : kwPq n₀ m₀ B w l n lm dp cl bd β W T Z D a t m r) (bT : T ≤ 900000000) (h₁ : L < l) (h₂ : L + c < w) (g : ccHP (m 0 0) w l L c = false) : ∃ M R, kwPq n₀ m₀ B w l n lm dp cl bd β W T Z D a t M R ∧ kwRu n₀ 3 22 r R ∧ ∀ f x2 x3 x4 x5 x6 x7 x8 x9 x10, kwCon B a f x2 x3 x4 x5 x6 x7 x8 x9 x10 (N L) (N c) m r = H242_73 B 0 a f 96 x2 x3 x4 x5 x6 x7 x8 (x9 + N 1) x10 (N L) (N (c + 1)) (N 0) (N 0) (N 0) M R := by
  obtain ⟨q, ro, _, _, hn⟩ := id h
  have hB := q.2.2.2.2
  have nx := q.2.2.2.1
  have qr := (kwI_0 q).2
  have b₁ : w ≤ 12 := qr.2.2.2.2.1
  have b₂ : l ≤ 8 := qr.2.2.2.2.2.2.1
  obtain ⟨s, gg, kk, cd, _⟩ := kwI_U q
  obtain ⟨Y₁, o₁, k₁, _⟩ := kwE133n q bT h₁ h₂ g
  have q₁ := kwI_v q o₁
  obtain ⟨Y₂, o₂, _, k₂⟩ := kwE133n q₁ bT h₁ h₂ (by rw [kwFv_0 o₁]; exact g)
  have q₂ := kwI_v q₁ o₂
  obtain ⟨Y₃, k₃, t₃, o₃⟩ := kwE153n q₂ h₁ h₂ (by rw [kwFv_0 o₂, kwFv_0 o₁]; exact g)
  obtain ⟨M, R, k₄, f₄, o₄, v₄⟩ := kwIsP nx kwPool18 t₃
  have fk : kwFk r.2.2.1 m M := kwFk_trans (kwFk_v o₁) (kwFk_trans (kwFk_v o₂) (kwFk_trans (kwFk_v o₃) (kwFk_9 o₄)))
  have ru : kwRu r.2.2.1 3 22 r R := kwRu_s f₄ (Nat.le_refl _) (fun b _ => v₄ b)
  refine ⟨M, R, kwPq_k h fk ru (kwNx_k f₄ nx), kwRu_le ru hn (Nat.le_refl _) (Nat.le_refl _), fun f x2 x3 x4 x5 x6 x7 x8 x9 x10 => ?_⟩
  have k₅ : H243p 18 (N 1) Y₃ r = rI (N 1) M R := k₄
  unfold kwCon
  rw [kwE178 hB s gg cd (by omega) (by omega), g, ccBi, hB, ccMckT, ccT_f, ccIf0, k₁, ccBi, hB, ccMckT, ccIf0, k₂, ccBi, hB, ccMckT, ccIf0, k₃, ccBi, hB, ccMckT, k₅, ccBi, kwRs_B f₄ hB, ccMckT, ccIf1, N_add]
/-- the letter of a place -/
theorem kwLet {n₀ : Nat} {m₀ : mMi} {B w l n lm dp cl bd : Nat} {β : Nat → Int32} {W : Nat → Nat} {T Z D a L c : Nat} {t : List Nat} {m : mMi} {r : mRs} (h : kwPq n₀ m₀ B w l n lm dp cl bd β W T Z D a t m r) (hn : B < n₀ ∧ 10 ≤ n₀) (h₁ : L < l) (h₂ : L + c < w) (hl : t.length ≤ 12) : ∃ M R, kwPq n₀ m₀ B w l n lm dp cl bd β W T Z D a (t ++ [ccLvb (m 0 0) w l L c]) M R ∧ kwRu n₀ 1 40 r R ∧ ∀ f x2 x3 x4 x5 x6 x7 x8 x9 x10 x14 x16 x17, H242_73 B 0 a (f + 1) 96 x2 x3 x4 x5 x6 x7 x8 x9 x10 (N L) (N c) x14 x16 x17 m r = kwCon B a f x2 x3 x4 x5 x6 x7 x8 x9 x10 (N L) (N c) M R := by
  obtain ⟨q, ro, ⟨cap, v, _, ka, _⟩, _, hg⟩ := id h
  have hB := q.2.2.2.2
  have nx := q.2.2.2.1
  have qr := (kwI_0 q).2
  have b₁ : w ≤ 12 := qr.2.2.2.2.1
  have b₂ : l ≤ 8 := qr.2.2.2.2.2.2.1
  obtain ⟨s, gg, kk, cd, _⟩ := kwI_U q
  have e₁ : m 6 B 1 0 = N w := s.1
  have e₂ : ¬ N (w - L) ≤ N c := by rw [N_le (by omega) (by omega)]; omega
  have n₁ : ¬ N 1 = N 0 := by decide
  have bb : ccLvb (m 0 0) w l L c < 128 := by
    unfold ccLvb
    by_cases u₁ : ccHP (m 0 0) w l L c = true
    · rw [if_pos u₁]; omega
    · rw [if_neg u₁]
      by_cases u₂ : ccHF (m 0 0) w l L c = true
      · rw [if_pos u₂]; omega
      · rw [if_neg u₂]; omega
  obtain ⟨M, R, k₁, k₂, k₃⟩ := kwPq_a h hn bb hl
  have hR := k₂.1.2.2.2.2
  refine ⟨M, R, k₂, k₃, fun f x2 x3 x4 x5 x6 x7 x8 x9 x10 x14 x16 x17 => ?_⟩
  rw [kwG96, hB, ccMckT, ccMckIn (by omega : 0 < 6) (by omega), e₁, N_sub (by omega), ccIte, if_neg e₂, kwE178 hB s gg cd (by omega) (by omega), ccBi, hB, ccMckT]
  unfold ccLvb at k₁
  cases u₁ : ccHP (m 0 0) w l L c
  · rw [u₁, if_neg (by intro y; cases y)] at k₁
    rw [ccT_f, ccIte, if_pos rfl, kwE179 hB s gg cd (by omega) (by omega), ccBi, hB, ccMckT]
    cases u₂ : ccHF (m 0 0) w l L c
    · rw [u₂, if_neg (by intro y; cases y)] at k₁
      rw [ccT_f, ccIte, if_pos rfl, kwObj ka, k₁, kwBr, hR, ccMckT]
    · rw [u₂, if_pos rfl] at k₁
      rw [ccT_t, ccIte, if_neg n₁, kwObj ka, k₁, kwBr, hR, ccMckT]
  · rw [u₁, if_pos rfl] at k₁
    rw [ccT_t, ccIte, if_neg n₁, kwObj ka, k₁, kwBr, hR, ccMckT]
