/-! THE LAW COMPARES the places: all of them; isLike as a whole. -/
def kwFz (r : mRs) (m M : mMi) : Prop := ∀ f i j p, ¬ (f = 9 ∧ r.2.2.1 ≤ i) → ¬ (f = 2 ∧ i = 2) → M f i j p = m f i j p
theorem kwFz_0 {r : mRs} {m M : mMi} (h : kwFz r m M) : M 0 0 = m 0 0 := by
  funext j p
  exact h 0 0 j p (by omega) (by omega)
theorem kwFz_9 {r : mRs} {m M : mMi} (h : kwF9 r m M) : kwFz r m M := fun f i j p y _ => h f i j p y
theorem kwFz_trans {k s : Nat} {r r₁ : mRs} {m m₁ m₂ : mMi} (h₁ : kwFz r m m₁) (h₂ : kwRs k s r r₁) (h₃ : kwFz r₁ m₁ m₂) : kwFz r m m₂ := fun f a j p g₁ g₂ => by
  have y := h₂.2.2.1
  exact Eq.trans (h₃ f a j p (by omega) g₂) (h₁ f a j p g₁ g₂)
theorem kwCnt_no {g : Nat → Bool} {p : Nat} : ∀ d, (∀ k, k < d → g (p + k) = false) → ccCnt g (p + d) = ccCnt g p := by
  intro d
  induction d with
  | zero => intro _; rfl
  | succ d i₁ =>
    intro h
    have e₁ : p + (d + 1) = (p + d) + 1 := by omega
    rw [e₁, ccCnt_s, i₁ (fun k y => h k (by omega)), h d (by omega), if_neg (by intro y; cases y), Nat.add_zero]
theorem kwT_n {g : Nat → Bool} {p : Nat} : N (ccCnt g p) + ccT (g p) = N (ccCnt g (p + 1)) := by
  rw [ccCnt_s]
  cases g p
  · rw [if_neg (by intro y; cases y), ccT_f, N_add]
  · rw [if_pos rfl, ccT_t, N_add]
theorem kwHP_p {w l L c : Nat} {C : Nat → Nat → Int32} (h₁ : L < l) (h₂ : L + c < w) : ccHP C w l L c = ccP C (12 * L + c) ∧ ccHF C w l L c = ccF C (12 * L + c) := by
  have pl : ccPl w l L c = true := by
    unfold ccPl
    rw [decide_eq_true h₁, decide_eq_true h₂]
    rfl
  constructor
  · unfold ccHP
    rw [pl, Bool.true_and]
  · unfold ccHF
    rw [pl, Bool.true_and]
theorem kwCols {B w l n lm dp cl bd T Z D L : Nat} {β : Nat → Int32} {W : Nat → Nat} (h₁ : L < l) : ∀ d c m r, c + d = w - L → kwI m r B w l n lm dp cl bd β W T Z D → ∃ M R, kwI M R B w l n lm dp cl bd β W T Z D ∧ kwRs d (7 * d) r R ∧ kwFz r m M ∧ ∀ f, H240_164 B 0 (f + 9 * d) 178 (N (ccCnt (ccP (m 0 0)) (12 * L + c))) (N (ccCnt (ccF (m 0 0)) (12 * L + c))) (N (ccS (ccCol w l) L + c)) (N L) (N c) (N 0) (N 0) (N 0) m r = H240_164 B 0 f 178 (N (ccCnt (ccP (m 0 0)) (12 * L + (w - L)))) (N (ccCnt (ccF (m 0 0)) (12 * L + (w - L)))) (N (ccS (ccCol w l) L + (w - L))) (N L) (N (w - L)) (N 0) (N 0) (N 0) M R := by
  intro d
  induction d with
  | zero =>
    intro c m r y q
    have e₁ : c = w - L := by omega
    subst e₁
    exact ⟨m, r, q, kwRs_rfl, fun _ _ _ _ _ _ => rfl, fun f => rfl⟩
  | succ d i₁ =>
    intro c m r y q
    obtain ⟨g₁, g₂⟩ := kwHP_p (w := w) (C := m 0 0) h₁ (by omega : L + c < w)
    obtain ⟨m₁, q₁, o₁, k₁⟩ := kwPlace (a := 0) (x2 := N (ccCnt (ccP (m 0 0)) (12 * L + c))) (x3 := N (ccCnt (ccF (m 0 0)) (12 * L + c))) (x4 := N (ccS (ccCol w l) L + c)) (x7 := N 0) (x8 := N 0) (x10 := N 0) q h₁ (by omega : L + c < w)
    have z₁ : kwFz r m m₁ := o₁
    have e₁ : m₁ 0 0 = m 0 0 := kwFz_0 z₁
    obtain ⟨M, R, q₂, f₂, o₂, k₂⟩ := i₁ (c + 1) m₁ (rsA r 20 7 7) (by omega) q₁
    refine ⟨M, R, q₂, kwRs_le (kwRs_trans (kwRs_A (kd := 20) (n := 7) (s := 7)) f₂) (by omega) (by omega), kwFz_trans z₁ (kwRs_A (kd := 20) (n := 7) (s := 7)) o₂, fun f => ?_⟩
    have e₀ : f + 9 * (d + 1) = (f + 9 * d) + 9 := by omega
    have k₃ := k₂ f
    rw [e₁] at k₃
    rw [g₁, g₂] at k₁
    rw [e₀, k₁, kwT_n, kwT_n, N_add]
    exact k₃
theorem kwMy {w L : Nat} (h₂ : w ≤ 12) (h₃ : L < 8) : (if N 0 < N w - N L then N w - N L else N 0) = N (w - L) ∧ N w - N L ≤ N (w - L) := by
  by_cases g : L < w
  · have e₁ : N w - N L = N (w - L) := N_sub (by omega)
    have e₂ : N 0 < N (w - L) := by rw [N_lt (by omega) (by omega)]; omega
    rw [e₁, if_pos e₂]
    exact ⟨rfl, by rw [N_le (by omega) (by omega)]; omega⟩
  · have e₁ : N w - N L = I ((w : Int) - (L : Int)) := by rw [← I_N, ← I_N, I_sub]
    have e₂ : ¬ N 0 < I ((w : Int) - (L : Int)) := by
      rw [← I_N, I_lt (by omega) (by omega) (by omega) (by omega)]
      omega
    have e₃ : w - L = 0 := by omega
    rw [e₁, if_neg e₂, e₃]
    refine ⟨rfl, ?_⟩
    rw [← I_N, I_le (by omega) (by omega) (by omega) (by omega)]
    omega
theorem kwRowE {m : mMi} {r : mRs} {B w l n lm dp cl bd T Z D L : Nat} {β : Nat → Int32} {W : Nat → Nat} {x2 x3 x4 : Int32} (q : kwI m r B w l n lm dp cl bd β W T Z D) (h₁ : L < l) : ∃ M R, kwI M R B w l n lm dp cl bd β W T Z D ∧ kwRs 3 22 r R ∧ kwF9 r m M ∧ ∀ f, H240_164 B 0 (f + 1) 178 x2 x3 x4 (N L) (N (w - L)) (N 0) (N 0) (N 0) m r = H240_164 B 0 f 164 x2 x3 x4 (N (L + 1)) (N 0) (N 0) (N 0) (N 0) M R := by
  have hB := q.2.2.2.2
  have b₂ : l ≤ 8 := (kwI_0 q).2.2.2.2.2.2.2.1
  have b₁ : w ≤ 12 := (kwI_0 q).2.2.2.2.2.1
  obtain ⟨y₁, y₂⟩ := kwMy (w := w) (L := L) (by omega) (by omega)
  have e₁ : m 6 B 1 0 = N w := (kwI_S q).1
  obtain ⟨M, R, f₁, g₁, c₁⟩ := kwX3 (m := m) (r := r) (E := 2) (x₁ := N L) (x₂ := N (w - L)) (x₃ := N 0) q.2.2.2.1 (by omega) (fun M R y => by
    obtain ⟨u₁, u₂, u₃⟩ := kwI_M q y
    exact kwN121 u₁ u₂ (kwPl_no (fun z => by omega) (by omega) (by omega) b₁ b₂))
  have q₁ := kwI_9 q g₁ f₁
  refine ⟨M, R, q₁, f₁, g₁, fun f => ?_⟩
  have p₁ : mfill m 9 r.2.2.1 0 3 0 6 B 1 0 = N w := by rw [mfill_ne (by omega)]; exact e₁
  rw [kwH178, hB, ccMckT, ccMckIn (by omega : 0 < 6) (by omega), e₁, ccIte, if_pos y₂, kwBn q.2.2.2.1 (by omega)]
  simp (disch := omega) only [kwAl, hB, kwIsA, ccMckT, ccMckIn, ccBi, p₁, y₁, c₁]
  rw [q₁.2.2.2.2, ccMckT, ccIte, if_pos True.intro, N_add]
theorem kwPlc_r {w l L : Nat} {C : Nat → Nat → Int32} (h : ccPlc w l C) (b₁ : w ≤ 12) (b₂ : l ≤ 8) (h₁ : L < l) : ccCnt (ccP C) (12 * L + (w - L)) = ccCnt (ccP C) (12 * (L + 1)) ∧ ccCnt (ccF C) (12 * L + (w - L)) = ccCnt (ccF C) (12 * (L + 1)) := by
  have e₁ : 12 * (L + 1) = 12 * L + (w - L) + (12 - (w - L)) := by omega
  rw [e₁]
  constructor
  · refine Eq.symm (kwCnt_no _ (fun k y => ?_))
    unfold ccP
    rcases Classical.em (C 2 (12 * L + (w - L) + k) = I (-1)) with z | z
    · rw [decide_eq_true z]; rfl
    · have u := (h (12 * L + (w - L) + k) (by omega)).1 z
      omega
  · refine Eq.symm (kwCnt_no _ (fun k y => ?_))
    unfold ccF
    rcases Classical.em (C 6 (12 * L + (w - L) + k) = I (-1)) with z | z
    · rw [decide_eq_true z]; rfl
    · have u := (h (12 * L + (w - L) + k) (by omega)).2 z
      omega
theorem kwPlc_e {w l : Nat} {C : Nat → Nat → Int32} (h : ccPlc w l C) (b₂ : l ≤ 8) : ccCnt (ccP C) (12 * l) = ccCnt (ccP C) 96 ∧ ccCnt (ccF C) (12 * l) = ccCnt (ccF C) 96 := by
  have e₁ : 96 = 12 * l + (96 - 12 * l) := by omega
  rw [e₁]
  constructor
  · refine Eq.symm (kwCnt_no _ (fun k y => ?_))
    unfold ccP
    rcases Classical.em (C 2 (12 * l + k) = I (-1)) with z | z
    · rw [decide_eq_true z]; rfl
    · have u := (h (12 * l + k) (by omega)).1 z
      omega
  · refine Eq.symm (kwCnt_no _ (fun k y => ?_))
    unfold ccF
    rcases Classical.em (C 6 (12 * l + k) = I (-1)) with z | z
    · rw [decide_eq_true z]; rfl
    · have u := (h (12 * l + k) (by omega)).2 z
      omega
theorem kwCol_r {w l L : Nat} (h₁ : L < l) : ccS (ccCol w l) L + (w - L) = ccS (ccCol w l) (L + 1) := by
  show _ = ccS (ccCol w l) L + ccCol w l L
  unfold ccCol
  rw [if_pos h₁]
theorem kwCol_e {w l : Nat} : ∀ d, ccS (ccCol w l) (l + d) = ccS (ccCol w l) l := by
  intro d
  induction d with
  | zero => rfl
  | succ d i₁ =>
    show ccS (ccCol w l) (l + d) + ccCol w l (l + d) = _
    have e₁ : ccCol w l (l + d) = 0 := if_neg (by omega)
    rw [e₁, Nat.add_zero]
    exact i₁
theorem kwRows {B w l n lm dp cl bd T Z D : Nat} {β : Nat → Int32} {W : Nat → Nat} : ∀ d L m r, L + d = l → kwI m r B w l n lm dp cl bd β W T Z D → ∃ M R, kwI M R B w l n lm dp cl bd β W T Z D ∧ kwRs (15 * d) (106 * d) r R ∧ kwFz r m M ∧ ∀ f, H240_164 B 0 (f + 110 * d + 1) 164 (N (ccCnt (ccP (m 0 0)) (12 * L))) (N (ccCnt (ccF (m 0 0)) (12 * L))) (N (ccS (ccCol w l) L)) (N L) (N 0) (N 0) (N 0) (N 0) m r = H240_634 B FU 634 (N (ccCnt (ccP (m 0 0)) 96)) (N (ccCnt (ccF (m 0 0)) 96)) (N (ccS (ccCol w l) 8)) (if (M 6 B 0 20) < (N 30) then (M 6 B 0 20) else (N 30)) (N 0) (N 0) M R := by
  intro d
  induction d with
  | zero =>
    intro L m r y q
    have e₁ : L = l := by omega
    subst e₁
    have b₂ : L ≤ 8 := (kwI_0 q).2.2.2.2.2.2.2.1
    obtain ⟨u₁, u₂⟩ := kwPlc_e (kwI_P q).1 b₂
    have u₃ : ccS (ccCol w L) 8 = ccS (ccCol w L) L := by
      have z := kwCol_e (w := w) (l := L) (8 - L)
      have z₂ : L + (8 - L) = 8 := by omega
      rw [z₂] at z
      exact z
    have e₂ : m 6 B 1 1 = N L := (kwI_S q).2.1
    have e₃ : N L ≤ N L := by rw [N_le (by omega) (by omega)]; omega
    refine ⟨m, r, q, kwRs_rfl, fun _ _ _ _ _ _ => rfl, fun f => ?_⟩
    rw [kwH164, q.2.2.2.2, ccMckT, ccMckIn (by omega : 1 < 6) (by omega), e₂, ccIte, if_pos e₃, u₁, u₂, u₃]
  | succ d i₁ =>
    intro L m r y q
    have b₂ : l ≤ 8 := (kwI_0 q).2.2.2.2.2.2.2.1
    have b₁ : w ≤ 12 := (kwI_0 q).2.2.2.2.2.1
    have h₁ : L < l := by omega
    have e₂ : m 6 B 1 1 = N l := (kwI_S q).2.1
    have e₃ : ¬ N l ≤ N L := by rw [N_le (by omega) (by omega)]; omega
    obtain ⟨m₁, r₁, q₁, f₁, o₁, k₁⟩ := kwCols (L := L) h₁ (w - L) 0 m r (by omega) q
    obtain ⟨m₂, r₂, q₂, f₂, o₂, k₂⟩ := kwRowE (x2 := N (ccCnt (ccP (m 0 0)) (12 * L + (w - L)))) (x3 := N (ccCnt (ccF (m 0 0)) (12 * L + (w - L)))) (x4 := N (ccS (ccCol w l) L + (w - L))) q₁ h₁
    obtain ⟨M, R, q₃, f₃, o₃, k₃⟩ := i₁ (L + 1) m₂ r₂ (by omega) q₂
    have z₁ := kwFz_0 o₁
    have z₂ : m₂ 0 0 = m 0 0 := Eq.trans (kwF9_0 o₂) z₁
    obtain ⟨u₁, u₂⟩ := kwPlc_r (L := L) (kwI_P q).1 b₁ b₂ h₁
    have u₃ := kwCol_r (w := w) h₁
    refine ⟨M, R, q₃, kwRs_le (kwRs_trans f₁ (kwRs_trans f₂ f₃)) (by omega) (by omega), kwFz_trans o₁ f₁ (kwFz_trans (kwFz_9 o₂) f₂ o₃), fun f => ?_⟩
    have e₀ : f + 110 * (d + 1) + 1 = (((f + (108 - 9 * (w - L))) + 110 * d + 1) + 1 + 9 * (w - L)) + 1 := by omega
    have k₄ := k₁ (((f + (108 - 9 * (w - L))) + 110 * d + 1) + 1)
    have k₅ := k₂ ((f + (108 - 9 * (w - L))) + 110 * d + 1)
    have k₆ := k₃ (f + (108 - 9 * (w - L)))
    rw [z₂] at k₆
    rw [e₀, kwH164, q.2.2.2.2, ccMckT, ccMckIn (by omega : 1 < 6) (by omega), e₂, ccIte, if_neg e₃]
    refine Eq.trans k₄ ?_
    rw [k₅, u₁, u₂, u₃]
    exact k₆
/-- isLike -/
theorem kwLike {m : mMi} {r : mRs} {B w l n lm dp cl bd T Z D : Nat} {β : Nat → Int32} {W : Nat → Nat} (q : kwI m r B w l n lm dp cl bd β W T Z D) (bT : T ≤ 900000000) : ∃ M R, kwI M R B w l n lm dp cl bd β W T Z D ∧ kwRs 176 1218 r R ∧ kwFz r m M ∧ H240 B m r = rI (N 1) M R := by
  have b₂ : l ≤ 8 := (kwI_0 q).2.2.2.2.2.2.2.1
  have b₃ : n ≤ 40 := (kwI_0 q).2.2.2.2.2.2.2.2
  obtain ⟨m₁, r₁, q₁, f₁, o₁, k₁⟩ := kwCards (x2 := N 0) (x3 := N 0) (x4 := N 0) n 0 m r 0 (N 0) (N 0) (by omega) q
  have p₁ : kwFz r m m₁ := fun f i j p y _ => o₁ f i j p y
  obtain ⟨m₂, r₂, q₂, f₂, o₂, k₂⟩ := kwRows l 0 m₁ r₁ (by omega) q₁
  obtain ⟨M, R, q₃, f₃, o₃, k₃⟩ := kwTail q₂ bT
  have p₃ : kwFz r₂ m₂ M := fun f i j p y _ => o₃ f i j p y
  have z₂ := kwFz_0 o₂
  refine ⟨M, R, q₃, kwRs_le (kwRs_trans f₁ (kwRs_trans f₂ f₃)) (by omega) (by omega), kwFz_trans p₁ f₁ (kwFz_trans o₂ f₂ p₃), ?_⟩
  obtain ⟨g₁, hg₁⟩ := ccFU (k := 8 * n) (by omega)
  obtain ⟨g₂, hg₂⟩ := ccFU (k := 110 * l) (by omega)
  have k₄ := k₁ g₁
  have k₅ := k₂ g₂
  rw [← hg₁] at k₄
  rw [← hg₂] at k₅
  rw [z₂] at k₃
  show mckO (r.2.1.1 B) (H240_10 B 0 FU 10 (N 0) (N 0) (N 0) (N 0) (N 0) (N 0) m r) = _
  rw [q.2.2.2.2, ccMckT, k₄]
  refine Eq.trans k₅ ?_
  exact k₃
