/-! WORLD: cards are lifted, taken down, smoothed; a pair is turned. -/
def kwMf (m : mMi) (B L c a : Nat) : mMi := mset (mset m 6 B 4 a (N 0)) 24 B L c (I (-1))
theorem kwMf_o {m : mMi} {B L c a f j p : Nat} (h₁ : ¬ (f = 24 ∧ j = L ∧ p = c)) (h₂ : ¬ (f = 6 ∧ p = a ∧ j = 4)) : kwMf m B L c a f B j p = m f B j p := by
  unfold kwMf
  rw [ccRd, if_neg (by omega), ccRd, if_neg (by omega)]
def kwCf (C : Nat → Nat → Int32) (p a : Nat) : Nat → Nat → Int32 := ccU (ccU C 13 a (I (-1))) 6 p (I (-1))
theorem kwCf_o {C : Nat → Nat → Int32} {p a j q : Nat} (h₁ : ¬ (j = 6 ∧ q = p)) (h₂ : ¬ (j = 13 ∧ q = a)) : kwCf C p a j q = C j q := by
  unfold kwCf ccU
  rw [if_neg h₁, if_neg h₂]
theorem kwU_lift {m : mMi} {B n t L c a : Nat} {β : Nat → Int32} {bx : Bool} {C : Nat → Nat → Int32} (u : kwU n t β bx m B C) (h₁ : L < 8) (h₂ : c < 12) (h₃ : a < n) (b₃ : n ≤ 40) (h₄ : C 6 (12 * L + c) = N a) : kwU n t β bx (kwMf m B L c a) B (kwCf C (12 * L + c) a) := by
  obtain ⟨u₁, u₂, u₃, u₇, u₈⟩ := u
  have c₆ : kwCf C (12 * L + c) a 6 (12 * L + c) = I (-1) := by
    unfold kwCf ccU
    rw [if_pos ⟨rfl, rfl⟩]
  have c₁₃ : kwCf C (12 * L + c) a 13 a = I (-1) := by
    unfold kwCf ccU
    rw [if_neg (by omega), if_pos ⟨rfl, rfl⟩]
  have m₂₄ : kwMf m B L c a 24 B L c = I (-1) := by
    unfold kwMf
    rw [ccRd, if_pos ⟨rfl, rfl, rfl, rfl⟩]
  have m₄ : kwMf m B L c a 6 B 4 a = N 0 := by
    unfold kwMf
    rw [ccRd, if_neg (by omega), ccRd, if_pos ⟨rfl, rfl, rfl, rfl⟩]
  refine ⟨fun L₁ c₁ g₁ g₂ => ?_, fun k g₁ => ?_, kwF_ch u₃ (fun p => kwMf_o (by omega) (by omega)) (kwCf_o (by omega) (by omega)) (kwCf_o (by omega) (by omega)), by rw [kwCf_o (by omega) (by omega)]; exact u₇, fun y => kwX_ch (u₈ y) (fun f j p y₁ => kwMf_o (by omega) (by omega)) (fun j p y₁ => kwCf_o (by omega) (by omega))⟩
  · obtain ⟨e₁, e₂, e₃⟩ := u₁ L₁ c₁ g₁ g₂
    rw [kwMf_o (by omega) (by omega), kwMf_o (f := 21) (by omega) (by omega), kwMf_o (f := 22) (by omega) (by omega), kwMf_o (f := 23) (by omega) (by omega), kwCf_o (j := 2) (by omega) (by omega), kwCf_o (j := 3) (by omega) (by omega), kwCf_o (j := 4) (by omega) (by omega), kwCf_o (j := 5) (by omega) (by omega)]
    refine ⟨e₁, ?_, e₃⟩
    by_cases y₁ : L₁ = L ∧ c₁ = c
    · obtain ⟨rfl, rfl⟩ := y₁
      rw [m₂₄, c₆]
    · rw [kwMf_o (by omega) (by omega), kwCf_o (by omega) (by omega)]
      exact e₂
  · obtain ⟨e₁, e₂⟩ := u₂ k g₁
    refine ⟨by rw [kwMf_o (by omega) (by omega), kwCf_o (by omega) (by omega)]; exact e₁, Or.inr ?_⟩
    by_cases y₁ : k = a
    · subst y₁
      exact Or.inl ⟨m₄, c₁₃⟩
    · unfold kwL
      rw [kwMf_o (f := 6) (j := 4) (by omega) (by omega), kwCf_o (j := 13) (by omega) (by omega), kwMf_o (f := 6) (j := 5) (by omega) (by omega), kwMf_o (f := 6) (j := 6) (by omega) (by omega)]
      rcases e₂ with e₂ | e₂ | e₂ | ⟨L₁, c₁, f₁, f₂, f₃, f₄, f₅, f₆⟩
      · cases e₂
      · exact Or.inl e₂
      · exact Or.inr (Or.inl e₂)
      · refine Or.inr (Or.inr ⟨L₁, c₁, f₁, f₂, f₃, f₄, f₅, ?_⟩)
        rcases f₆ with ⟨f₆, f₇, f₈⟩ | ⟨f₆, f₇⟩
        · refine Or.inl ⟨f₆, ?_⟩
          rw [kwCf_o (by omega) (by omega), kwCf_o (by omega) (by omega)]
          exact ⟨f₇, f₈⟩
        · refine Or.inr ⟨f₆, ?_⟩
          by_cases y₂ : 12 * L₁ + c₁ = 12 * L + c
          · rw [y₂, h₄] at f₇
            exact absurd (ccNinj f₇ (by omega) (by omega)).symm y₁
          · rw [kwCf_o (by omega) (by omega)]
            exact f₇
theorem kwMf_fr {m : mMi} {B L c a : Nat} : kwFr B m (kwMf m B L c a) ∧ kwSt B m (kwMf m B L c a) := ⟨kwFr_r (kwFr_6 kwFr_rfl) (by omega), kwSt_r (kwSt_6 kwSt_rfl (by omega)) (by omega)⟩
theorem kwJ_lift {mc mw : mMi} {i B w l n lm dp cl bd h t L c a : Nat} {β wt : Nat → Int32} {W : Nat → Nat} {bx : Bool} (q : kwJ mc mw i B w l n lm dp cl bd β wt W bx h t) (bb : t ≤ 900000000) (h₂ : L < l) (h₃ : L + c < w) (h₄ : a < n) (h₅ : mc 0 i 6 (12 * L + c) = N a) (h₆ : mc 0 i 2 (12 * L + c) = I (-1)) : ∃ h', kwJ (mset (mset mc 0 i 13 a (I (-1))) 0 i 6 (12 * L + c) (I (-1))) (kwMf mw B L c a) i B w l n lm dp cl bd β wt W bx h' t := by
  obtain ⟨⟨mm, j₀⟩, s₀, u₀, w₀⟩ := q
  have b₁ : w ≤ 12 := j₀.1.1.2.2.2.2.1
  have b₂ : l ≤ 8 := j₀.1.1.2.2.2.2.2.2.1
  have b₃ : n ≤ 40 := j₀.1.1.2.2.2.2.2.2.2
  obtain ⟨h', d₁, _⟩ := ccLift1 (p := 12 * L + c) (a := a) j₀ bb (by omega) h₅ h₄ h₆
  have cC : mset (mset mc 0 i 13 a (I (-1))) 0 i 6 (12 * L + c) (I (-1)) 0 i = kwCf (mc 0 i) (12 * L + c) a := by
    unfold kwCf
    simp only [ccU_set]
  obtain ⟨f₁, f₂⟩ := kwMf_fr (m := mw) (B := B) (L := L) (c := c) (a := a)
  exact ⟨h', ⟨_, d₁⟩, kwS_st f₂ s₀, by rw [cC]; exact kwU_lift u₀ (by omega) (by omega) h₄ b₃ h₅, kwW_st f₂ w₀⟩
/-! a pair is taken down -/
def kwMd (m : mMi) (B L c a b : Nat) : mMi := mset (mset (mset m 6 B 4 a (N 0)) 6 B 4 b (N 0)) 20 B L c (I (-1))
theorem kwMd_o {m : mMi} {B L c a b f j p : Nat} (h₁ : ¬ (f = 20 ∧ j = L ∧ p = c)) (h₂ : ¬ (f = 6 ∧ (p = a ∨ p = b) ∧ j = 4)) : kwMd m B L c a b f B j p = m f B j p := by
  unfold kwMd
  rw [ccRd, if_neg (by omega), ccRd, if_neg (by omega), ccRd, if_neg (by omega)]
def kwCd (C : Nat → Nat → Int32) (p a b : Nat) : Nat → Nat → Int32 := ccU (ccU (ccU C 13 a (I (-1))) 13 b (I (-1))) 2 p (I (-1))
theorem kwCd_o {C : Nat → Nat → Int32} {p a b j q : Nat} (h₁ : ¬ (j = 2 ∧ q = p)) (h₂ : ¬ (j = 13 ∧ (q = a ∨ q = b))) : kwCd C p a b j q = C j q := by
  unfold kwCd ccU
  rw [if_neg (by omega), if_neg (by omega), if_neg (by omega)]
theorem kwU_down {m : mMi} {B n t L c a b : Nat} {β : Nat → Int32} {bx : Bool} {C : Nat → Nat → Int32} (u : kwU n t β bx m B C) (h₁ : L < 8) (h₂ : c < 12) (h₃ : a < n) (h₃' : b < n) (b₃ : n ≤ 40) (h₄ : C 2 (12 * L + c) = N a) (h₅ : C 3 (12 * L + c) = N b) : kwU n t β bx (kwMd m B L c a b) B (kwCd C (12 * L + c) a b) := by
  obtain ⟨u₁, u₂, u₃, u₇, u₈⟩ := u
  have c₂ : kwCd C (12 * L + c) a b 2 (12 * L + c) = I (-1) := by
    unfold kwCd ccU
    rw [if_pos ⟨rfl, rfl⟩]
  have ca : kwCd C (12 * L + c) a b 13 a = I (-1) := by
    unfold kwCd ccU
    by_cases y : a = b
    · rw [if_neg (by omega), if_pos ⟨rfl, y⟩]
    · rw [if_neg (by omega), if_neg (by omega), if_pos ⟨rfl, rfl⟩]
  have cb : kwCd C (12 * L + c) a b 13 b = I (-1) := by
    unfold kwCd ccU
    rw [if_neg (by omega), if_pos ⟨rfl, rfl⟩]
  have m₂₀ : kwMd m B L c a b 20 B L c = I (-1) := by
    unfold kwMd
    rw [ccRd, if_pos ⟨rfl, rfl, rfl, rfl⟩]
  have ma : kwMd m B L c a b 6 B 4 a = N 0 := by
    unfold kwMd
    by_cases y : a = b
    · rw [ccRd, if_neg (by omega), ccRd, if_pos ⟨rfl, rfl, rfl, y⟩]
    · rw [ccRd, if_neg (by omega), ccRd, if_neg (by omega), ccRd, if_pos ⟨rfl, rfl, rfl, rfl⟩]
  have mb : kwMd m B L c a b 6 B 4 b = N 0 := by
    unfold kwMd
    rw [ccRd, if_neg (by omega), ccRd, if_pos ⟨rfl, rfl, rfl, rfl⟩]
  refine ⟨fun L₁ c₁ g₁ g₂ => ?_, fun k g₁ => ?_, kwF_ch u₃ (fun p => kwMd_o (by omega) (by omega)) (kwCd_o (by omega) (by omega)) (kwCd_o (by omega) (by omega)), by rw [kwCd_o (by omega) (by omega)]; exact u₇, fun y => kwX_ch (u₈ y) (fun f j p y₁ => kwMd_o (by omega) (by omega)) (fun j p y₁ => kwCd_o (by omega) (by omega))⟩
  · obtain ⟨e₁, e₂, e₃⟩ := u₁ L₁ c₁ g₁ g₂
    rw [kwMd_o (f := 24) (by omega) (by omega), kwMd_o (f := 21) (by omega) (by omega), kwMd_o (f := 22) (by omega) (by omega), kwMd_o (f := 23) (by omega) (by omega), kwCd_o (j := 6) (by omega) (by omega), kwCd_o (j := 3) (by omega) (by omega), kwCd_o (j := 4) (by omega) (by omega), kwCd_o (j := 5) (by omega) (by omega)]
    by_cases y₁ : L₁ = L ∧ c₁ = c
    · obtain ⟨rfl, rfl⟩ := y₁
      rw [m₂₀, c₂]
      exact ⟨rfl, e₂, fun y => absurd rfl y⟩
    · rw [kwMd_o (by omega) (by omega), kwCd_o (by omega) (by omega)]
      exact ⟨e₁, e₂, e₃⟩
  · obtain ⟨e₁, e₂⟩ := u₂ k g₁
    refine ⟨by rw [kwMd_o (by omega) (by omega), kwCd_o (by omega) (by omega)]; exact e₁, Or.inr ?_⟩
    by_cases y₁ : k = a
    · subst y₁
      exact Or.inl ⟨ma, ca⟩
    · by_cases y₀ : k = b
      · subst y₀
        exact Or.inl ⟨mb, cb⟩
      · unfold kwL
        rw [kwMd_o (f := 6) (j := 4) (by omega) (by omega), kwCd_o (j := 13) (by omega) (by omega), kwMd_o (f := 6) (j := 5) (by omega) (by omega), kwMd_o (f := 6) (j := 6) (by omega) (by omega)]
        rcases e₂ with e₂ | e₂ | e₂ | ⟨L₁, c₁, f₁, f₂, f₃, f₄, f₅, f₆⟩
        · cases e₂
        · exact Or.inl e₂
        · exact Or.inr (Or.inl e₂)
        · refine Or.inr (Or.inr ⟨L₁, c₁, f₁, f₂, f₃, f₄, f₅, ?_⟩)
          rcases f₆ with ⟨f₆, f₇, f₈⟩ | ⟨f₆, f₇⟩
          · refine Or.inl ⟨f₆, ?_⟩
            have y₂ : 12 * L₁ + c₁ ≠ 12 * L + c := fun y => by
              rw [y, h₄, h₅] at f₈
              rcases f₈ with f₈ | f₈
              · exact y₁ (ccNinj f₈ (by omega) (by omega)).symm
              · exact y₀ (ccNinj f₈ (by omega) (by omega)).symm
            rw [kwCd_o (by omega) (by omega), kwCd_o (by omega) (by omega)]
            exact ⟨f₇, f₈⟩
          · refine Or.inr ⟨f₆, ?_⟩
            rw [kwCd_o (by omega) (by omega)]
            exact f₇
theorem kwMd_fr {m : mMi} {B L c a b : Nat} : kwFr B m (kwMd m B L c a b) ∧ kwSt B m (kwMd m B L c a b) := ⟨kwFr_r (kwFr_6 (kwFr_6 kwFr_rfl)) (by omega), kwSt_r (kwSt_6 (kwSt_6 kwSt_rfl (by omega)) (by omega)) (by omega)⟩
theorem kwJ_down {mc mw : mMi} {i B w l n lm dp cl bd h t L c a b : Nat} {β wt : Nat → Int32} {W : Nat → Nat} {bx : Bool} (q : kwJ mc mw i B w l n lm dp cl bd β wt W bx h t) (bb : t ≤ 900000000) (h₂ : L < l) (h₃ : L + c < w) (h₄ : a < n) (h₄' : b < n) (h₅ : mc 0 i 2 (12 * L + c) = N a) (h₅' : mc 0 i 3 (12 * L + c) = N b) (h₆ : 12 * L + c + 12 < 96 → mc 0 i 6 (12 * L + c + 12) = I (-1)) (h₇ : 12 * L + c + 11 < 96 → 12 ≤ 12 * L + c + 11 → mc 0 i 6 (12 * L + c + 11) = I (-1)) : ∃ h', kwJ (mset (mset (mset mc 0 i 13 a (I (-1))) 0 i 13 b (I (-1))) 0 i 2 (12 * L + c) (I (-1))) (kwMd mw B L c a b) i B w l n lm dp cl bd β wt W bx h' t := by
  obtain ⟨⟨mm, j₀⟩, s₀, u₀, w₀⟩ := q
  have b₁ : w ≤ 12 := j₀.1.1.2.2.2.2.1
  have b₂ : l ≤ 8 := j₀.1.1.2.2.2.2.2.2.1
  have b₃ : n ≤ 40 := j₀.1.1.2.2.2.2.2.2.2
  obtain ⟨h', d₁, _⟩ := ccDown1 (p := 12 * L + c) (a := a) (b := b) j₀ bb (by omega) h₅ h₅' h₄ h₄' h₆ h₇
  have cC : mset (mset (mset mc 0 i 13 a (I (-1))) 0 i 13 b (I (-1))) 0 i 2 (12 * L + c) (I (-1)) 0 i = kwCd (mc 0 i) (12 * L + c) a b := by
    unfold kwCd
    simp only [ccU_set]
  obtain ⟨f₁, f₂⟩ := kwMd_fr (m := mw) (B := B) (L := L) (c := c) (a := a) (b := b)
  exact ⟨h', ⟨_, d₁⟩, kwS_st f₂ s₀, by rw [cC]; exact kwU_down u₀ (by omega) (by omega) h₄ h₄' b₃ h₅ h₅', kwW_st f₂ w₀⟩
/-! a pair is turned -/
theorem kwJ_turn {mc mw : mMi} {i B w l n lm dp cl bd h t L c : Nat} {g : Int32} {β wt : Nat → Int32} {W : Nat → Nat} {bx : Bool} (q : kwJ mc mw i B w l n lm dp cl bd β wt W bx h t) (h₂ : L < l) (h₃ : L + c < w) : kwJ (mset mc 0 i 4 (12 * L + c) g) (mset mw 22 B L c g) i B w l n lm dp cl bd β wt W bx h t := by
  obtain ⟨⟨mm, j₀⟩, s₀, ⟨u₁, u₂, u₃, u₇, u₈⟩, w₀⟩ := q
  have b₁ : w ≤ 12 := j₀.1.1.2.2.2.2.1
  have b₂ : l ≤ 8 := j₀.1.1.2.2.2.2.2.2.1
  have oc : ∀ j q, ¬ (j = 4 ∧ q = 12 * L + c) → mset mc 0 i 4 (12 * L + c) g 0 i j q = mc 0 i j q := fun j q y => by rw [ccRd, if_neg (by omega)]
  have om : ∀ f j p, ¬ (f = 22 ∧ j = L ∧ p = c) → mset mw 22 B L c g f B j p = mw f B j p := fun f j p y => by rw [ccRd, if_neg (by omega)]
  obtain ⟨m₂, j₂⟩ := ccJ_ex j₀ (m₁ := mset mc 0 i 4 (12 * L + c) g) (ccFr_set ccFr_rfl) (fun j p y₁ y₂ y₃ => oc j p (by omega)) (by
    rw [oc 0 5 (by omega)]
    exact j₀.1.2.2.2.2.2.1.2.2.2.2.1.2.2.2.2.2.2)
  have st : kwSt B mw (mset mw 22 B L c g) := kwSt_r kwSt_rfl (by omega)
  refine ⟨⟨m₂, j₂⟩, kwS_st st s₀, ⟨fun L₁ c₁ g₁ g₂ => ?_, fun k g₁ => ?_, kwF_ch u₃ (fun p => om 6 0 p (by omega)) (oc 7 2 (by omega)) (oc 10 5 (by omega)), by rw [oc 7 2 (by omega)]; exact u₇, fun y => kwX_ch (u₈ y) (fun f j p y₁ => om f j p (by omega)) (fun j p y₁ => oc j p (by omega))⟩, kwW_st st w₀⟩
  · obtain ⟨e₁, e₂, e₃⟩ := u₁ L₁ c₁ g₁ g₂
    rw [om 20 _ _ (by omega), om 24 _ _ (by omega), om 21 _ _ (by omega), om 23 _ _ (by omega), oc 2 _ (by omega), oc 6 _ (by omega), oc 3 _ (by omega), oc 5 _ (by omega)]
    refine ⟨e₁, e₂, fun y => ⟨(e₃ y).1, ?_, (e₃ y).2.2⟩⟩
    by_cases y₁ : L₁ = L ∧ c₁ = c
    · obtain ⟨rfl, rfl⟩ := y₁
      rw [ccRd, if_pos ⟨rfl, rfl, rfl, rfl⟩, ccRd, if_pos ⟨rfl, rfl, rfl, rfl⟩]
    · rw [om 22 _ _ (by omega), oc 4 _ (by omega)]
      exact (e₃ y).2.1
  · obtain ⟨e₁, e₂⟩ := u₂ k g₁
    refine ⟨by rw [om 6 2 k (by omega), oc 11 k (by omega)]; exact e₁, ?_⟩
    rcases e₂ with e₂ | e₂
    · exact Or.inl e₂
    · refine Or.inr ?_
      have z₄ : mset mw 22 B L c g 6 B 4 k = mw 6 B 4 k := om 6 4 k (by omega)
      have z₅ : mset mw 22 B L c g 6 B 5 k = mw 6 B 5 k := om 6 5 k (by omega)
      have z₆ : mset mw 22 B L c g 6 B 6 k = mw 6 B 6 k := om 6 6 k (by omega)
      have c₂ : ∀ p, mset mc 0 i 4 (12 * L + c) g 0 i 2 p = mc 0 i 2 p := fun p => oc 2 p (by omega)
      have c₃ : ∀ p, mset mc 0 i 4 (12 * L + c) g 0 i 3 p = mc 0 i 3 p := fun p => oc 3 p (by omega)
      have c₆ : ∀ p, mset mc 0 i 4 (12 * L + c) g 0 i 6 p = mc 0 i 6 p := fun p => oc 6 p (by omega)
      have c₇ : ∀ p, mset mc 0 i 4 (12 * L + c) g 0 i 13 p = mc 0 i 13 p := fun p => oc 13 p (by omega)
      unfold kwL at e₂ ⊢
      simp only [z₄, z₅, z₆, c₂, c₃, c₆, c₇]
      exact e₂
