/-! THE LAW ACTS: the whole. -/
theorem kwWell_up {m m₁ : mMi} {r : mRs} {B w l n lm dp cl bd T T₁ Z Z₁ D D₁ : Nat} {β : Nat → Int32} {W : Nat → Nat} {x : mRz} (q : kwWell m₁ r B w l n lm dp cl bd β W T Z D x) (h₀ : kwFy B r m m₁) (h₁ : T ≤ T₁) (h₂ : Z ≤ Z₁) (h₃ : D ≤ D₁) : kwWell m r B w l n lm dp cl bd β W T₁ Z₁ D₁ x := by
  obtain ⟨M, R, a, b, c, e⟩ := q
  obtain ⟨b₁, ⟨z, z₁, z₂⟩, ⟨i, i₁, i₂⟩, b₄, b₅⟩ := kwI_T b h₁
  exact ⟨M, R, a, ⟨b₁, ⟨z, z₁, by omega⟩, ⟨i, i₁, by omega⟩, b₄, b₅⟩, c, kwFy_trans h₀ kwRs_rfl e⟩
theorem kwAc_well {m : mMi} {r : mRs} {L B w l n lm dp cl bd T Z D c : Nat} {β : Nat → Int32} {W : Nat → Nat} {x y : Int32} (q : kwI m r B w l n lm dp cl bd β W T Z D) (bT : T ≤ 800000000) (hL : L < 2147483648) (bD : D < 900000) (hn : n ≠ 0) (hc : c < 100) : kwWell m r B w l n lm dp cl bd β W (T + 192) Z (D + 2) (kwAc L B (N c) x y m r) := by
  have hB := q.2.2.2.2
  obtain ⟨i, i₁, i₂⟩ := q.2.2.1
  have s₁₇ : m 6 B 0 17 = N n := (kwI_S q).2.2.2.2.2.2.1
  have b₃ : n ≤ 40 := (kwI_0 q).2.2.2.2.2.2.2.2
  have en : N n - N 1 = N (n - 1) := N_sub (by omega)
  obtain ⟨a, a₁, a₂, a₃⟩ := kwE171 (r := r) (lo := 0) (hi := n - 1) i₁ (by omega) hL (by omega) (by omega)
  have q₁ := kwI_7 q (i := i + 1) (by omega)
  obtain ⟨m₁, hm₁⟩ : ∃ M, M = mset m 7 0 0 1 (N (i + 1)) := ⟨_, rfl⟩
  rw [← hm₁] at a₃ q₁
  have f₁ : kwFy B r m m₁ := by rw [hm₁]; exact kwFy_7
  have d₁ : m₁ 7 0 0 1 = N (i + 1) := by rw [hm₁, ccRd, if_pos ⟨rfl, rfl, rfl, rfl⟩]
  unfold kwAc
  rw [s₁₇, en, a₃, ccBi, hB, ccMckT, ccIte]
  by_cases g : c = 14
  · subst g
    rw [if_neg (by intro z; exact z rfl)]
    exact kwWell_up (kwPi_well q₁ bT (by omega)) f₁ (Nat.le_refl _) (Nat.le_refl _) (by omega)
  · rw [if_pos (by rw [ne_eq, N_eq (by omega) (by omega)]; exact g)]
    obtain ⟨e, e₁, e₂, e₃⟩ := kwE171 (r := r) (lo := 0) (hi := 1) d₁ (by omega) hL (by omega) (by omega)
    have q₂ := kwI_7 q₁ (i := i + 2) (by omega)
    have e₀ : i + 1 + 1 = i + 2 := by omega
    rw [e₀] at e₃
    have f₂ : kwFy B r m (mset m₁ 7 0 0 1 (N (i + 2))) := kwFy_trans f₁ kwRs_rfl kwFy_7
    rw [e₃, ccBi, hB, ccMckT, ccIte]
    by_cases g₂ : e = 0
    · subst g₂
      rw [if_neg (by intro z; exact z rfl)]
      exact kwWell_up (kwSm_well q₂ bT (by omega)) f₂ (Nat.le_refl _) (Nat.le_refl _) (by omega)
    · rw [if_pos (by rw [ne_eq, N_eq (by omega) (by omega)]; exact g₂)]
      exact kwWell_up (kwPu_well q₂ (by omega)) f₂ (Nat.le_refl _) (Nat.le_refl _) (by omega)
theorem kwMx {w L : Nat} (h₁ : 1 ≤ w) (h₂ : w ≤ 12) (h₃ : L < 8) : (if N 0 < N w - N 1 - N L then N w - N 1 - N L else N 0) = N (w - 1 - L) := by
  rw [N_sub h₁]
  by_cases g : L < w - 1
  · have e₁ : N (w - 1) - N L = N (w - 1 - L) := N_sub (by omega)
    have e₂ : N 0 < N (w - 1 - L) := by rw [N_lt (by omega) (by omega)]; omega
    rw [e₁, if_pos e₂]
  · have e₁ : N (w - 1) - N L = I (((w - 1 : Nat) : Int) - (L : Int)) := by rw [← I_N, ← I_N, I_sub]
    have e₂ : ¬ N 0 < I (((w - 1 : Nat) : Int) - (L : Int)) := by
      rw [← I_N, I_lt (by omega) (by omega) (by omega) (by omega)]
      omega
    have e₃ : w - 1 - L = 0 := by omega
    rw [e₁, if_neg e₂, e₃]
theorem kwLe {a b : Nat} {A X : mRz} (h₁ : a < 1000) (h₂ : b < 1000) : mifO (decide (N a ≤ N b)) A X = if a ≤ b then A else X := by
  rw [ccIte]
  by_cases g : a ≤ b
  · rw [if_pos g, if_pos (by rw [N_le (by omega) (by omega)]; exact g)]
  · rw [if_neg g, if_neg (by rw [N_le (by omega) (by omega)]; exact g)]
theorem kwNe {a b : Nat} {A X : mRz} (h₁ : a < 1000) (h₂ : b < 1000) : mifO (decide (N a ≠ N b)) A X = if a = b then X else A := by
  rw [ccIte]
  by_cases g : a = b
  · rw [if_pos g, g, if_neg (by intro y; exact y rfl)]
  · rw [if_neg g, if_pos (by rw [ne_eq, N_eq (by omega) (by omega)]; exact g)]
/-- one change of the law -/
theorem kwAct {m : mMi} {r : mRs} {L B w l n lm dp cl bd T Z D : Nat} {β : Nat → Int32} {W : Nat → Nat} (q : kwI m r B w l n lm dp cl bd β W T Z D) (bT : T ≤ 800000000) (hL : L < 2147483648) (bD : D < 800000) (bZ : Z + 6 ≤ 9999) : kwWell m r B w l n lm dp cl bd β W (T + 192) (Z + 6) (D + 6) (H241 L B m r) := by
  have hB := q.2.2.2.2
  have S := kwI_S q
  have b₁ : w ≤ 12 := S.2.2.2.2.2.2.2.2.1
  have b₀ : 2 ≤ w := S.2.2.2.2.2.2.2.1
  have b₂' : 1 ≤ l := S.2.2.2.2.2.2.2.2.2.1
  have b₂ : l ≤ 8 := S.2.2.2.2.2.2.2.2.2.2.1
  have b₃ : n ≤ 40 := S.2.2.2.2.2.2.2.2.2.2.2.1
  obtain ⟨i, i₁, i₂⟩ := q.2.2.1
  obtain ⟨c, c₁, c₂, c₃⟩ := kwE171 (r := r) (lo := 0) (hi := 15) i₁ (by omega) hL (by omega) (by omega)
  have q₁ := kwI_7 q (i := i + 1) (by omega)
  obtain ⟨m₁, hm₁⟩ : ∃ M, M = mset m 7 0 0 1 (N (i + 1)) := ⟨_, rfl⟩
  rw [← hm₁] at c₃ q₁
  have f₁ : kwFy B r m m₁ := by rw [hm₁]; exact kwFy_7
  have d₁ : m₁ 7 0 0 1 = N (i + 1) := by rw [hm₁, ccRd, if_pos ⟨rfl, rfl, rfl, rfl⟩]
  have s₁ : m₁ 6 B 1 1 = N l := (kwI_S q₁).2.1
  have el : N l - N 1 = N (l - 1) := N_sub (by omega)
  obtain ⟨L₁, l₁, l₂, l₃⟩ := kwE171 (r := r) (lo := 0) (hi := l - 1) d₁ (by omega) hL (by omega) (by omega)
  have q₂ := kwI_7 q₁ (i := i + 2) (by omega)
  have e₀ : i + 1 + 1 = i + 2 := by omega
  rw [e₀] at l₃
  obtain ⟨m₂, hm₂⟩ : ∃ M, M = mset m₁ 7 0 0 1 (N (i + 2)) := ⟨_, rfl⟩
  rw [← hm₂] at l₃ q₂
  have f₂ : kwFy B r m m₂ := kwFy_trans f₁ kwRs_rfl (by rw [hm₂]; exact kwFy_7)
  have d₂ : m₂ 7 0 0 1 = N (i + 2) := by rw [hm₂, ccRd, if_pos ⟨rfl, rfl, rfl, rfl⟩]
  have s₂ : m₂ 6 B 1 0 = N w := (kwI_S q₂).1
  obtain ⟨c₄, k₁, k₂, k₃⟩ := kwE171 (r := r) (lo := 0) (hi := w - 1 - L₁) d₂ (by omega) hL (by omega) (by omega)
  have q₃ := kwI_7 q₂ (i := i + 3) (by omega)
  have e₁ : i + 2 + 1 = i + 3 := by omega
  rw [e₁] at k₃
  obtain ⟨m₃, hm₃⟩ : ∃ M, M = mset m₂ 7 0 0 1 (N (i + 3)) := ⟨_, rfl⟩
  rw [← hm₃] at k₃ q₃
  have f₃ : kwFy B r m m₃ := kwFy_trans f₂ kwRs_rfl (by rw [hm₃]; exact kwFy_7)
  have pl := kwE175 (rs := r) (L := L₁) (c := c₄) hB (kwI_S q₃) (by omega) (by omega)
  have s₁₇ : m₃ 6 B 0 17 = N n := (kwI_S q₃).2.2.2.2.2.2.1
  rw [kwH241, hB, ccMckT, c₃, ccBi, hB, ccMckT, ccMckIn (by omega : 1 < 6) (by omega), s₁, el, l₃, ccBi, hB, ccMckT, ccMckIn (by omega : 0 < 6) (by omega), s₂, kwMx (by omega) b₁ (by omega), k₃, ccBi, hB, ccMckT, pl, ccBi, hB, ccMckT]
  cases g : ccPl w l L₁ c₄
  · rw [ccT_f, ccIf0]
    refine kwWell_up (kwAn_well q₃ (kwPl_no (fun y => ?_) (by omega) (by omega) b₁ b₂)) f₃ (by omega) (by omega) (by omega)
    rw [kwPlt y.1 y.2] at g
    cases g
  · obtain ⟨h₁, h₂⟩ := ccPl_t g
    rw [ccT_t, ccIf1, kwLe (by omega) (by omega), kwLe (by omega) (by omega), kwLe (by omega) (by omega), kwLe (by omega) (by omega), kwNe (by omega) (by omega), kwNe (by omega) (by omega), kwNe (by omega) (by omega), s₁₇, kwNe (by omega) (by omega)]
    by_cases y₁ : 3 ≤ c
    · rw [if_pos y₁]
      by_cases y₂ : 6 ≤ c
      · rw [if_pos y₂]
        by_cases y₃ : 9 ≤ c
        · rw [if_pos y₃]
          by_cases y₄ : 11 ≤ c
          · rw [if_pos y₄]
            by_cases y₅ : c = 11
            · rw [if_pos y₅]
              exact kwWell_up (kwAw_well q₃ hL (by omega) h₁ h₂) f₃ (by omega) (by omega) (by omega)
            · rw [if_neg y₅]
              by_cases y₆ : c = 12
              · rw [if_pos y₆]
                exact kwWell_up (kwAd_well q₃ bT h₁ h₂) f₃ (by omega) (by omega) (by omega)
              · rw [if_neg y₆]
                by_cases y₇ : c = 13
                · rw [if_pos y₇]
                  exact kwWell_up (kwAf_well q₃ bT h₁ h₂) f₃ (by omega) (by omega) (by omega)
                · rw [if_neg y₇]
                  by_cases y₈ : n = 0
                  · rw [if_pos y₈]
                    exact kwWell_up (kwA0_well q₃ y₈) f₃ (by omega) (by omega) (by omega)
                  · rw [if_neg y₈]
                    exact kwWell_up (kwAc_well q₃ bT hL (by omega) y₈ (by omega)) f₃ (by omega) (by omega) (by omega)
          · rw [if_neg y₄]
            obtain ⟨T₁, t₁, t₂⟩ := kwAy_well (L := L) (v := N c) q₃ bT h₁ h₂
            exact kwWell_up t₂ f₃ (by omega) (by omega) (by omega)
        · rw [if_neg y₃]
          exact kwWell_up (kwAe_well q₃ bT hL (by omega) h₁ h₂) f₃ (by omega) (by omega) (by omega)
      · rw [if_neg y₂]
        exact kwWell_up (kwAq_well q₃ hL (by omega)) f₃ (by omega) (by omega) (by omega)
    · rw [if_neg y₁]
      exact kwWell_up (kwAt_well q₃ hL (by omega) (by omega)) f₃ (by omega) (by omega) (by omega)
