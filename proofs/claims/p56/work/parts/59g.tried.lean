/-! CALLS: trials. -/
theorem ccBvI {x : mRz} {k : mMi → mRs → mRz} {k₂ : Int32 → mMi → mRs → mRz} : bI (bV x k) k₂ = bV x (fun m r => bI (k m r) k₂) := by
  rcases x with _ | ⟨_ | _, mi, rs⟩
  · rfl
  · rename_i o
    cases o <;> rfl
  · rfl
theorem ccOk_148 {B : Nat} {m : mMi} {x : Int32} (hB : B ≤ 900000000) (h₁ : ccTop B m) : ccOk B (F148 x) (F275 x) [(1, 1), (2, 2)] m := by
  refine ccOk_card (b := N 0) h₁ (List.mem_cons_self) (List.mem_cons_of_mem _ List.mem_cons_self) (fun m rs => rfl) (fun m rs => rfl) (fun w l n bd lm dp cl β W a h₂ e₁ e₂ => ?_)
  have b₃ : n ≤ 40 := h₂.2.2.1.1.2.2.2.2.2.2.2
  obtain ⟨h₀, t₀, q₀, _⟩ := ccLd_R h₂
  rcases ccLaid_c q₀.2.2.1 e₂ b₃ with ⟨g, _, _, y₂⟩ | ⟨_, y₂, y₃⟩
  · refine ccOk_imp (ccTrial (oc := fun m r => bI (F38 1 x m r) (fun v m r => rI v m r)) (om := F276 x) h₁ h₂ (fun mc mm g₁ g₂ g₃ g₄ g₅ => ?_)) (fun rs => rfl) (fun M rs y₁ => ?_)
    · obtain ⟨h, t, j₁, _⟩ := ccJ_tr hB h₂ g₁ g₂ g₃ g₄ g₅
      obtain ⟨p, p₁, p₂⟩ := g
      obtain ⟨m₁, m₂, u, v, q₁, q₂, q₃, q₄, q₅, q₆, q₇⟩ := ccPull (k := a) j₁ e₂ ⟨p, p₁, by rw [g₁.2.2.2.2.1 13 a (by omega) (by omega) (by omega)]; exact p₂⟩
      refine ⟨m₁, m₂, N v - N t, fun rs => ?_, fun rs => ?_, q₅, q₆⟩
      · show bI (F38 1 x mc rs) _ = _
        rw [e₁, q₁, ccBi]
      · rw [e₁, q₂]
    · show bI (F204 x (N 1) (ccM0 M) rs) _ = _
      rw [e₁, ccE204b (by omega), ccM0_r (by omega), y₁, ccBi, ccIte, if_pos y₂]
  · obtain ⟨mc, k₁, k₂, k₃⟩ := ccE18 (m := m) (i := 1) (i₂ := 0) (by omega)
    refine ccOk_q (v := N 0) (m₁ := mc) (m₂ := ccM0 mc) h₁ (fun rs => ?_) (fun rs => ?_) ccT0s (fun f a j p y₁ => ?_) (ccEq_t ccEq_rfl) (fun a j p => k₂ 4 a j p (by omega))
    · have d₁ : ¬ N 0 ≤ mc 0 1 13 a := by
        rw [k₃.2.2.2.2.1 13 a (by omega) (by omega) (by omega)]
        exact Int32.not_le.mpr y₂
      rw [k₁, ccBv]
      unfold F38
      rw [e₁, ccMckIn (by omega : a < 40) (by omega), mix_N (by omega), ccIte, if_neg d₁, ccBi]
    · show bI (F204 x (N 1) (ccM0 mc) rs) _ = _
      rw [e₁, ccE204b (by omega), ccM0_r (by omega), k₂ 4 0 3 _ (by omega), ccBi, ccIte, if_neg y₃]
    · unfold ccJk at y₁
      rw [k₂ f a j p (by omega)]
theorem ccOk_133 {B : Nat} {m : mMi} {x y : Int32} (hB : B ≤ 900000000) (h₁ : ccTop B m) : ccOk B (F133 x y) (F254 x y) [(1, 1), (2, 2)] m := by
  refine ccOk_place (b := N 0) h₁ (List.mem_cons_self) (List.mem_cons_of_mem _ List.mem_cons_self) (fun m rs => rfl) (fun m rs => rfl) (fun w l n bd lm dp cl β W L c h₂ e₁ e₂ e₃ e₄ => ?_)
  have qr : ccRu m 0 w l n := h₂.2.2.1.1
  have b₁ : w ≤ 12 := qr.2.2.2.2.1
  have b₂ : l ≤ 8 := qr.2.2.2.2.2.2.1
  have b₃ : n ≤ 40 := qr.2.2.2.2.2.2.2
  have wm : ∀ M : mMi, ccMo4 m M → ccWm (ccM0 M) w l n W (m 0 0) := fun M y₁ => by
    obtain ⟨z₁, z₂, z₃⟩ := ccLd_wm h₂
    have z₄ : ccM0 M 4 0 3 = m 4 0 3 := by
      funext q
      rw [ccM0_r (by omega), y₁]
    exact ⟨ccM0_mo (ccMo_4 y₁ z₁), by rw [z₄]; exact z₂, fun k z₅ => by rw [ccM0_r (by omega), y₁]; exact z₃ k z₅⟩
  cases g : ccHP (m 0 0) w l L c
  · obtain ⟨mc, k₁, k₂, k₃⟩ := ccE18 (m := m) (i := 1) (i₂ := 0) (by omega)
    have y₄ : ccMo4 m mc := fun a j p => k₂ 4 a j p (by omega)
    refine ccOk_q (v := N 0) (m₁ := mc) (m₂ := ccM0 mc) h₁ (fun rs => ?_) (fun rs => ?_) ccT0s (fun f a j p y₁ => ?_) (ccEq_t ccEq_rfl) y₄
    · have d₁ : ccRu mc (RO 1) w l n := ⟨Eq.trans (k₂ 1 0 1 0 (by omega)) qr.1, Eq.trans (k₂ 1 0 1 1 (by omega)) qr.2.1, Eq.trans (k₂ 1 0 0 4 (by omega)) qr.2.2.1, qr.2.2.2⟩
      have d₂ : ∀ rs, F26 1 (N L) (N c) (N 0) (I (-1)) mc rs = rV mc rs := fun rs => by
        unfold F26
        exact ccNoP (f := 19) d₁ (by omega) (by omega) (by rw [ccHP_ag k₃ b₁ b₂]; exact g)
      obtain ⟨h, t, r₁, _⟩ := h₂.2.2.2.1
      have d₃ : mc 0 1 7 2 = N t := by
        rw [k₃.2.2.2.1]
        exact (ccR_tt r₁).1
      rw [k₁, ccBv]
      unfold F32
      rw [e₁, e₂, d₂, ccBv, ccBi, d₃, N_sub (by omega), Nat.sub_self]
    · show bI (F198 x y (ccM0 mc) rs) _ = _
      rw [e₁, e₂, ccE198' (wm mc y₄) (by omega) (by omega), g, ccBi]
      rfl
    · unfold ccJk at y₁
      rw [k₂ f a j p (by omega)]
  · obtain ⟨_, _, g₀⟩ := ccHP_t g
    refine ccOk_imp (ccTrial (oc := fun m r => bI (F32 1 x y m r) (fun v m r => rI v m r)) (om := fun M r => bV (F222 (N (12 * L + c)) (N 0) (N 0) (I (-1)) M r) (fun m r => rI (m 4 0 3 1 - M 4 0 3 1) m r)) h₁ h₂ (fun mc mm g₁ g₂ g₃ g₄ g₅ => ?_)) (fun rs => rfl) (fun M rs y₁ => ?_)
    · obtain ⟨h, t, j₁, _⟩ := ccJ_tr hB h₂ g₁ g₂ g₃ g₄ g₅
      obtain ⟨m₁, m₂, a₁, a₂, a₃, _⟩ := ccFallP (L := L) (c := c) (cs := 0) (x := I (-1)) j₁.1 e₃ e₄ (by rw [g₁.1 2 _ (by omega) (by omega) (by omega)]; exact g₀) (by omega)
      have t₁ := ccR_tt j₁.1.2.2.2.2.2.1
      obtain ⟨⟨u, v, i₁, _⟩, f₁, f₂, _⟩ := a₃
      have t₂ := ccR_tt i₁.2.2.2.2.2.1
      refine ⟨m₁, m₂, N v - N t, fun rs => ?_, fun rs => ?_, f₁, f₂⟩
      · show bI (F32 1 x y mc rs) _ = _
        unfold F32
        rw [e₁, e₂, a₁, ccBv, ccBi, t₁.1, t₂.1]
      · show bV (F222 (N (12 * L + c)) (N 0) (N 0) (I (-1)) mm rs) _ = _
        rw [a₂, ccBv, t₁.2, t₂.2]
    · show bI (F198 x y (ccM0 M) rs) _ = bV (F255 (ccM0 M) rs) _
      have z₁ : ccT true = N 1 := rfl
      rw [e₁, e₂, ccE198' (wm M y₁) (by omega) (by omega), g, ccBi, z₁, ccIf1, ccE255, ccBv, ccBv, ccE200, ccBi]
      simp only [ccBvI, ccBi]
