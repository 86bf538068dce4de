/-! CALLS: undo, save, restore. -/
def ccSt (f a j p : Nat) : Prop := (f = 1 ∧ a = 0) ∨ (f = 2 ∧ (a = 0 ∨ a = 1 ∨ (a = 3 ∧ j = 0 ∧ (p = 3 ∨ p = 4)) ∨ a = 7)) ∨ (f = 4 ∧ a = 0 ∧ (j = 1 ∨ j = 2 ∨ j = 7 ∨ j = 15 ∨ (j = 0 ∧ ((1 ≤ p ∧ p ≤ 8) ∨ p = 17 ∨ p = 18 ∨ p = 19 ∨ p = 36))))
theorem ccTop_mk {B : Nat} {m m₂ : mMi} {w l n bd lm dp cl : Nat} {β : Nat → Int32} {W : Nat → Nat} (h₁ : ccTop B m) (h₂ : ccLd B m w l n bd lm dp cl β W) (st : ∀ f a j p, ccSt f a j p → m₂ f a j p = m f a j p) (k₁ : ccKK w l n lm β W (B + 192) (m₂ 0 0) (m₂ 4 0 3)) (k₂ : ccRing m₂ (ccKK w l n lm β W (B + 192))) (k₃ : ccSav m₂ (ccKK w l n lm β W (B + 192))) : ccTop (B + 192) m₂ := by
  obtain ⟨e₁, e₂, e₃, _⟩ := h₁
  refine ⟨?_, ?_, ?_, Or.inr ⟨w, l, n, bd, lm, dp, cl, β, W, ?_, ?_, ?_, k₁, k₂, k₃⟩⟩
  · obtain ⟨e, y₁, y₂, y₃, y₄⟩ := e₁
    refine ⟨e, y₁, by rw [st 2 1 0 1 (by unfold ccSt; omega)]; exact y₂, by rw [st 4 0 0 17 (by unfold ccSt; omega)]; exact y₃, fun q g₁ => ?_⟩
    rw [st 4 0 7 q (by unfold ccSt; omega), st 2 1 1 q (by unfold ccSt; omega)]
    exact y₄ q g₁
  · unfold ccEr at e₂ ⊢
    rw [st 2 3 0 3 (by unfold ccSt; omega), st 2 3 0 4 (by unfold ccSt; omega), st 4 0 0 18 (by unfold ccSt; omega), st 4 0 0 19 (by unfold ccSt; omega)]
    exact e₂
  · obtain ⟨e, y₁, y₂, y₃, y₄⟩ := e₃
    refine ⟨e, y₁, by rw [st 2 7 0 1 (by unfold ccSt; omega)]; exact y₂, by rw [st 4 0 0 36 (by unfold ccSt; omega)]; exact y₃, fun q g₁ => ?_⟩
    rw [st 4 0 15 q (by unfold ccSt; omega), st 2 7 1 q (by unfold ccSt; omega)]
    exact y₄ q g₁
  · rw [st 2 0 0 10 (by unfold ccSt; omega)]
    exact h₂.1
  · rw [st 4 0 0 1 (by unfold ccSt; omega)]
    exact h₂.2.1
  · exact ccPar_eq (fun f a j p y₁ => st f a j p (by unfold ccSt; omega)) h₂.2.2.1
theorem ccSav_fr {m m₂ : mMi} {K K₂ : (Nat → Nat → Int32) → (Nat → Int32) → Prop} (h₁ : ccSav m K) (h₂ : ∀ C s u, K C s → ccAr s u → K₂ C u) (g₁ : ∀ e, e < 2 → m₂ 2 6 1 e = m 2 6 1 e ∧ m₂ 4 0 6 e = m 4 0 6 e ∧ m₂ 0 (11 + e) = m 0 (11 + e) ∧ ccAr (ccRow m (8 + e)) (ccRow m₂ (8 + e))) : ccSav m₂ K₂ := fun e y₁ => by
  obtain ⟨z₁, z₂, z₃, z₄⟩ := g₁ e y₁
  rw [z₁, z₂, z₃]
  rcases h₁ e y₁ with y₂ | ⟨y₂, y₃, y₄⟩
  · exact Or.inl y₂
  · exact Or.inr ⟨y₂, y₃, h₂ _ _ _ y₄ z₄⟩
theorem ccRing_fr {m m₂ : mMi} {K K₂ : (Nat → Nat → Int32) → (Nat → Int32) → Prop} (h₁ : ccRing m K) (h₂ : ∀ C s u, K C s → ccAr s u → K₂ C u) (g₁ : m₂ 2 5 0 1 = m 2 5 0 1) (g₂ : m₂ 4 0 0 14 = m 4 0 0 14) (g₃ : m₂ 2 5 0 2 = m 2 5 0 2) (g₄ : ∀ y, y < 8 → m₂ 0 (3 + y) = m 0 (3 + y)) (g₅ : ∀ t, t < 8 → ccAr (ccRow m t) (ccRow m₂ t)) : ccRing m₂ K₂ := by
  obtain ⟨k, x, y₁, y₂, y₃, y₄, y₅, y₆⟩ := h₁
  refine ⟨k, x, y₁, y₂, by rw [g₁]; exact y₃, by rw [g₂]; exact y₄, by rw [g₃]; exact y₅, fun t z₁ => ?_⟩
  rw [g₄ _ (by omega)]
  exact h₂ _ _ _ (y₆ t z₁) (g₅ t (by omega))
theorem ccKK_ar {w l n lm B : Nat} {β : Nat → Int32} {W : Nat → Nat} (b₁ : w ≤ 12) (b₂ : l ≤ 8) (b₃ : n ≤ 40) : ∀ C s u, ccKK w l n lm β W B C s → ccAr s u → ccKK w l n lm β W (B + 192) C u := fun _ _ _ h₁ h₂ => ccK_B (ccK_ag h₁ b₁ b₂ b₃ ccAg_rfl h₂) (by omega)
theorem ccKK_at {w l n lm B : Nat} {β : Nat → Int32} {W : Nat → Nat} {C D : Nat → Nat → Int32} {s u : Nat → Int32} (b₁ : w ≤ 12) (b₂ : l ≤ 8) (b₃ : n ≤ 40) (h₁ : ccKK w l n lm β W B C s) (h₂ : ccAg C D) (h₃ : ccAr s u) : ccKK w l n lm β W (B + 192) D u := ccK_B (ccK_ag h₁ b₁ b₂ b₃ h₂ h₃) (by omega)
theorem ccTime {w l n lm B : Nat} {β : Nat → Int32} {W : Nat → Nat} {C : Nat → Nat → Int32} {s : Nat → Int32} (h₁ : ccKK w l n lm β W B C s) : s 0 = C 0 5 := by
  obtain ⟨h, t, r, _⟩ := h₁
  exact r.2.2.2.2.1.2.2.2.2.1
theorem ccRow_o {m : mMi} {t e j₂ o₂ : Nat} (h₁ : t ≠ e) : ccAr (ccRow m e) (ccRow (ccCp m 5 (918 * t) j₂ o₂ 918) e) := fun q g₁ => by
  unfold ccRow
  rw [ccCp_o (by omega)]
theorem ccRow_i {m : mMi} {t j₂ : Nat} : ccAr (m 4 0 j₂) (ccRow (ccCp m 5 (918 * t) j₂ 0 918) t) := fun q g₁ => by
  unfold ccRow
  rw [ccCp_i g₁, Nat.zero_add]
theorem ccOk_168 {B : Nat} {m : mMi} {x : Int32} (h₁ : ccTop B m) : ccOk B (F168 x) (F307 x) [(1, 1), (2, 2)] m := by
  refine ccOk_textn (b := N 0) h₁ (List.mem_cons_self) (fun m rs => rfl) (fun m rs => rfl) (fun w l n bd lm dp cl β W h₂ => ?_)
  have qr : ccRu m 0 w l n := h₂.2.2.1.1
  have b₁ : w ≤ 12 := qr.2.2.2.2.1
  have b₂ : l ≤ 8 := qr.2.2.2.2.2.2.1
  have b₃ : n ≤ 40 := qr.2.2.2.2.2.2.2
  have i₂ : (2, 2) ∈ [(1, 1), (2, 2)] := List.mem_cons_of_mem _ List.mem_cons_self
  have e₀ : N 1 = N 2 - N 1 := rfl
  rcases Classical.em (∃ a, x = N a ∧ a < 2) with ⟨a, e₁, e₂⟩ | g
  rotate_left
  · refine ccOk_no (E := 2) (c := 2) h₁ i₂ (fun rs => ?_) (fun rs => ?_)
    · show bV (F106 x (N 2) m rs) _ = _
      rw [ccE106z g (by omega), ccBvX]
    · show bI (F177 x (N 0) (N 1) (ccM0 m) rs) _ = _
      have o₁ : F177 x (N 0) (N 1) (ccM0 m) rs = rI (N 0) (ccM0 m) rs := by
        rw [e₀, ccE177z (fun ⟨a, y₁, _, y₃⟩ => g ⟨a, y₁, y₃⟩) (by omega) (by omega)]
      rw [o₁, ccBi, ccIf0, ccE178t ccT0s (by omega) (by omega), ccBi, ccIf1e]
  subst e₁
  obtain ⟨mk, k₁, k₂, k₃⟩ := ccE18 (m := m) (i := 11 + a) (i₂ := 0) (by omega)
  obtain ⟨m₁, hm₁⟩ : ∃ y, y = mset mk 2 6 1 a (N 1) := ⟨_, rfl⟩
  have f₁ : ∀ f b j p, ¬ (f = 0 ∧ b = 11 + a) → ¬ (f = 2 ∧ b = 6 ∧ j = 1 ∧ p = a) → m₁ f b j p = m f b j p := fun f b j p y₁ y₂ => by
    rw [hm₁, ccRd, if_neg (by omega)]
    exact k₂ f b j p y₁
  have f₄ : ccMo4 m m₁ := fun b j p => f₁ 4 b j p (by omega) (by omega)
  obtain ⟨m₂, hm₂⟩ : ∃ y, y = mset (ccCp (ccM0 m₁) 5 (918 * (8 + a)) 3 0 918) 4 0 6 a (N 1) := ⟨_, rfl⟩
  have f₂ : ∀ f b j p, ¬ (f = 4 ∧ b = 0 ∧ (j = 5 ∨ j = 6)) → ¬ (f = 4 ∧ b = 0 ∧ j = 0 ∧ p = 0) → m₂ f b j p = m₁ f b j p := fun f b j p y₁ y₂ => by
    rw [hm₂, ccRd, if_neg (by omega), ccCp_o (by omega)]
    unfold ccM0
    rw [ccRd, if_neg (by omega)]
  have c₀ : m₂ 0 0 = m 0 0 := by
    funext j p
    rw [f₂ 0 0 j p (by omega) (by omega), f₁ 0 0 j p (by omega) (by omega)]
  have c₃ : m₂ 4 0 3 = m 4 0 3 := by
    funext p
    rw [f₂ 4 0 3 p (by omega) (by omega), f₄]
  have rr : ∀ e, e ≠ 8 + a → ccAr (ccRow m e) (ccRow m₂ e) := fun e y₁ q y₂ => by
    have y₃ := ccRow_o (m := ccM0 m₁) (t := 8 + a) (e := e) (j₂ := 3) (o₂ := 0) (by omega) q y₂
    have y₄ : ccRow m₂ e q = ccRow (ccCp (ccM0 m₁) 5 (918 * (8 + a)) 3 0 918) e q := by
      unfold ccRow
      rw [hm₂, ccRd, if_neg (by omega)]
    rw [y₄, y₃]
    unfold ccRow
    rw [ccM0_r (by omega), f₄]
  have ri : ccAr (m 4 0 3) (ccRow m₂ (8 + a)) := fun q y₂ => by
    have y₃ := ccRow_i (m := ccM0 m₁) (t := 8 + a) (j₂ := 3) q y₂
    have y₄ : ccRow m₂ (8 + a) q = ccRow (ccCp (ccM0 m₁) 5 (918 * (8 + a)) 3 0 918) (8 + a) q := by
      unfold ccRow
      rw [hm₂, ccRd, if_neg (by omega)]
    rw [y₄, y₃, ccM0_r (by omega), f₄]
  have tm : m 4 0 3 0 = m 0 0 0 5 := ccTime h₂.2.2.2.1
  have ci : m₂ 0 (11 + a) = mk 0 (11 + a) := by
    funext j p
    rw [f₂ 0 (11 + a) j p (by omega) (by omega), hm₁, ccRd, if_neg (by omega)]
  refine Or.inl ⟨m 0 0 0 5, m₁, m₂, fun rs => ?_, fun rs => ?_, ?_, ccTop_mk h₁ h₂ (fun f b j p y₁ => ?_) ?_ ?_ ?_, fun b j p => ⟨f₁ 3 b j p (by omega) (by omega), by rw [f₂ 3 b j p (by omega) (by omega)]; exact f₁ 3 b j p (by omega) (by omega), f₄ b j p⟩⟩
  · have y₁ : mk 0 0 0 5 = m 0 0 0 5 := k₂ 0 0 0 5 (by omega)
    show bV (F106 (N a) (N 2) m rs) _ = _
    rw [ccE106 (by omega) (by omega), if_pos e₂, ccBv, ccMckIn e₂ (by omega), mix_N (by omega), k₁, ccBv, ccMckIn e₂ (by omega), y₁, ← hm₁]
  · have o₁ : F177 (N a) (N 0) (N 1) (ccM0 m₁) rs = rI (N 1) (ccM0 m₁) rs := by
      rw [ccE177' (by omega) (by omega) (by omega), decide_eq_true (Nat.zero_le a), decide_eq_true (by omega : a ≤ 1)]
      rfl
    have o₂ : N 8 + N a = N (8 + a) := by rw [N_add]
    have y₁ : ccCp (mset m₁ 4 0 0 0 (N 0)) 5 (918 * (8 + a)) 3 0 918 4 0 3 0 = m 0 0 0 5 := by
      rw [ccCp_o (by omega), ccRd, if_neg (by omega), f₄]
      exact tm
    show bI (F177 (N a) (N 0) (N 1) (ccM0 m₁) rs) _ = _
    rw [o₁, ccBi, ccIf1, ccE178f ccT0s, ccBi, ccIf0e, o₂, ccE292 (by omega), ccBv, ccMckIn e₂ (by omega), mix_N (by omega), y₁, hm₂]
  · rw [hm₂, ccRd, if_neg (by omega), ccCp_o (by omega)]
    exact ccT0s
  · unfold ccSt at y₁
    rw [f₂ f b j p (by omega) (by omega), f₁ f b j p (by omega) (by omega)]
  · rw [c₀, c₃]
    exact ccK_B h₂.2.2.2.1 (by omega)
  · refine ccRing_fr h₂.2.2.2.2.1 (ccKK_ar b₁ b₂ b₃) ?_ ?_ ?_ (fun y y₁ => ?_) (fun t y₁ => rr t (by omega))
    · rw [f₂ 2 5 0 1 (by omega) (by omega), f₁ 2 5 0 1 (by omega) (by omega)]
    · rw [f₂ 4 0 0 14 (by omega) (by omega), f₄]
    · rw [f₂ 2 5 0 2 (by omega) (by omega), f₁ 2 5 0 2 (by omega) (by omega)]
    · funext j p
      rw [f₂ 0 (3 + y) j p (by omega) (by omega), f₁ 0 (3 + y) j p (by omega) (by omega)]
  · intro e y₁
    by_cases y₂ : e = a
    · subst y₂
      refine Or.inr ⟨?_, ?_, ?_⟩
      · rw [f₂ 2 6 1 e (by omega) (by omega), hm₁, ccRd, if_pos ⟨rfl, rfl, rfl, rfl⟩]
      · rw [hm₂, ccRd, if_pos ⟨rfl, rfl, rfl, rfl⟩]
      · rw [ci]
        exact ccKK_at b₁ b₂ b₃ h₂.2.2.2.1 k₃ ri
    · have y₃ : m₂ 2 6 1 e = m 2 6 1 e := by rw [f₂ 2 6 1 e (by omega) (by omega), f₁ 2 6 1 e (by omega) (by omega)]
      have y₄ : m₂ 4 0 6 e = m 4 0 6 e := by
        rw [hm₂, ccRd, if_neg (by omega), ccCp_o (by omega), ccM0_r (by omega), f₄]
      have y₅ : m₂ 0 (11 + e) = m 0 (11 + e) := by
        funext j p
        rw [f₂ 0 (11 + e) j p (by omega) (by omega), f₁ 0 (11 + e) j p (by omega) (by omega)]
      rw [y₃, y₄, y₅]
      rcases h₂.2.2.2.2.2 e y₁ with y₆ | ⟨y₆, y₇, y₈⟩
      · exact Or.inl y₆
      · exact Or.inr ⟨y₆, y₇, ccKK_ar b₁ b₂ b₃ _ _ _ y₈ (rr (8 + e) (by omega))⟩
/-! what was saved comes back -/
theorem ccE115s {m : mMi} {rs : mRs} {v : Int32} (h₁ : v = N 1) : F115 v m rs = rV m rs := by rw [h₁, ccE115t]
theorem ccSav_un {m : mMi} {e : Nat} (h₁ : ccUn m) (h₂ : e < 2) : m 2 6 1 e = N 0 ∧ m 4 0 6 e = N 0 := by
  rcases h₁.2.2.2 e h₂ with y₁ | ⟨_, _, y₁⟩
  · exact y₁
  · exact y₁.elim
theorem ccOk_169 {B : Nat} {m : mMi} {x : Int32} (h₁ : ccTop B m) : ccOk B (F169 x) (F308 x) [(2, 1), (1, 2)] m := by
  have e₀ : N 1 = N 2 - N 1 := rfl
  rcases Classical.em (∃ a, x = N a ∧ a < 2) with ⟨a, e₁, e₂⟩ | g
  rotate_left
  · refine ccOk_no (E := 2) (c := 1) h₁ List.mem_cons_self (fun rs => ?_) (fun rs => ?_)
    · unfold F169
      rw [ccE106z g (by omega), ccBvX]
    · have o₁ : F177 x (N 0) (N 1) (mset m 4 0 0 0 (N 0)) rs = rI (N 0) (mset m 4 0 0 0 (N 0)) rs := by
        rw [e₀, ccE177z (fun ⟨a, y₁, _, y₃⟩ => g ⟨a, y₁, y₃⟩) (by omega) (by omega)]
      unfold F308
      rw [o₁, ccBi, ccIf0, ccE178t ccT0s (by omega) (by omega), ccBi, ccIf1]
  subst e₁
  have i₂ : (1, 2) ∈ [(2, 1), (1, 2)] := List.mem_cons_of_mem _ List.mem_cons_self
  have cl : ∀ M : mMi, ∀ rs, F177 (N a) (N 0) (N 1) (mset M 4 0 0 0 (N 0)) rs = rI (N 1) (mset M 4 0 0 0 (N 0)) rs := fun M rs => by
    rw [ccE177' (by omega) (by omega) (by omega), decide_eq_true (Nat.zero_le a), decide_eq_true (by omega : a ≤ 1)]
    rfl
  have mi₀ : (mIn (N a) 2 || false) = true := by rw [mIn_N e₂ (by omega)]; rfl
  have none' : m 2 6 1 a = N 0 → m 4 0 6 a = N 0 → ccOk B (F169 (N a)) (F308 (N a)) [(2, 1), (1, 2)] m := fun y₁ y₂ => by
    refine ccOk_no (E := 1) (c := 2) h₁ i₂ (fun rs => ?_) (fun rs => ?_)
    · unfold F169
      rw [ccE106 (by omega) (by omega), if_pos e₂, ccBv, ccMck mi₀, mix_N (by omega), y₁, ccE115f, ccBvX]
    · have y₃ : mset m 4 0 0 0 (N 0) 4 0 6 a = N 0 := by
        rw [ccRd, if_neg (by omega)]
        exact y₂
      unfold F308
      rw [cl, ccBi, ccIf1, ccE178f ccT0s, ccBi, ccIf0, ccMck mi₀, mix_N (by omega), y₃, ccIf0, ccE178t ccT0s (by omega) (by omega), ccBi, ccIf1e]
  rcases h₁.2.2.2 with h₃ | ⟨w, l, n, bd, lm, dp, cl', β, W, h₂⟩
  · obtain ⟨y₁, y₂⟩ := ccSav_un h₃ e₂
    exact none' y₁ y₂
  have qr : ccRu m 0 w l n := h₂.2.2.1.1
  have b₁ : w ≤ 12 := qr.2.2.2.2.1
  have b₂ : l ≤ 8 := qr.2.2.2.2.2.2.1
  have b₃ : n ≤ 40 := qr.2.2.2.2.2.2.2
  rcases h₂.2.2.2.2.2 a e₂ with ⟨y₁, y₂⟩ | ⟨s₁, s₂, s₃⟩
  · exact none' y₁ y₂
  obtain ⟨mk, k₁, k₂, k₃⟩ := ccE18 (m := m) (i := 0) (i₂ := 11 + a) (by omega)
  obtain ⟨m₁, hm₁⟩ : ∃ y, y = mset mk 2 5 0 1 (N 0) := ⟨_, rfl⟩
  have f₁ : ∀ f b j p, ¬ (f = 0 ∧ b = 0) → ¬ (f = 2 ∧ b = 5 ∧ j = 0 ∧ p = 1) → m₁ f b j p = m f b j p := fun f b j p y₁ y₂ => by
    rw [hm₁, ccRd, if_neg (by omega)]
    exact k₂ f b j p y₁
  have f₄ : ccMo4 m m₁ := fun b j p => f₁ 4 b j p (by omega) (by omega)
  obtain ⟨m₂, hm₂⟩ : ∃ y, y = mset (ccCp (ccM0 m₁) 3 0 5 (918 * (8 + a)) 918) 4 0 0 14 (N 0) := ⟨_, rfl⟩
  have f₂ : ∀ f b j p, ¬ (f = 4 ∧ b = 0 ∧ j = 3) → ¬ (f = 4 ∧ b = 0 ∧ j = 0 ∧ (p = 0 ∨ p = 14)) → m₂ f b j p = m₁ f b j p := fun f b j p y₁ y₂ => by
    rw [hm₂, ccRd, if_neg (by omega), ccCp_o (by omega)]
    unfold ccM0
    rw [ccRd, if_neg (by omega)]
  have c₀ : m₂ 0 0 = mk 0 0 := by
    funext j p
    rw [f₂ 0 0 j p (by omega) (by omega), hm₁, ccRd, if_neg (by omega)]
  have rw₀ : ∀ e, ccRow m₂ e = ccRow m e := fun e => by
    funext q
    unfold ccRow
    rw [f₂ 4 0 5 _ (by omega) (by omega), f₄]
  have ri : ccAr (ccRow m (8 + a)) (m₂ 4 0 3) := fun q y₂ => by
    have y₃ : q = 0 + q := by omega
    have y₄ : m₂ 4 0 3 q = ccCp (ccM0 m₁) 3 0 5 (918 * (8 + a)) 918 4 0 3 (0 + q) := by
      rw [hm₂, ccRd, if_neg (by omega), ← y₃]
    rw [y₄, ccCp_i y₂, ccM0_r (by omega), f₄]
    rfl
  have kk : ccKK w l n lm β W (B + 192) (m₂ 0 0) (m₂ 4 0 3) := by
    rw [c₀]
    exact ccKK_at b₁ b₂ b₃ s₃ k₃ ri
  have tm : m₂ 4 0 3 0 = mk 0 0 0 5 := by
    rw [ccTime kk, c₀]
  refine Or.inl ⟨mk 0 0 0 5, m₁, m₂, fun rs => ?_, fun rs => ?_, ?_, ccTop_mk h₁ h₂ (fun f b j p y₁ => ?_) kk ?_ ?_, fun b j p => ⟨f₁ 3 b j p (by omega) (by omega), by rw [f₂ 3 b j p (by omega) (by omega)]; exact f₁ 3 b j p (by omega) (by omega), f₄ b j p⟩⟩
  · unfold F169
    rw [ccE106 (by omega) (by omega), if_pos e₂, ccBv, ccMck mi₀, mix_N (by omega), ccE115s s₁, ccBv, ccMckIn e₂ (by omega), k₁, ccBv, ← hm₁]
  · have o₂ : N 8 + N a = N (8 + a) := by rw [N_add]
    have y₃ : mset m₁ 4 0 0 0 (N 0) 4 0 6 a ≠ N 0 := by
      rw [ccRd, if_neg (by omega), f₄, s₂, ne_eq, N_eq (by omega) (by omega)]
      omega
    have y₄ : ccCp (mset m₁ 4 0 0 0 (N 0)) 3 0 5 (918 * (8 + a)) 918 4 0 3 0 = mk 0 0 0 5 := by
      rw [← tm, hm₂, ccRd, if_neg (by omega)]
    unfold F308
    rw [cl, ccBi, ccIf1, ccE178f ccT0s, ccBi, ccIf0, ccMck mi₀, mix_N (by omega), ccIte, if_pos y₃, ccE178f ccT0s, ccBi, ccIf0e, o₂, ccE305 (by omega), ccBv, y₄, hm₂]
  · rw [hm₂, ccRd, if_neg (by omega), ccCp_o (by omega)]
    exact ccT0s
  · unfold ccSt at y₁
    rw [f₂ f b j p (by omega) (by omega), f₁ f b j p (by omega) (by omega)]
  · obtain ⟨k, y, y₁, y₂, y₃, y₄, y₅, y₆⟩ := h₂.2.2.2.2.1
    refine ⟨0, y, by omega, y₂, ?_, ?_, ?_, fun t y₇ => by omega⟩
    · rw [f₂ 2 5 0 1 (by omega) (by omega), hm₁, ccRd, if_pos ⟨rfl, rfl, rfl, rfl⟩]
    · rw [hm₂, ccRd, if_pos ⟨rfl, rfl, rfl, rfl⟩]
    · rw [f₂ 2 5 0 2 (by omega) (by omega), f₁ 2 5 0 2 (by omega) (by omega)]
      exact y₅
  · refine ccSav_fr h₂.2.2.2.2.2 (ccKK_ar b₁ b₂ b₃) (fun e y₁ => ⟨?_, ?_, ?_, ?_⟩)
    · rw [f₂ 2 6 1 e (by omega) (by omega), f₁ 2 6 1 e (by omega) (by omega)]
    · rw [f₂ 4 0 6 e (by omega) (by omega), f₄]
    · funext j p
      rw [f₂ 0 (11 + e) j p (by omega) (by omega), f₁ 0 (11 + e) j p (by omega) (by omega)]
    · rw [rw₀]
      exact ccAr_rfl
/-! undo -/
theorem ccRing_un {m : mMi} (h₁ : ccUn m) : m 2 5 0 1 = N 0 ∧ m 4 0 0 14 = N 0 := by
  obtain ⟨k, x, y₁, y₂, y₃, y₄, y₅, y₆⟩ := h₁.2.2.1
  have y₇ : k = 0 := by
    rcases Nat.eq_zero_or_pos k with z₁ | z₁
    · exact z₁
    · exact False.elim (y₆ 0 z₁)
  subst y₇
  exact ⟨y₃, y₄⟩
theorem ccOk_167 {B : Nat} {m : mMi} (h₁ : ccTop B m) : ccOk B F167 F304 [(1, 1)] m := by
  have none' : m 2 5 0 1 = N 0 → m 4 0 0 14 = N 0 → ccOk B F167 F304 [(1, 1)] m := fun y₁ y₂ => by
    refine ccOk_no (E := 1) (c := 1) h₁ List.mem_cons_self (fun rs => ?_) (fun rs => ?_)
    · have y₃ : N 0 ≤ N 0 := by rw [N_le (by omega) (by omega)]; omega
      unfold F167
      rw [y₁, ccIte, if_pos y₃, ccE115f, ccBvX]
    · unfold F304
      rw [y₂, ccIf0, ccE178t ccT0s (by omega) (by omega), ccBi, ccIf1e]
  rcases h₁.2.2.2 with h₃ | ⟨w, l, n, bd, lm, dp, cl', β, W, h₂⟩
  · obtain ⟨y₁, y₂⟩ := ccRing_un h₃
    exact none' y₁ y₂
  have qr : ccRu m 0 w l n := h₂.2.2.1.1
  have b₁ : w ≤ 12 := qr.2.2.2.2.1
  have b₂ : l ≤ 8 := qr.2.2.2.2.2.2.1
  have b₃ : n ≤ 40 := qr.2.2.2.2.2.2.2
  obtain ⟨k, x, y₁, y₂, y₃, y₄, y₅, y₆⟩ := h₂.2.2.2.2.1
  cases k with
  | zero => exact none' y₃ y₄
  | succ k =>
    have kx : (x + 8 - (k + 1) + k) % 8 = (x + 7) % 8 := by
      have z₁ : x + 8 - (k + 1) + k = x + 7 := by omega
      rw [z₁]
    have s₃ := y₆ k (by omega)
    rw [kx] at s₃
    obtain ⟨v, hv⟩ : ∃ v, v = (x + 7) % 8 := ⟨_, rfl⟩
    rw [← hv] at s₃
    obtain ⟨m₀, hm₀⟩ : ∃ y, y = mset (mset m 2 5 0 2 (N v)) 2 5 0 1 (N k) := ⟨_, rfl⟩
    obtain ⟨m₁, k₁, k₂, k₃⟩ := ccE18 (m := m₀) (i := 0) (i₂ := 3 + v) (by omega)
    have f₀ : ∀ f b j p, ¬ (f = 2 ∧ b = 5 ∧ j = 0 ∧ (p = 1 ∨ p = 2)) → m₀ f b j p = m f b j p := fun f b j p z₁ => by
      rw [hm₀, ccRd, if_neg (by omega), ccRd, if_neg (by omega)]
    have f₁ : ∀ f b j p, ¬ (f = 0 ∧ b = 0) → ¬ (f = 2 ∧ b = 5 ∧ j = 0 ∧ (p = 1 ∨ p = 2)) → m₁ f b j p = m f b j p := fun f b j p z₁ z₂ => by
      rw [k₂ f b j p z₁, f₀ f b j p z₂]
    have f₄ : ccMo4 m m₁ := fun b j p => f₁ 4 b j p (by omega) (by omega)
    have g₁ : m₁ 2 5 0 1 = N k := by rw [k₂ 2 5 0 1 (by omega), hm₀, ccRd, if_pos ⟨rfl, rfl, rfl, rfl⟩]
    have g₂ : m₁ 2 5 0 2 = N v := by rw [k₂ 2 5 0 2 (by omega), hm₀, ccRd, if_neg (by omega), ccRd, if_pos ⟨rfl, rfl, rfl, rfl⟩]
    obtain ⟨M, hM⟩ : ∃ y, y = mset (mset m₁ 4 0 0 0 (N 0)) 4 0 0 14 (N k) := ⟨_, rfl⟩
    have fM : ∀ f b j p, ¬ (f = 4 ∧ b = 0 ∧ j = 0 ∧ (p = 0 ∨ p = 14)) → M f b j p = m₁ f b j p := fun f b j p z₁ => by
      rw [hM, ccRd, if_neg (by omega), ccRd, if_neg (by omega)]
    obtain ⟨m₂, hm₂⟩ : ∃ y, y = ccCp M 3 0 5 (918 * k) 918 := ⟨_, rfl⟩
    have f₂ : ∀ f b j p, ¬ (f = 4 ∧ b = 0 ∧ j = 3) → ¬ (f = 4 ∧ b = 0 ∧ j = 0 ∧ (p = 0 ∨ p = 14)) → m₂ f b j p = m₁ f b j p := fun f b j p z₁ z₂ => by
      rw [hm₂, ccCp_o (by omega), fM f b j p z₂]
    have c₀ : m₂ 0 0 = m₁ 0 0 := by
      funext j p
      rw [f₂ 0 0 j p (by omega) (by omega)]
    have cv : m₀ 0 (3 + v) = m 0 (3 + v) := by
      funext j p
      rw [f₀ 0 (3 + v) j p (by omega)]
    rw [cv] at k₃
    have rw₀ : ∀ e, ccRow m₂ e = ccRow m e := fun e => by
      funext q
      unfold ccRow
      rw [f₂ 4 0 5 _ (by omega) (by omega), f₄]
    have ri : ccAr (ccRow m k) (m₂ 4 0 3) := fun q z₂ => by
      have z₃ : q = 0 + q := by omega
      have z₄ : m₂ 4 0 3 q = ccCp M 3 0 5 (918 * k) 918 4 0 3 (0 + q) := by
        rw [hm₂, ← z₃]
      rw [z₄, ccCp_i z₂, fM _ _ _ _ (by omega), f₄]
      rfl
    have kk : ccKK w l n lm β W (B + 192) (m₂ 0 0) (m₂ 4 0 3) := by
      rw [c₀]
      exact ccKK_at b₁ b₂ b₃ s₃ k₃ ri
    refine Or.inl ⟨N k, m₁, m₂, fun rs => ?_, fun rs => ?_, ?_, ccTop_mk h₁ h₂ (fun f b j p z₁ => ?_) kk ?_ ?_, fun b j p => ⟨f₁ 3 b j p (by omega) (by omega), by rw [f₂ 3 b j p (by omega) (by omega)]; exact f₁ 3 b j p (by omega) (by omega), f₄ b j p⟩⟩
    · have z₁ : ¬ N (k + 1) ≤ N 0 := by rw [N_le (by omega) (by omega)]; omega
      have z₂ : N x + N 8 - N 1 = N (x + 7) := by
        have z₃ : x + 8 - 1 = x + 7 := by omega
        rw [N_add, N_sub (by omega), z₃]
      have z₄ : N (x + 7) - N (x + 7) / N 8 * N 8 = N v := by rw [N_rem (by omega) (by omega) (by omega), hv]
      have z₅ : v < 8 := by omega
      have z₆ : N (k + 1) - N 1 = N k := by rw [N_sub (by omega), Nat.add_sub_cancel]
      have z₇ : ¬ N k < N 0 := by rw [N_lt (by omega) (by omega)]; omega
      have z₈ : ∀ rs, F61 0 m rs = rV m₁ rs := fun rs => by
        unfold F61
        rw [y₅, y₃, z₂, z₄, z₆, if_neg z₇, ccMckIn z₅ (by omega), mix_N (by omega), ← hm₀, k₁, ccBv]
      unfold F167
      rw [y₃, ccIte, if_neg z₁, ccE115t, ccBv, z₈, ccBv, g₁]
    · have z₀ : m₁ 4 0 0 14 = N (k + 1) := by rw [f₄]; exact y₄
      have z₁ : N (k + 1) ≠ N 0 := by rw [ne_eq, N_eq (by omega) (by omega)]; omega
      have z₂ : mset m₁ 4 0 0 0 (N 0) 4 0 0 14 = N (k + 1) := by
        rw [ccRd, if_neg (by omega)]
        exact z₀
      have z₃ : N (k + 1) - N 1 = N k := by rw [N_sub (by omega), Nat.add_sub_cancel]
      have z₄ : N 0 + N k = N k := by rw [N_add, Nat.zero_add]
      have z₅ : ccCp M 3 0 5 (918 * k) 918 4 0 0 14 = N k := by
        rw [ccCp_o (by omega), hM, ccRd, if_pos ⟨rfl, rfl, rfl, rfl⟩]
      unfold F304
      rw [z₀, ccIte, if_pos z₁, ccE178f ccT0s, ccBi, ccIf0e, z₂, z₃, z₄, ← hM, ccE305 (by omega), ccBv, z₅, hm₂]
    · rw [hm₂, ccCp_o (by omega), hM, ccRd, if_neg (by omega), ccRd, if_pos ⟨rfl, rfl, rfl, rfl⟩]
    · unfold ccSt at z₁
      rw [f₂ f b j p (by omega) (by omega), f₁ f b j p (by omega) (by omega)]
    · refine ⟨k, v, by omega, by omega, ?_, ?_, ?_, fun t z₁ => ?_⟩
      · rw [f₂ 2 5 0 1 (by omega) (by omega)]
        exact g₁
      · rw [hm₂, ccCp_o (by omega), hM, ccRd, if_pos ⟨rfl, rfl, rfl, rfl⟩]
      · rw [f₂ 2 5 0 2 (by omega) (by omega)]
        exact g₂
      · have z₂ : (v + 8 - k + t) % 8 = (x + 8 - (k + 1) + t) % 8 := by omega
        have z₃ : m₂ 0 (3 + (x + 8 - (k + 1) + t) % 8) = m 0 (3 + (x + 8 - (k + 1) + t) % 8) := by
          funext j p
          rw [f₂ 0 _ j p (by omega) (by omega), f₁ 0 _ j p (by omega) (by omega)]
        rw [z₂, z₃, rw₀]
        exact ccK_B (y₆ t (by omega)) (by omega)
    · refine ccSav_fr h₂.2.2.2.2.2 (ccKK_ar b₁ b₂ b₃) (fun e z₁ => ⟨?_, ?_, ?_, ?_⟩)
      · rw [f₂ 2 6 1 e (by omega) (by omega), f₁ 2 6 1 e (by omega) (by omega)]
      · rw [f₂ 4 0 6 e (by omega) (by omega), f₄]
      · funext j p
        rw [f₂ 0 (11 + e) j p (by omega) (by omega), f₁ 0 (11 + e) j p (by omega) (by omega)]
      · rw [rw₀]
        exact ccAr_rfl
