/-! A CHANGE, on both sides. -/
theorem ccInj {v u : Int32} {m₁ m₂ : mMi} (h₁ : ∀ rs : mRs, rI v m₁ rs = rI u m₂ rs) : v = u ∧ m₁ = m₂ := by
  have e₁ := h₁ ((0, 0), (fun _ => false, fun _ => none, fun _ => 0), 0, 0, 0)
  injection e₁ with e₂
  injection e₂ with e₃ e₄
  injection e₃ with e₅
  injection e₅ with e₆
  injection e₆ with e₇
  injection e₄ with e₈ e₉
  exact ⟨e₇, e₈⟩
theorem ccKeep_cg {m m₁ : mMi} {k a j p : Nat} (h₁ : ∀ a j p, ¬ (a = 0 ∧ j = 0 ∧ p = 0) → m₁ 4 a j p = m 4 a j p) (h₂ : ¬ (a = 0 ∧ j = 0 ∧ p = 0)) : ccKeep m₁ k 4 a j p = ccKeep m k 4 a j p := by
  by_cases h₃ : a = 0 ∧ j = 0 ∧ p = 14
  · obtain ⟨e₁, e₂, e₃⟩ := h₃
    subst e₁ e₂ e₃
    rw [ccKeep_14, ccKeep_14]
  · by_cases h₄ : a = 0 ∧ j = 5
    · obtain ⟨e₁, e₂⟩ := h₄
      subst e₁ e₂
      unfold ccKeep
      by_cases h₅ : k = 8
      · rw [if_pos h₅, if_pos h₅]
        simp (disch := omega) only [ccRd, ccCp, if_neg, h₁, Nat.reduceEqDiff, eq_self, true_and, and_true, false_and, and_false, if_true, if_false]
      · rw [if_neg h₅, if_neg h₅]
        simp (disch := omega) only [ccRd, ccCp, if_neg, h₁, Nat.reduceEqDiff, eq_self, true_and, and_true, false_and, and_false, if_true, if_false]
    · rw [ccKeep_o (by omega) (by omega), ccKeep_o (by omega) (by omega)]
      exact h₁ a j p h₂
/-- a change: what is asked of the class's part oc and of the reference's part om -/
theorem ccChange {B : Nat} {m : mMi} {w l n bd lm dp cl : Nat} {β : Nat → Int32} {W : Nat → Nat} {oc om : mMi → mRs → mRz} {ec : List (Nat × Nat)} (h₁ : ccTop B m) (h₂ : ccLd B m w l n bd lm dp cl β W)
    (hop : ∀ mc mm : mMi, mc 0 0 = m 0 0 → (∀ j p, mc 1 0 j p = m 1 0 j p) → mm 4 0 3 = m 4 0 3 → (∀ p, 2 ≤ p → p ≤ 8 → mm 4 0 0 p = m 4 0 0 p) → (∀ p, mm 4 0 2 p = m 4 0 2 p) →
      ∃ m₁ m₂ v, (∀ rs, oc mc rs = rI v m₁ rs) ∧ (∀ rs, om mm rs = rI v m₂ rs) ∧ ccFr 0 mc m₁ ∧ ccFq mm m₂ ∧ ccKK w l n lm β W (B + 192) (m₁ 0 0) (m₂ 4 0 3)) :
    ccOk B (fun m rs => bV (F60 0 m rs) oc) (fun m rs => bV (F291 (ccM0 m) rs) om) ec m := by
  obtain ⟨k, x, y₁, y₂, y₃, y₄, y₅, y₆⟩ := h₂.2.2.2.2.1
  obtain ⟨mk, k₁, k₂, k₃, k₄, k₅⟩ := ccE60 y₅ y₂ y₃ y₁
  have g₁ : mk 0 0 = m 0 0 := by
    funext j p
    exact k₂ 0 0 j p (by omega) (by omega)
  have g₂ : ∀ j p, mk 1 0 j p = m 1 0 j p := fun j p => k₂ 1 0 j p (by omega) (by omega)
  -- the model's memory ahead of its part, over any class memory
  have gm : ∀ M : mMi, (∀ a j p, M 4 a j p = m 4 a j p) → (ccKeep (ccM0 M) k 4 0 3 = m 4 0 3) ∧ (∀ p, 2 ≤ p → p ≤ 8 → ccKeep (ccM0 M) k 4 0 0 p = m 4 0 0 p) ∧ (∀ p, ccKeep (ccM0 M) k 4 0 2 p = m 4 0 2 p) := fun M z₁ => by
    refine ⟨?_, fun p z₂ z₃ => ?_, fun p => ?_⟩
    · funext q
      rw [ccKeep_o (by omega) (by omega)]
      unfold ccM0
      rw [ccRd, if_neg (by omega)]
      exact z₁ 0 3 q
    · rw [ccKeep_o (by omega) (by omega)]
      unfold ccM0
      rw [ccRd, if_neg (by omega)]
      exact z₁ 0 0 p
    · rw [ccKeep_o (by omega) (by omega)]
      unfold ccM0
      rw [ccRd, if_neg (by omega)]
      exact z₁ 0 2 p
  obtain ⟨z₁, z₂, z₃⟩ := gm m (fun _ _ _ => rfl)
  obtain ⟨m₁, m₀, v, a₁, a₂, a₃, a₄, a₅⟩ := hop mk (ccKeep (ccM0 m) k) g₁ g₂ z₁ z₂ z₃
  have f₄ : ∀ a j p, m₁ 4 a j p = m 4 a j p := fun a j p => by rw [a₃ 4 a j p (by omega) (by omega), k₂ 4 a j p (by omega) (by omega)]
  obtain ⟨z₄, z₅, z₆⟩ := gm m₁ f₄
  obtain ⟨m₃, m₂, u, c₁, c₂, c₃, c₄, c₅⟩ := hop mk (ccKeep (ccM0 m₁) k) g₁ g₂ z₄ z₅ z₆
  obtain ⟨e₁, e₂⟩ := ccInj (v := v) (u := u) (m₁ := m₁) (m₂ := m₃) (fun rs => by rw [← a₁ rs, ← c₁ rs])
  subst e₁ e₂
  have e₃ : m₂ 0 0 = m₁ 0 0 := by
    funext j p
    rw [c₄ 0 0 j p (by omega) (by omega), ccKeep_o (by omega) (by omega)]
    unfold ccM0
    rw [ccRd, if_neg (by omega)]
  have s₃ : ∀ a j p, m₁ 3 a j p = m 3 a j p := fun a j p => by rw [a₃ 3 a j p (by omega) (by omega), k₂ 3 a j p (by omega) (by omega)]
  have d₁ : ∀ f a j p, f ≠ 4 → m₂ f a j p = m₁ f a j p := fun f a j p q₁ => by
    rw [c₄ f a j p (by omega) (by omega), ccKeep_o (by omega) (by omega)]
    unfold ccM0
    rw [ccRd, if_neg (by omega)]
  refine Or.inl ⟨v, m₁, m₂, fun rs => ?_, fun rs => ?_, ?_, ccFin (m₁ := m₁) h₁ h₂ ⟨y₃, y₁⟩ ⟨y₅, y₂⟩ (fun f a j p q₁ q₂ q₃ q₄ => ?_) ?_ ?_ ?_ d₁ (fun a j p q₁ q₂ => ?_) (by rw [e₃]; exact c₅), fun a j p => ⟨s₃ a j p, by rw [d₁ 3 a j p (by omega)]; exact s₃ a j p, f₄ a j p⟩⟩
  · show bV (F60 0 m rs) oc = _
    rw [k₁, ccBv, a₁]
  · show bV (F291 (ccM0 m₁) rs) om = _
    have q₁ : ccM0 m₁ 4 0 0 14 = N k := by
      unfold ccM0
      rw [ccRd, if_neg (by omega), f₄]
      exact y₄
    rw [ccE291 q₁ y₁, ccBv, c₂]
  · rw [c₄ 4 0 0 0 (by omega) (by omega), ccKeep_o (by omega) (by omega)]
    exact ccT0s
  · rw [a₃ f a j p (by omega) (fun q₅ => q₁ (Or.inl q₅)), k₂ f a j p q₃ q₄]
  · have q₁ : m₁ 0 (3 + x) = mk 0 (3 + x) := by
      funext j p
      exact a₃ 0 (3 + x) j p (by omega) (by omega)
    rw [q₁]
    exact k₃
  · rw [a₃ 2 5 0 2 (by omega) (by omega)]
    exact k₄
  · rw [a₃ 2 5 0 1 (by omega) (by omega)]
    exact k₅
  · unfold ccJk at q₁
    rw [c₄ 4 a j p (by omega) (by omega)]
    refine ccKeep_cg (fun a j p q₃ => ?_) (by omega)
    unfold ccM0
    rw [ccRd, if_neg (by omega)]
    exact f₄ a j p
/-- both memories of a change, as the theorems of falls want them -/
theorem ccJ_of {B : Nat} {m mc mm : mMi} {w l n bd lm dp cl : Nat} {β : Nat → Int32} {W : Nat → Nat} (hB : B ≤ 900000000) (h₂ : ccLd B m w l n bd lm dp cl β W) (g₁ : mc 0 0 = m 0 0) (g₂ : ∀ j p, mc 1 0 j p = m 1 0 j p) (g₃ : mm 4 0 3 = m 4 0 3) (g₄ : ∀ p, 2 ≤ p → p ≤ 8 → mm 4 0 0 p = m 4 0 0 p) (g₅ : ∀ p, mm 4 0 2 p = m 4 0 2 p) :
    ∃ h t, ccJ mc mm 0 w l n bd β (fun k => N (W k)) W h t ∧ t ≤ B ∧ ccQt W (mc 0 0) w l ∧ ccQn (N lm) (mc 0 0) ∧ mc 1 0 1 2 = N lm ∧ mm 4 0 0 4 = N lm ∧ mc 1 0 1 3 = N dp ∧ mm 4 0 0 5 = N dp ∧ mc 1 0 1 4 = N cl ∧ mm 4 0 0 6 = N cl := by
  obtain ⟨h, t, r₁, r₂, r₃, r₄, r₅, r₆⟩ := h₂.2.2.2.1
  obtain ⟨⟨a₁, a₂, a₃, a₄⟩, ⟨c₁, c₂, c₃, c₄⟩, ⟨d₁, d₂, d₃⟩, ⟨d₄, d₅, d₆⟩, ⟨d₇, d₈, d₉⟩, ⟨f₁, f₂, f₃⟩, f₄, f₅, f₆, f₇, f₈⟩ := h₂.2.2.1
  have p₁ := ccPcs_le (C := mc 0 0)
  refine ⟨h, t, ⟨⟨⟨Eq.trans (g₂ 1 0) a₁, Eq.trans (g₂ 1 1) a₂, Eq.trans (g₂ 0 4) a₃, a₄⟩, Eq.trans (g₂ 1 5) d₁, ⟨by rw [g₄ 2 (by omega) (by omega)]; exact c₁, by rw [g₄ 3 (by omega) (by omega)]; exact c₂, by rw [g₄ 8 (by omega) (by omega)]; exact c₃, c₄⟩, by rw [g₄ 7 (by omega) (by omega)]; exact d₂, d₃, by rw [g₁, g₃]; exact r₁, by rw [g₁]; exact r₂, by omega⟩, by rw [g₁]; exact r₃, fun k y₁ => Eq.trans (g₂ 4 k) (f₄ k y₁), fun k y₁ => by rw [g₅]; exact f₅ k y₁, f₆⟩, r₆, by rw [g₁]; exact r₄, by rw [g₁]; exact r₅, by rw [g₂]; exact d₄, by rw [g₄ 4 (by omega) (by omega)]; exact d₅, by rw [g₂]; exact d₇, by rw [g₄ 5 (by omega) (by omega)]; exact d₈, by rw [g₂]; exact f₁, by rw [g₄ 6 (by omega) (by omega)]; exact f₂⟩
/-- what a J and quiet make of a castle and a row -/
theorem ccKK_of {B : Nat} {mc mm : mMi} {w l n bd lm : Nat} {β : Nat → Int32} {W : Nat → Nat} {h t : Nat} (q : ccJ mc mm 0 w l n bd β (fun k => N (W k)) W h t) (h₁ : ccQt W (mc 0 0) w l) (h₂ : ccQn (N lm) (mc 0 0)) (h₃ : t ≤ B) : ccKK w l n lm β W B (mc 0 0) (mm 4 0 3) := ⟨h, t, q.1.2.2.2.2.2.1, q.1.2.2.2.2.2.2.1, q.2.1, h₁, h₂, h₃⟩
theorem ccOk_163 {B : Nat} {m : mMi} {x y : Int32} (hB : B ≤ 900000000) (h₁ : ccTop B m) : ccOk B (F163 x y) (F298 x y) [(1, 1), (3, 2)] m := by
  refine ccOk_trem (b := N 0) (km := fun M r => bV (F291 M r) (fun m₁ r₁ => bI (F269 x y m₁ r₁) (fun v m r => rI v m r))) h₁ (List.mem_cons_self) (List.mem_cons_of_mem _ List.mem_cons_self) (fun m rs => rfl) (fun m rs e₁ => ?_) (fun m rs e₁ e₂ => ?_) (fun m rs e₁ e₂ => ?_) (fun w l n bd lm dp cl β W a c h₂ e₁ e₂ e₃ e₄ e₅ => ?_)
  · unfold F298
    rw [e₁, ccBi, ccIf1]
  · unfold F298
    rw [e₁, ccBi, ccIf0, e₂, ccBi, ccIf1, ccE178f ccT0s, ccBi, ccIf0e]
  · unfold F298
    rw [e₁, ccBi, ccIf0, e₂, ccBi, ccIf0, ccE178t ccT0s (by omega) (by omega), ccBi, ccIf1e]
  · refine ccChange h₁ h₂ (fun mc mm g₁ g₂ g₃ g₄ g₅ => ?_)
    obtain ⟨h, t, j₁, j₂, j₃, j₄, j₅, j₆, j₇, j₈, _⟩ := ccJ_of hB h₂ g₁ g₂ g₃ g₄ g₅
    obtain ⟨m₁, m₂, u, v, q₁, q₂, q₃, q₄, q₅, q₆, q₇, q₈, q₉, D, d₁, d₂, _⟩ := ccQuake (x1 := x) (x2 := y) j₁ j₇ j₈ j₅ j₆
    have b₃ : n ≤ 40 := h₂.2.2.1.1.2.2.2.2.2.2.2
    have b₁ : w ≤ 12 := h₂.2.2.1.1.2.2.2.2.1
    have b₄ : lm ≤ 99 := h₂.2.2.1.2.2.2.1.2.2
    have b₅ : dp ≤ 9 := h₂.2.2.1.2.2.2.2.1.2.2
    rw [e₁, e₂] at d₁
    have nn : ccNn (m₁ 0 0) := ccNn_G d₂ (ccNn_sh d₁ e₄ b₅ (by omega) b₄ (fun p y₁ y₂ => ccStf_pos j₁.1.2.2.2.2.2.1 b₃ y₁ y₂) j₄)
    exact ⟨m₁, m₂, N v - N t, fun rs => by show bI (F35 0 x y mc rs) _ = _; rw [q₁, ccBi], fun rs => by show bI (F269 x y mm rs) _ = _; rw [q₂, ccBi], q₄, q₅, ccKK_of q₃ q₆ ⟨q₇, nn⟩ (by omega)⟩
