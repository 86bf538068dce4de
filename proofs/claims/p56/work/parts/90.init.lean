/-! THE BEGINNING: an empty castle ties. -/
theorem kwR0 {z : Nat → Nat} {wt : Nat → Int32} {C : Nat → Nat → Int32} (c₂ : ∀ p, p < 96 → C 2 p = I (-1)) (c₆ : ∀ p, p < 96 → C 6 p = I (-1)) (c₁₀ : C 10 5 = N 0) (c₇ : C 7 2 = N 0) (c₉ : ∀ u, u < 4 → C 9 u = N 0) (c₅ : C 0 5 = N 0) (c₀ : C 0 6 = N 0) : ∀ n, n ≤ 40 → (∀ k, k < n → C 13 k = I (-1) ∧ C 12 k = N 0 ∧ C 11 k = N (z k) ∧ 1 ≤ z k ∧ z k ≤ 9) → ∃ s, ccR ccX0 n (fun k => N (z k)) wt 0 0 C s ∧ ∀ k, n ≤ k → k < 40 → s (9 + 6 * k) = N 0 ∧ s (11 + 6 * k) = N 0 ∧ s (12 + 6 * k) = N 0 := by
  intro n
  induction n with
  | zero =>
    intro _ _
    refine ⟨fun q => if q < 8 then N 0 else if 248 ≤ q then I (-1) else N 0, ccR_init c₂ c₆ c₁₀ c₇ c₉ c₅ c₀ (fun p y => ?_) (fun p y => ?_) (fun q y => ?_), fun k y₁ y₂ => ⟨?_, ?_, ?_⟩⟩
    · show (if 248 + 4 * p < 8 then N 0 else if 248 ≤ 248 + 4 * p then I (-1) else N 0) = I (-1)
      rw [if_neg (by omega), if_pos (by omega)]
    · show (if 632 + p < 8 then N 0 else if 248 ≤ 632 + p then I (-1) else N 0) = I (-1)
      rw [if_neg (by omega), if_pos (by omega)]
    · show (if q < 8 then N 0 else if 248 ≤ q then I (-1) else N 0) = N 0
      rw [if_pos y]
    · show (if 9 + 6 * k < 8 then N 0 else if 248 ≤ 9 + 6 * k then I (-1) else N 0) = N 0
      rw [if_neg (by omega), if_neg (by omega)]
    · show (if 11 + 6 * k < 8 then N 0 else if 248 ≤ 11 + 6 * k then I (-1) else N 0) = N 0
      rw [if_neg (by omega), if_neg (by omega)]
    · show (if 12 + 6 * k < 8 then N 0 else if 248 ≤ 12 + 6 * k then I (-1) else N 0) = N 0
      rw [if_neg (by omega), if_neg (by omega)]
  | succ n i₁ =>
    intro b h
    obtain ⟨s, h₁, h₂⟩ := i₁ (by omega) (fun k y => h k (by omega))
    obtain ⟨y₁, y₂, y₃, y₄, y₅⟩ := h n (by omega)
    obtain ⟨e₁, e₂, e₃⟩ := h₂ n (Nat.le_refl n) (by omega)
    refine ⟨fun q => if q = 8 + 6 * n then N (z n) else s q, ccR_card h₁ (by omega) ⟨y₄, y₅⟩ y₁ y₂ e₁ e₂ e₃ y₃ (fun _ _ _ => rfl) (if_pos rfl) (fun q g => if_neg g) (fun _ _ => rfl) rfl (fun _ _ => rfl), fun k g₁ g₂ => ?_⟩
    obtain ⟨f₁, f₂, f₃⟩ := h₂ k (by omega) g₂
    refine ⟨?_, ?_, ?_⟩
    · show (if 9 + 6 * k = 8 + 6 * n then N (z n) else s (9 + 6 * k)) = N 0
      rw [if_neg (by omega)]; exact f₁
    · show (if 11 + 6 * k = 8 + 6 * n then N (z n) else s (11 + 6 * k)) = N 0
      rw [if_neg (by omega)]; exact f₂
    · show (if 12 + 6 * k = 8 + 6 * n then N (z n) else s (12 + 6 * k)) = N 0
      rw [if_neg (by omega)]; exact f₃
/-- an empty castle -/
def kwEm (n : Nat) (z : Nat → Nat) (C : Nat → Nat → Int32) : Prop := (∀ p, p < 96 → C 2 p = I (-1) ∧ C 6 p = I (-1)) ∧ C 10 5 = N 0 ∧ C 7 2 = N 0 ∧ (∀ u, u < 4 → C 9 u = N 0) ∧ C 0 5 = N 0 ∧ C 0 6 = N 0 ∧ ∀ k, k < n → C 13 k = I (-1) ∧ C 12 k = N 0 ∧ C 11 k = N (z k) ∧ 1 ≤ z k ∧ z k ≤ 9
/-- an empty World -/
def kwEw (m : mMi) (B n : Nat) (z W : Nat → Nat) : Prop := (∀ L c, L < 8 → c < 12 → m 20 B L c = I (-1) ∧ m 24 B L c = I (-1)) ∧ (∀ k, k < n → m 6 B 2 k = N (z k) ∧ m 6 B 3 k = N (W k) ∧ m 6 B 4 k = N 0 ∧ m 6 B 7 k = N 0 ∧ m 6 B 8 k = N 0) ∧ m 6 B 0 18 = N 0 ∧ m 6 B 0 19 = N 0 ∧ m 6 B 0 20 = N 0 ∧ m 6 B 0 21 = N 0 ∧ ∀ u, u < 4 → m 6 B 16 u = N 0
theorem kwJ_init {mc mw : mMi} {i B w l n lm dp cl bd : Nat} {z W : Nat → Nat} (ru : ccRu mc (RO i) w l n) (r₅ : mc 1 (RO i) 1 5 = N bd) (hb : bd ≤ 8) (ec : kwEm n z (mc 0 i)) (wt : ccWt mc (RO i) n W) (wk : ccWok n W) (s : kwS mw B w l n lm dp cl bd) (ew : kwEw mw B n z W) : kwJ mc mw i B w l n lm dp cl bd (fun k => N (z k)) (fun k => N (W k)) W true 0 0 := by
  obtain ⟨c₁, c₂, c₃, c₄, c₅, c₆, c₇⟩ := ec
  obtain ⟨w₁, w₂, w₃, w₄, w₅, w₆, w₇⟩ := ew
  have b₃ : n ≤ 40 := ru.2.2.2.2.2.2.2
  obtain ⟨t, ht, _⟩ := kwR0 (z := z) (wt := fun k => N (W k)) (fun p y => (c₁ p y).1) (fun p y => (c₁ p y).2) c₂ c₃ c₄ c₅ c₆ n b₃ c₇
  obtain ⟨mm, hm⟩ : ∃ mm : mMi, mm = fun f a j p => if f = 4 ∧ a = 0 then (if j = 3 then t p else if j = 2 then N (W p) else if p = 2 then N w else if p = 3 then N l else if p = 8 then N n else N bd) else N 0 := ⟨_, rfl⟩
  have e₀ : ∀ p, mm 4 0 0 p = if p = 2 then N w else if p = 3 then N l else if p = 8 then N n else N bd := fun p => by
    rw [hm]
    show (if 4 = 4 ∧ 0 = 0 then (if 0 = 3 then t p else if 0 = 2 then N (W p) else if p = 2 then N w else if p = 3 then N l else if p = 8 then N n else N bd) else N 0) = _
    rw [if_pos ⟨rfl, rfl⟩, if_neg (by omega), if_neg (by omega)]
  have e₂ : ∀ p, mm 4 0 2 p = N (W p) := fun p => by
    rw [hm]
    show (if 4 = 4 ∧ 0 = 0 then (if 2 = 3 then t p else if 2 = 2 then N (W p) else if p = 2 then N w else if p = 3 then N l else if p = 8 then N n else N bd) else N 0) = _
    rw [if_pos ⟨rfl, rfl⟩, if_neg (by omega), if_pos rfl]
  have e₃ : mm 4 0 3 = t := by
    funext p
    rw [hm]
    show (if 4 = 4 ∧ 0 = 0 then (if 3 = 3 then t p else if 3 = 2 then N (W p) else if p = 2 then N w else if p = 3 then N l else if p = 8 then N n else N bd) else N 0) = _
    rw [if_pos ⟨rfl, rfl⟩, if_pos rfl]
  have nP : ∀ p, p < 96 → ccP (mc 0 i) p = false := fun p y => by
    unfold ccP
    rw [decide_eq_true (c₁ p y).1]
    rfl
  have nF : ∀ p, p < 96 → ccF (mc 0 i) p = false := fun p y => by
    unfold ccF
    rw [decide_eq_true (c₁ p y).2]
    rfl
  have z₁ : ccPcs (mc 0 i) = 0 := by
    have y₁ := kwCnt_no (g := ccP (mc 0 i)) (p := 0) 96 (fun k y => by rw [Nat.zero_add]; exact nP k y)
    have y₂ := kwCnt_no (g := ccF (mc 0 i)) (p := 0) 96 (fun k y => by rw [Nat.zero_add]; exact nF k y)
    unfold ccPcs
    show ccCnt (ccP (mc 0 i)) (0 + 96) + ccCnt (ccF (mc 0 i)) (0 + 96) = 0
    rw [y₁, y₂]
    rfl
  refine ⟨⟨mm, ⟨ru, r₅, ⟨by rw [e₀]; rfl, by rw [e₀]; rfl, by rw [e₀]; rfl, ru.2.2.2⟩, by rw [e₀]; rfl, hb, by rw [e₃]; exact ht, fun p y => ⟨fun u => absurd (c₁ p y).1 u, fun u => absurd (c₁ p y).2 u⟩, by rw [z₁]; omega⟩, fun p y₁ y₂ => ⟨fun u => u.1 (c₁ p y₂).2, fun u => u.1 (c₁ p y₂).1⟩, wt, fun k y => e₂ k, wk⟩, s, ⟨fun L c y₁ y₂ => ?_, fun k y => ⟨?_, Or.inr (Or.inl ⟨(w₂ k y).2.2.1, (c₇ k y).1⟩)⟩, ⟨by rw [w₅, c₃], 0, 0, w₃, c₂, Nat.le_refl 0, by omega⟩, c₃, fun _ => ⟨fun u e y₁ y₂ _ => by omega, fun u y => by rw [w₇ u y, c₄ u y], ⟨by rw [w₃, c₂], fun h y₁ y₂ u y₃ => ?_⟩, fun k y => ⟨by rw [(w₂ k y).2.2.2.1, (c₇ k y).2.1], z k, 0, (c₇ k y).2.2.1, (w₂ k y).2.2.2.2, rfl, (c₇ k y).2.2.2.1, (c₇ k y).2.2.2.2⟩, by rw [w₄, c₅], by rw [w₆, c₆]⟩⟩, fun k y => (w₂ k y).2.1⟩
  · obtain ⟨g₁, g₂⟩ := c₁ (12 * L + c) (by omega)
    exact ⟨by rw [g₁]; exact (w₁ L c y₁ y₂).1, by rw [g₂]; exact (w₁ L c y₁ y₂).2, fun u => absurd g₁ u⟩
  · rw [(w₂ k y).1, (c₇ k y).2.2.1]
  · have g : h = 0 := (ccNinj (Eq.trans (Eq.symm y₁) c₂) (by omega) (by omega))
    omega
/-- a ghost of the class beside an empty World -/
theorem kwGst0 {mw : mMi} {B w l n lm dp cl bd : Nat} {z W : Nat → Nat} (hz : ∀ k, k < n → 1 ≤ z k ∧ z k ≤ 9) (wk : ccWok n W) (s : kwS mw B w l n lm dp cl bd) (ew : kwEw mw B n z W) : ∃ mc, kwJ mc mw 2 B w l n lm dp cl bd (fun k => N (z k)) (fun k => N (W k)) W true 0 0 := by
  obtain ⟨_, _, _, _, _, _, _, h₁, h₂, h₃, h₄, h₅, _, _, _, h₆⟩ := id s
  obtain ⟨mc, hm⟩ : ∃ mc : mMi, mc = fun f _ j p => if f = 0 then (if j = 2 ∨ j = 6 ∨ j = 13 then I (-1) else if j = 11 then N (z p) else N 0) else if j = 4 then N (W p) else if p = 0 then N w else if p = 1 then N l else if p = 4 then N n else N bd := ⟨_, rfl⟩
  refine ⟨mc, kwJ_init (by rw [hm]; exact ⟨rfl, rfl, rfl, h₁, h₂, h₃, h₄, h₅⟩) (by rw [hm]; rfl) h₆ ?_ (by rw [hm]; exact fun k _ => rfl) wk s ew⟩
  rw [hm]
  exact ⟨fun p _ => ⟨rfl, rfl⟩, rfl, rfl, fun _ _ => rfl, rfl, rfl, fun k y => ⟨rfl, rfl, rfl, (hz k y).1, (hz k y).2⟩⟩
