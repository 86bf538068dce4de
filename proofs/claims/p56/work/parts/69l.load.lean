/-! LOAD: the two sides together, over any memory of the reference. -/
def ccLdC (m Y : mMi) (w l n bd lm dp cl : Nat) (β : Nat → Int32) (W : Nat → Nat) : Prop :=
  ccRu m 0 w l n ∧ ccMo Y w l n ∧ (m 1 0 1 5 = N bd ∧ Y 4 0 0 7 = N bd ∧ bd ≤ 8) ∧ (m 1 0 1 2 = N lm ∧ Y 4 0 0 4 = N lm ∧ lm ≤ 99) ∧ (m 1 0 1 3 = N dp ∧ Y 4 0 0 5 = N dp ∧ dp ≤ 9) ∧ (m 1 0 1 4 = N cl ∧ Y 4 0 0 6 = N cl ∧ cl ≤ 20) ∧
  (∀ k, k < n → m 1 0 4 k = N (W k)) ∧ (∀ k, k < n → Y 4 0 2 k = N (W k)) ∧ ccWok n W ∧ (∀ k, k < n → m 1 0 3 k = β k) ∧
  (∀ k, k < n → ∃ g e, 1 ≤ e ∧ e ≤ 6 ∧ (∀ i, i < e → 97 ≤ g i ∧ g i ≤ 122 ∧ Y 4 0 1 (6 * k + i) = N (g i)) ∧ (∀ i, e ≤ i → i < 6 → Y 4 0 1 (6 * k + i) = N 0) ∧ m 1 0 2 k = N (ccNum g e)) ∧ ccKK w l n lm β W 192 (m 0 0) (Y 4 0 3)
def ccFrL (m m₁ : mMi) : Prop := ∀ f a j q, ¬ (f = 2 ∧ (a = 4 ∨ a = 2)) → ¬ (f = 2 ∧ a = 3 ∧ j = 0 ∧ 3 ≤ q ∧ q ≤ 6) → ¬ (f = 1) → ¬ (f = 0 ∧ (a = 0 ∨ a = 2)) → ¬ (f = 2 ∧ a = 1 ∧ j = 0 ∧ q = 1) → ¬ (f = 2 ∧ a = 5 ∧ j = 0 ∧ q = 1) → ¬ (f = 2 ∧ a = 6 ∧ j = 1 ∧ q < 2) → ¬ (f = 2 ∧ a = 0 ∧ j = 0 ∧ q = 10) → m₁ f a j q = m f a j q
theorem ccE82 {m : mMi} : ∃ m₁, (∀ rs, F82 0 1 m rs = rV m₁ rs) ∧ (∀ p, p < 6 → m₁ 1 0 1 p = m 1 1 1 p) ∧ (∀ j p, 2 ≤ j → j ≤ 4 → p < 40 → m₁ 1 0 j p = m 1 1 j p) ∧ m₁ 1 0 0 4 = m 1 1 0 4 ∧ ∀ f a j p, ¬ (f = 1 ∧ a = 0) → m₁ f a j p = m f a j p := by
  refine ⟨mset (mcopy (mcopy (mcopy (mcopy m 1 1 1 0 1 0 1 0 6) 1 1 2 0 1 0 2 0 40) 1 1 3 0 1 0 3 0 40) 1 1 4 0 1 0 4 0 40) 1 0 0 4 (m 1 1 0 4), fun rs => rfl, fun p y₁ => ?_, fun j p y₁ y₂ y₃ => ?_, ?_, fun f a j p y₁ => ?_⟩
  · rw [ccRd, if_neg (by omega), ccCopy, if_neg (by omega), ccCopy, if_neg (by omega), ccCopy, if_neg (by omega), ccCopy, if_pos ⟨rfl, rfl, rfl, y₁⟩]
  · have y₄ : j = 2 ∨ j = 3 ∨ j = 4 := by omega
    rcases y₄ with y₄ | y₄ | y₄ <;> subst y₄
    · rw [ccRd, if_neg (by omega), ccCopy, if_neg (by omega), ccCopy, if_neg (by omega), ccCopy, if_pos ⟨rfl, rfl, rfl, y₃⟩, ccCopy, if_neg (by omega)]
    · rw [ccRd, if_neg (by omega), ccCopy, if_neg (by omega), ccCopy, if_pos ⟨rfl, rfl, rfl, y₃⟩, ccCopy, if_neg (by omega), ccCopy, if_neg (by omega)]
    · rw [ccRd, if_neg (by omega), ccCopy, if_pos ⟨rfl, rfl, rfl, y₃⟩, ccCopy, if_neg (by omega), ccCopy, if_neg (by omega), ccCopy, if_neg (by omega)]
  · rw [ccRd, if_pos ⟨rfl, rfl, rfl, rfl⟩]
  · rw [ccRd, if_neg (by omega), ccCopy, if_neg (by omega), ccCopy, if_neg (by omega), ccCopy, if_neg (by omega), ccCopy, if_neg (by omega)]
theorem ccLoadJ {m mm : mMi} {b : Nat → Nat} {L e : Nat} (q : ccBt m e b) (q₂ : ccBm mm e b) (hL : L ≤ e) (lim : ccLim m) :
    (∃ w l n bd lm dp cl β W m₁ mm₁ X Y, (∀ rs, F104 (N L) m rs = rI (N n) m₁ rs) ∧ (∀ rs, F180 (N L) mm rs = rV mm₁ rs) ∧ mm₁ 4 0 0 25 = N 0 ∧ ccFrB mm mm₁ ∧ X = mset (mset (mset mm₁ 4 0 0 18 (N 0)) 4 0 0 19 (I (-1))) 4 0 0 1 (N 1) ∧ (∀ rs, F212 X rs = rV Y rs) ∧ ccFq X Y ∧ ccLdC m₁ Y w l n bd lm dp cl β W ∧ ccFrL m m₁ ∧ m₁ 2 1 0 1 = N 0 ∧ m₁ 2 5 0 1 = N 0 ∧ m₁ 2 6 1 0 = N 0 ∧ m₁ 2 6 1 1 = N 0 ∧ m₁ 2 0 0 10 = N 1 ∧ m₁ 2 3 0 3 = N 0 ∧ m₁ 2 3 0 4 = I (-1)) ∨
    (∃ m₁ mm₁, (∀ rs, F104 (N L) m rs = rX 3 m₁ (rsT rs)) ∧ (∀ rs, F180 (N L) mm rs = rV mm₁ rs) ∧ ccErd m₁ mm₁ ∧ ccFrB mm mm₁ ∧ m₁ 2 1 0 1 = N 0 ∧ ∀ f a j i, ¬ (f = 2 ∧ a = 4) → ¬ (f = 2 ∧ a = 3 ∧ j = 0 ∧ 3 ≤ i ∧ i ≤ 6) → ¬ (f = 1 ∧ a = 1) → ¬ (f = 0 ∧ a = 2) → ¬ (f = 2 ∧ a = 1 ∧ j = 0 ∧ i = 1) → m₁ f a j i = m f a j i) := by
  have q₀ := q.1
  have ck : ∀ rs, F105 (N L) m rs = rV m rs := fun rs => by
    unfold F105
    rw [q.2.1, N_add, ccE106 (by omega) (by omega), if_pos (by omega), ccBv]
  rcases ccParse q q₂ hL lim with ⟨w, l, n, bd, lm, dp, cl, β, W, mc₁, mm₁, a₁, a₂, a₃, a₄, a₅, a₆, a₇, a₈, a₉⟩ | ⟨mc₁, mm₁, a₁, a₂, a₃, a₄, a₅⟩
  rotate_left
  · obtain ⟨k, z, z₁, z₂, z₃, z₄, z₅, z₆, z₇⟩ := a₃
    refine Or.inr ⟨mset mc₁ 2 1 0 1 (N 0), mm₁, fun rs => ?_, a₂, ⟨k, z, z₁, z₂, z₃, by rw [ccRd, if_neg (by omega)]; exact z₄, by rw [ccRd, if_neg (by omega)]; exact z₅, z₆, z₇⟩, a₅, by rw [ccRd, if_pos ⟨rfl, rfl, rfl, rfl⟩], fun f a j i y₁ y₂ y₃ y₄ y₅ => by rw [ccRd, if_neg (by omega), a₄ f a j i y₁ y₂ y₃ y₄]⟩
    unfold F104
    rw [ck, ccBv, a₁, ccBi]
    rfl
  obtain ⟨⟨r₁, r₂, r₃, r₄⟩, mo, ⟨c₁, c₂, c₃⟩, ⟨d₁, d₂, d₃⟩, ⟨d₄, d₅, d₆⟩, ⟨d₇, d₈, d₉⟩, e₁, ⟨e₂, e₃⟩, ⟨f₁, f₂, f₃⟩, g₁, g₂, g₃, g₄⟩ := a₃
  have b₃ : n ≤ 40 := r₄.2.2.2.2
  obtain ⟨M₁, hM₁⟩ : ∃ M₁, M₁ = mset mc₁ 2 1 0 1 (N 0) := ⟨_, rfl⟩
  have s₁ : ∀ f a j p, ¬ (f = 2 ∧ a = 1 ∧ j = 0 ∧ p = 1) → M₁ f a j p = mc₁ f a j p := fun f a j p y₁ => by rw [hM₁, ccRd, if_neg (by omega)]
  obtain ⟨M₂, h₁, h₂, h₃, h₄, h₅⟩ := ccE82 (m := M₁)
  obtain ⟨M₃, i₁, i₂, i₃⟩ := ccE18 (m := M₂) (i := 0) (i₂ := 2) (by omega)
  have rowC : M₂ 0 2 = mc₁ 0 2 := by
    funext j p
    rw [h₅ 0 2 j p (by omega), s₁ 0 2 j p (by omega)]
  rw [rowC] at i₃
  have set₃ : ∀ p, p < 6 → M₃ 1 0 1 p = mc₁ 1 1 1 p := fun p y₁ => by rw [i₂ 1 0 1 p (by omega), h₂ p y₁, s₁ 1 1 1 p (by omega)]
  have row₃ : ∀ j p, 2 ≤ j → j ≤ 4 → p < 40 → M₃ 1 0 j p = mc₁ 1 1 j p := fun j p y₁ y₂ y₃ => by rw [i₂ 1 0 j p (by omega), h₃ j p y₁ y₂ y₃, s₁ 1 1 j p (by omega)]
  have n₃ : M₃ 1 0 0 4 = N n := by rw [i₂ 1 0 0 4 (by omega), h₄, s₁ 1 1 0 4 (by omega)]; exact r₃
  obtain ⟨X, hX⟩ : ∃ X, X = mset (mset (mset mm₁ 4 0 0 18 (N 0)) 4 0 0 19 (I (-1))) 4 0 0 1 (N 1) := ⟨_, rfl⟩
  have fX : ∀ f a j p, ¬ (f = 4 ∧ a = 0 ∧ j = 0 ∧ (p = 1 ∨ p = 18 ∨ p = 19)) → X f a j p = mm₁ f a j p := fun f a j p y₁ => by rw [hX, ccRd, if_neg (by omega), ccRd, if_neg (by omega), ccRd, if_neg (by omega)]
  have rowX : X 4 0 3 = mm₁ 4 0 3 := by
    funext p
    exact fX 4 0 3 p (by omega)
  have moX : ccMo X w l n := ⟨by rw [fX 4 0 0 2 (by omega)]; exact mo.1, by rw [fX 4 0 0 3 (by omega)]; exact mo.2.1, by rw [fX 4 0 0 8 (by omega)]; exact mo.2.2.1, mo.2.2.2⟩
  have pc := ccPcs_le (C := M₃ 0 0)
  have J : ccJ M₃ X 0 w l n bd β (fun k => N (W k)) W 0 0 := by
    refine ⟨⟨⟨by rw [show RO 0 = 0 from rfl, set₃ 0 (by omega)]; exact r₁, by rw [show RO 0 = 0 from rfl, set₃ 1 (by omega)]; exact r₂, n₃, r₄⟩, by rw [show RO 0 = 0 from rfl, set₃ 5 (by omega)]; exact c₁, moX, by rw [fX 4 0 0 7 (by omega)]; exact c₂, c₃, ?_, ccPlc_ag e₂ i₃, by omega⟩, ccStd_ag e₃ i₃, fun k y₁ => ?_, fun k y₁ => ?_, f₃⟩
    · rw [rowX]
      exact ccR_ag e₁ b₃ i₃ ccAr_rfl
    · rw [show RO 0 = 0 from rfl, row₃ 4 k (by omega) (by omega) (by omega)]
      exact f₁ k y₁
    · rw [fX 4 0 2 k (by omega)]
      exact f₂ k y₁
  have Q : ccQn (N lm) (mc₁ 0 2) := by
    refine ⟨fun p y₁ => ?_, fun p y₁ y₂ => ?_⟩
    · unfold ccBdw ccP
      by_cases y₂ : mc₁ 0 2 2 p = I (-1)
      · rw [decide_eq_true y₂, Bool.not_true, Bool.false_and]
      · have y₃ : ¬ N lm < N 0 := by rw [N_lt (by omega) (by omega)]; omega
        rw [(g₃ p y₁ y₂).2, decide_eq_false y₃, Bool.and_false]
    · obtain ⟨y₃, y₄⟩ := g₃ p y₁ y₂
      exact ⟨y₃, 0, y₄, by omega⟩
  obtain ⟨M₄, Y, u, v, k₁, k₂, k₃, k₄, k₅, k₆, k₇, _⟩ := ccE19 J
  obtain ⟨M₇, hM₇⟩ : ∃ M₇, M₇ = mset (mset (mset (mset M₄ 2 5 0 1 (N 0)) 2 6 1 0 (N 0)) 2 6 1 1 (N 0)) 2 0 0 10 (N 1) := ⟨_, rfl⟩
  have s₇ : ∀ f a j p, ¬ (f = 2 ∧ ((a = 5 ∧ j = 0 ∧ p = 1) ∨ (a = 6 ∧ j = 1 ∧ p < 2) ∨ (a = 0 ∧ j = 0 ∧ p = 10))) → M₇ f a j p = M₄ f a j p := fun f a j p y₁ => by rw [hM₇, ccRd, if_neg (by omega), ccRd, if_neg (by omega), ccRd, if_neg (by omega), ccRd, if_neg (by omega)]
  have row₇ : M₇ 0 0 = M₄ 0 0 := by
    funext j p
    exact s₇ 0 0 j p (by omega)
  have ru₇ : ∀ j p, M₇ 1 0 j p = M₃ 1 0 j p := fun j p => by rw [s₇ 1 0 j p (by omega), k₅ 1 0 j p (by omega) (by omega)]
  have mY : ∀ j p, j ≠ 3 → j ≠ 12 → j ≠ 13 → j ≠ 14 → ¬ (j = 0 ∧ (p = 34 ∨ p = 1 ∨ p = 18 ∨ p = 19)) → Y 4 0 j p = mm₁ 4 0 j p := fun j p y₁ y₂ y₃ y₄ y₅ => by rw [k₆ 4 0 j p (by omega) (by omega), fX 4 0 j p (by omega)]
  obtain ⟨⟨j₁, j₂, j₃, j₄, j₅, j₆, j₇, j₈⟩, t₁, t₂, t₃, t₄⟩ := k₃
  refine Or.inl ⟨w, l, n, bd, lm, dp, cl, β, W, M₇, mm₁, X, Y, fun rs => ?_, a₂, a₄, a₉, hX, k₂, k₆, ⟨⟨?_, ?_, ?_, r₄⟩, j₃, ⟨?_, j₄, c₃⟩, ⟨?_, ?_, d₃⟩, ⟨?_, ?_, d₆⟩, ⟨?_, ?_, d₉⟩, fun k y₁ => ?_, t₃, f₃, fun k y₁ => ?_, fun k y₁ => ?_, ?_⟩, fun f a j p y₁ y₂ y₃ y₄ y₅ y₆ y₇ y₈ => ?_, ?_, ?_, ?_, ?_, ?_, ?_, ?_⟩
  · obtain ⟨f, hf⟩ := ccFU (k := 2) (by omega)
    have z₁ : ¬ N 2 ≤ N 0 := by rw [N_le (by omega) (by omega)]; omega
    have z₂ : ¬ N 2 ≤ N (0 + 1) := by rw [N_le (by omega) (by omega)]; omega
    have z₃ : N 2 ≤ N (0 + 1 + 1) := by rw [N_le (by omega) (by omega)]; omega
    have z₄ : f + 2 + 1 = f + 1 + 1 + 1 := by omega
    have z₅ : mset (mset (mset M₄ 2 5 0 1 (N 0)) 2 6 1 0 (N 0)) 2 6 1 (0 + 1) (N 0) 1 0 0 4 = N n := by
      rw [ccRd, if_neg (by omega), ccRd, if_neg (by omega), ccRd, if_neg (by omega), k₅ 1 0 0 4 (by omega) (by omega)]
      exact n₃
    unfold F104
    rw [ck, ccBv, a₁, ccBi, ← hM₁]
    unfold F107
    rw [ccIf1, ccBv, h₁, ccBv, i₁, ccBv, k₁, ccBi, hf, z₄, ccL104_72, ccIte, if_neg z₁, ccMckIn (by omega) (by omega), mix_N (by omega), N_add, ccL104_72, ccIte, if_neg z₂, ccMckIn (by omega) (by omega), mix_N (by omega), N_add, ccL104_72, ccIte, if_pos z₃, z₅, hM₇]
  · rw [ru₇, set₃ 0 (by omega)]
    exact r₁
  · rw [ru₇, set₃ 1 (by omega)]
    exact r₂
  · rw [ru₇]
    exact n₃
  · rw [ru₇, set₃ 5 (by omega)]
    exact c₁
  · rw [ru₇, set₃ 2 (by omega)]
    exact d₁
  · rw [mY 0 4 (by omega) (by omega) (by omega) (by omega) (by omega)]
    exact d₂
  · rw [ru₇, set₃ 3 (by omega)]
    exact d₄
  · rw [mY 0 5 (by omega) (by omega) (by omega) (by omega) (by omega)]
    exact d₅
  · rw [ru₇, set₃ 4 (by omega)]
    exact d₇
  · rw [mY 0 6 (by omega) (by omega) (by omega) (by omega) (by omega)]
    exact d₈
  · rw [ru₇, row₃ 4 k (by omega) (by omega) (by omega)]
    exact f₁ k y₁
  · rw [ru₇, row₃ 3 k (by omega) (by omega) (by omega)]
    exact g₁ k y₁
  · obtain ⟨g, i, x₁, x₂, x₃, x₄, x₅⟩ := g₂ k y₁
    exact ⟨g, i, x₁, x₂, fun o z₁ => ⟨(x₃ o z₁).1, (x₃ o z₁).2.1, by rw [mY 1 _ (by omega) (by omega) (by omega) (by omega) (by omega)]; exact (x₃ o z₁).2.2⟩, fun o z₁ z₂ => by rw [mY 1 _ (by omega) (by omega) (by omega) (by omega) (by omega)]; exact x₄ o z₁ z₂, by rw [ru₇, row₃ 2 k (by omega) (by omega) (by omega)]; exact x₅⟩
  · rw [row₇]
    have z₁ := k₄.2
    exact ⟨u, v, j₆, j₇, t₁, k₇, ccQn_G k₄ (ccQn_ag i₃ Q), by omega⟩
  · rw [s₇ f a j p (by omega), k₅ f a j p (by omega) (by omega), i₂ f a j p (by omega), h₅ f a j p (by omega), s₁ f a j p (by omega), a₈ f a j p (by omega) y₂ (by omega) (by omega)]
  · rw [s₇ 2 1 0 1 (by omega), k₅ 2 1 0 1 (by omega) (by omega), i₂ 2 1 0 1 (by omega), h₅ 2 1 0 1 (by omega), hM₁, ccRd, if_pos ⟨rfl, rfl, rfl, rfl⟩]
  · rw [hM₇, ccRd, if_neg (by omega), ccRd, if_neg (by omega), ccRd, if_neg (by omega), ccRd, if_pos ⟨rfl, rfl, rfl, rfl⟩]
  · rw [hM₇, ccRd, if_neg (by omega), ccRd, if_neg (by omega), ccRd, if_pos ⟨rfl, rfl, rfl, rfl⟩]
  · rw [hM₇, ccRd, if_neg (by omega), ccRd, if_pos ⟨rfl, rfl, rfl, rfl⟩]
  · rw [hM₇, ccRd, if_pos ⟨rfl, rfl, rfl, rfl⟩]
  · rw [s₇ 2 3 0 3 (by omega), k₅ 2 3 0 3 (by omega) (by omega), i₂ 2 3 0 3 (by omega), h₅ 2 3 0 3 (by omega), s₁ 2 3 0 3 (by omega)]
    exact a₆
  · rw [s₇ 2 3 0 4 (by omega), k₅ 2 3 0 4 (by omega) (by omega), i₂ 2 3 0 4 (by omega), h₅ 2 3 0 4 (by omega), s₁ 2 3 0 4 (by omega)]
    exact a₇
