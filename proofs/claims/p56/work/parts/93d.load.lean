/-! THE CLASS LOADS WHAT THE WORLD TOLD. -/
theorem kwU_ag {n t B : Nat} {β : Nat → Int32} {bx : Bool} {m : mMi} {C D : Nat → Nat → Int32} (u : kwU n t β bx m B C) (hn : n ≤ 40) (q : ccAg C D) : kwU n t β bx m B D := by
  obtain ⟨u₁, u₂, ⟨u₃, a, h, u₄, u₅, u₆, u₆'⟩, u₇, u₈⟩ := u
  obtain ⟨a₁, a₂, a₃, a₄, a₅, a₆, a₇, a₈⟩ := q
  refine ⟨fun L c g₁ g₂ => ?_, fun k g₁ => ?_, ⟨by rw [a₄]; exact u₃, a, h, u₄, by rw [a₆]; exact u₅, u₆, u₆'⟩, by rw [a₄]; exact u₇, fun y => ?_⟩
  · rw [a₁ 2 _ (by omega) (by omega) (by omega), a₁ 3 _ (by omega) (by omega) (by omega), a₁ 4 _ (by omega) (by omega) (by omega), a₁ 5 _ (by omega) (by omega) (by omega), a₁ 6 _ (by omega) (by omega) (by omega)]
    exact u₁ L c g₁ g₂
  · obtain ⟨f₁, f₂⟩ := u₂ k g₁
    refine ⟨by rw [a₅ 11 k (by omega) (by omega) (by omega)]; exact f₁, ?_⟩
    rcases f₂ with f₂ | f₂
    · exact Or.inl f₂
    · refine Or.inr ?_
      unfold kwL at f₂ ⊢
      rw [a₅ 13 k (by omega) (by omega) (by omega)]
      rcases f₂ with f₂ | f₂ | ⟨L, c, x₁, x₂, x₃, x₄, x₅, x₆⟩
      · exact Or.inl f₂
      · exact Or.inr (Or.inl f₂)
      · refine Or.inr (Or.inr ⟨L, c, x₁, x₂, x₃, x₄, x₅, ?_⟩)
        rw [a₁ 2 _ (by omega) (by omega) (by omega), a₁ 3 _ (by omega) (by omega) (by omega), a₁ 6 _ (by omega) (by omega) (by omega)]
        exact x₆
  · obtain ⟨x₁, x₂, ⟨x₃, x₄⟩, x₅, x₆, x₇⟩ := u₈ y
    refine ⟨fun u e g₁ g₂ g₃ => by rw [a₂ _ (by omega)]; exact x₁ u e g₁ g₂ g₃, fun u g₁ => by rw [a₃ u g₁]; exact x₂ u g₁, ⟨by rw [a₆]; exact x₃, fun h g₁ g₂ u g₃ => ?_⟩, fun k g₁ => ?_, by rw [a₇]; exact x₆, by rw [a₈]; exact x₇⟩
    · rw [a₆] at g₁
      rw [a₅ 14 u (by omega) (by omega) (by omega)]
      exact x₄ h g₁ g₂ u g₃
    · rw [a₅ 12 k (by omega) (by omega) (by omega), a₅ 11 k (by omega) (by omega) (by omega)]
      exact x₅ k g₁
theorem kwJ_cp {mc mw M : mMi} {B w l n lm dp cl bd h : Nat} {β wt : Nat → Int32} {W : Nat → Nat} {bx : Bool} (q : kwJ mc mw 2 B w l n lm dp cl bd β wt W bx h 0) (a : ccAg (mc 0 2) (M 0 0)) (s : ∀ p, p < 6 → M 1 0 1 p = mc 1 1 1 p) (s₄ : M 1 0 0 4 = mc 1 1 0 4) (ws : ∀ k, k < n → M 1 0 4 k = mc 1 1 4 k) : kwJ M mw 0 B w l n lm dp cl bd β wt W bx h 0 := by
  obtain ⟨⟨mm, ⟨q₁, q₂, q₃, q₄, q₅, q₆, q₇, q₈⟩, a₁, a₂, a₃, a₄⟩, s₀, u₀, w₀⟩ := q
  have e₀ : RO 0 = 0 := rfl
  have e₂ : RO 2 = 1 := rfl
  rw [e₂] at q₁ q₂ a₂
  have hn : n ≤ 40 := q₁.2.2.2.2.2.2.2
  have pc := ccPcs_le (C := M 0 0)
  refine ⟨⟨mm, ⟨?_, ?_, q₃, q₄, q₅, ccR_ag q₆ hn a ccAr_rfl, ccPlc_ag q₇ a, by omega⟩, ccStd_ag a₁ a, fun k g => ?_, a₃, a₄⟩, s₀, kwU_ag u₀ hn a, w₀⟩
  · rw [e₀]
    unfold ccRu at q₁ ⊢
    rw [s 0 (by omega), s 1 (by omega), s₄]
    exact q₁
  · rw [e₀, s 5 (by omega)]
    exact q₂
  · rw [e₀, ws k g]
    exact a₂ k g
theorem kwOpM_st {B : Nat} {o : Nat × Nat × Nat × Nat × Nat × Nat} {m : mMi} : kwSt B m (kwOpM B o m) := by
  unfold kwOpM
  by_cases g : o.1 = 0
  · rw [if_pos g]
    exact kwMe_fr.2
  · rw [if_neg g]
    exact kwMl_fr.2
theorem kwOps_st {B w l n : Nat} {M : mMi} : ∀ os m, kwOps B w l n os m M → kwSt B m M := by
  intro os
  induction os with
  | nil => intro m q; exact fun j p _ => q 6 j p (Or.inl rfl)
  | cons o os h =>
    intro m q
    obtain ⟨m₁, k₁, k₂, k₃⟩ := q
    exact kwSt_trans kwOpM_st (kwSt_trans (fun j p _ => k₂ 6 j p (Or.inl rfl)) (h m₁ k₃))
theorem kwFwLd {m mw₀ mwK Mw : mMi} {r : mRs} {b : Nat → Nat} {L e B w l n lm dp cl bd : Nat} {z W : Nat → Nat} {os : List (Nat × Nat × Nat × Nat × Nat × Nat)} (q : ccBt m e b) (hL : L ≤ e) (lim : ccLim m) (x : kwTl b L 0 (kwText (kwSg w l lm dp cl bd) z W n os)) (hb : 2 ≤ w ∧ w ≤ 12 ∧ 1 ≤ l ∧ l ≤ 8 ∧ 1 ≤ lm ∧ lm ≤ 99 ∧ dp ≤ 9 ∧ cl ≤ 20 ∧ bd ≤ 8 ∧ n ≤ 20 ∧ os.length ≤ 14) (hz : ∀ k, k < n → 1 ≤ z k ∧ z k ≤ 9 ∧ 1 ≤ W k ∧ W k ≤ 9) (s : kwS mw₀ B w l n lm dp cl bd) (ew : kwEw mw₀ B n z W) (ops : kwOps B w l n os mw₀ mwK) (hr : r.2.1.1 B = true) (set : H185 B mwK r = rV Mw r) (rows : ∀ f j p, f = 6 ∨ (20 ≤ f ∧ f ≤ 25) → m f B j p = Mw f B j p) (kp : m 2 5 0 2 = N 0) : ∃ M, (∀ rs, F104 (N L) m rs = rI (N n) M rs) ∧ kwT M B w l n lm dp cl bd (fun k => N (z k)) W 192 ∧ kwZ M 0 ∧ kwNms M n ∧ M 2 3 0 3 = N 0 ∧ M 2 3 0 4 = I (-1) ∧ ∀ f a j i, f ≠ 0 → f ≠ 1 → f ≠ 2 → M f a j i = m f a j i := by
  have q₀ := q.1
  have ck : ∀ rs, F105 (N L) m rs = rV m rs := fun rs => by
    unfold F105
    rw [q.2.1, N_add, ccE106 (by omega) (by omega), if_pos (by omega), ccBv]
  obtain ⟨mc₁, a₁, J₁, a₃, a₄, a₅, a₆, a₇, a₈, a₉⟩ := kwFwT q hL lim x hb hz s ew ops
  obtain ⟨b₁, b₂, b₃, b₄, b₅, b₆, b₇, b₈, b₉, b₁₀, b₁₁⟩ := hb
  obtain ⟨M₁, hM₁⟩ : ∃ M₁, M₁ = mset mc₁ 2 1 0 1 (N 0) := ⟨_, rfl⟩
  have s₁ : ∀ f a j p, ¬ (f = 2 ∧ a = 1 ∧ j = 0 ∧ p = 1) → M₁ f a j p = mc₁ f a j p := fun f a j p y₁ => by rw [hM₁, ccRd, if_neg (by omega)]
  obtain ⟨M₂, h₁, h₂, h₃, h₄, h₅⟩ := ccE82 (m := M₁)
  obtain ⟨M₃, i₁, i₂, i₃⟩ := ccE18 (m := M₂) (i := 0) (i₂ := 2) (by omega)
  have rowC : M₂ 0 2 = mc₁ 0 2 := by
    funext j p
    rw [h₅ 0 2 j p (by omega), s₁ 0 2 j p (by omega)]
  rw [rowC] at i₃
  have set₃ : ∀ p, p < 6 → M₃ 1 0 1 p = mc₁ 1 1 1 p := fun p y₁ => by rw [i₂ 1 0 1 p (by omega), h₂ p y₁, s₁ 1 1 1 p (by omega)]
  have row₃ : ∀ j p, 2 ≤ j → j ≤ 4 → p < 40 → M₃ 1 0 j p = mc₁ 1 1 j p := fun j p y₁ y₂ y₃ => by rw [i₂ 1 0 j p (by omega), h₃ j p y₁ y₂ y₃, s₁ 1 1 j p (by omega)]
  have n₃ : M₃ 1 0 0 4 = N n := by rw [i₂ 1 0 0 4 (by omega), h₄, s₁ 1 1 0 4 (by omega)]; exact a₅
  have J₃ := kwJ_cp (M := M₃) J₁ i₃ set₃ (by rw [n₃, a₅]) (fun k y => row₃ 4 k (by omega) (by omega) (by omega))
  have Q : ccQn (N lm) (mc₁ 0 2) := by
    refine ⟨fun p y₁ => ?_, fun p y₁ y₂ => ?_⟩
    · unfold ccBdw ccP
      by_cases y₂ : mc₁ 0 2 2 p = I (-1)
      · rw [decide_eq_true y₂, Bool.not_true, Bool.false_and]
      · have y₃ : ¬ N lm < N 0 := by rw [N_lt (by omega) (by omega)]; omega
        rw [(a₆ p y₁ y₂).2, decide_eq_false y₃, Bool.and_false]
    · obtain ⟨y₃, y₄⟩ := a₆ p y₁ y₂
      exact ⟨y₃, 0, y₄, by omega⟩
  obtain ⟨M₄, Y, u, v, k₁, k₂, k₃, k₄, k₅, k₆, k₆', k₇, _⟩ := kwE19 J₃
  have eY : Y = Mw := rV_inj (by rw [← k₂ r hr, set])
  obtain ⟨M₇, hM₇⟩ : ∃ M₇, M₇ = mset (mset (mset (mset M₄ 2 5 0 1 (N 0)) 2 6 1 0 (N 0)) 2 6 1 1 (N 0)) 2 0 0 10 (N 1) := ⟨_, rfl⟩
  have s₇ : ∀ f a j p, ¬ (f = 2 ∧ ((a = 5 ∧ j = 0 ∧ p = 1) ∨ (a = 6 ∧ j = 1 ∧ p < 2) ∨ (a = 0 ∧ j = 0 ∧ p = 10))) → M₇ f a j p = M₄ f a j p := fun f a j p y₁ => by rw [hM₇, ccRd, if_neg (by omega), ccRd, if_neg (by omega), ccRd, if_neg (by omega), ccRd, if_neg (by omega)]
  have row₇ : M₇ 0 0 = M₄ 0 0 := by
    funext j p
    exact s₇ 0 0 j p (by omega)
  have ru₇ : ∀ j p, M₇ 1 0 j p = M₃ 1 0 j p := fun j p => by rw [s₇ 1 0 j p (by omega), k₅ 1 0 j p (by omega) (by omega)]
  have fr₇ : ∀ f a j i, f ≠ 0 → f ≠ 1 → f ≠ 2 → M₇ f a j i = m f a j i := fun f a j i y₁ y₂ y₃ => by
    rw [s₇ f a j i (by omega), k₅ f a j i (by omega) (by omega), i₂ f a j i (by omega), h₅ f a j i (by omega), s₁ f a j i (by omega), a₉ f a j i (by omega) (by omega) (by omega) (by omega)]
  have fr₂ : ∀ a j i, a ≠ 2 → a ≠ 4 → ¬ (a = 5 ∧ j = 0 ∧ i = 1) → ¬ (a = 6 ∧ j = 1 ∧ i < 2) → ¬ (a = 0 ∧ j = 0 ∧ i = 10) → ¬ (a = 1 ∧ j = 0 ∧ i = 1) → M₇ 2 a j i = mc₁ 2 a j i := fun a j i y₁ y₂ y₃ y₄ y₅ y₆ => by
    rw [s₇ 2 a j i (by omega), k₅ 2 a j i (by omega) (by omega), i₂ 2 a j i (by omega), h₅ 2 a j i (by omega), s₁ 2 a j i (by omega)]
  have J₇ : kwJ M₇ M₇ 0 B w l n lm dp cl bd (fun k => N (z k)) (fun k => N (W k)) W true u v := kwJ_cg k₃ row₇ (fun j p => by rw [s₇ 1 0 j p (by omega)]) (fun f j p y => by
    rw [fr₇ f B j p (by omega) (by omega) (by omega), eY]
    exact rows f j p y)
  have hv := kwG_le k₄
  have tm : M₄ 0 0 0 5 = N 0 := by
    have y₁ := (k₃.2.2.1.2.2.2.2 rfl).2.2.2.2.1
    have y₂ := k₆' 0 19 (by omega)
    have y₃ := kwOps_st os mw₀ ops 0 19 (by omega)
    rw [← y₁, y₂, y₃]
    exact ew.2.2.2.1
  refine ⟨M₇, fun rs => ?_, ⟨u, v, J₇, ?_, fun k y => ?_, ⟨?_, ?_, ?_, ?_⟩, ?_, ?_, by omega, 0, 0, by omega, by omega, ?_, ?_⟩, ⟨0, by rw [row₇]; exact tm, by omega⟩, ⟨b₁₀, fun k y => by rw [ru₇, row₃ 2 k (by omega) (by omega) (by omega)]; exact (a₄ k y).1⟩, ?_, ?_, fr₇⟩
  · obtain ⟨f, hf⟩ := ccFU (k := 2) (by omega)
    have z₁ : ¬ N 2 ≤ N 0 := by rw [N_le (by omega) (by omega)]; omega
    have z₂ : ¬ N 2 ≤ N (0 + 1) := by rw [N_le (by omega) (by omega)]; omega
    have z₃ : N 2 ≤ N (0 + 1 + 1) := by rw [N_le (by omega) (by omega)]; omega
    have z₄ : f + 2 + 1 = f + 1 + 1 + 1 := by omega
    have z₅ : mset (mset (mset M₄ 2 5 0 1 (N 0)) 2 6 1 0 (N 0)) 2 6 1 (0 + 1) (N 0) 1 0 0 4 = N n := by
      rw [ccRd, if_neg (by omega), ccRd, if_neg (by omega), ccRd, if_neg (by omega), k₅ 1 0 0 4 (by omega) (by omega)]
      exact n₃
    unfold F104
    rw [ck, ccBv, a₁, ccBi, ← hM₁]
    unfold F107
    rw [ccIf1, ccBv, h₁, ccBv, i₁, ccBv, k₁, ccBi, hf, z₄, ccL104_72, ccIte, if_neg z₁, ccMckIn (by omega) (by omega), mix_N (by omega), N_add, ccL104_72, ccIte, if_neg z₂, ccMckIn (by omega) (by omega), mix_N (by omega), N_add, ccL104_72, ccIte, if_pos z₃, z₅, hM₇]
  · rw [hM₇, ccRd, if_pos ⟨rfl, rfl, rfl, rfl⟩]
  · rw [ru₇, row₃ 3 k (by omega) (by omega) (by omega)]
    exact (a₄ k y).2.1
  · rw [ru₇, set₃ 2 (by omega), a₃ 2 (by omega)]
    rfl
  · rw [ru₇, set₃ 3 (by omega), a₃ 3 (by omega)]
    rfl
  · rw [ru₇, set₃ 4 (by omega), a₃ 4 (by omega)]
    rfl
  · rw [ru₇, set₃ 5 (by omega), a₃ 5 (by omega)]
    rfl
  · rw [row₇]
    exact k₇
  · rw [row₇]
    exact ccQn_G k₄ (ccQn_ag i₃ Q)
  · rw [hM₇, ccRd, if_neg (by omega), ccRd, if_neg (by omega), ccRd, if_neg (by omega), ccRd, if_pos ⟨rfl, rfl, rfl, rfl⟩]
  · rw [fr₂ 5 0 2 (by omega) (by omega) (by omega) (by omega) (by omega) (by omega), a₉ 2 5 0 2 (by omega) (by omega) (by omega) (by omega)]
    exact kp
  · rw [fr₂ 3 0 3 (by omega) (by omega) (by omega) (by omega) (by omega) (by omega)]
    exact a₇
  · rw [fr₂ 3 0 4 (by omega) (by omega) (by omega) (by omega) (by omega) (by omega)]
    exact a₈
