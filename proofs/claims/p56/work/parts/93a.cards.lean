/-! THE CLASS READS WHAT THE WORLD TOLD: settings and cards. -/
def kwSetF (σ : Nat → Nat) : Nat → Nat → List Nat
  | _, 0 => []
  | i, d + 1 => [32] ++ (ccNl (σ i) ++ kwSetF σ (i + 1) d)
theorem kwSep_a {u t : List Nat} (h : u = [] → kwSep t) (h₁ : kwSep u) : kwSep (u ++ t) := by
  cases u with
  | nil => exact h rfl
  | cons x u => exact h₁
theorem kwSetF_s {σ : Nat → Nat} : ∀ d i, kwSep (kwSetF σ i d) := by
  intro d i
  cases d with
  | zero => exact True.intro
  | succ d => exact Or.inl rfl
theorem kwFwH {m : mMi} {b : Nat → Nat} {L e : Nat} {σ : Nat → Nat} {t : List Nat} (k : kwSep t) (hσ : ∀ u, u < 6 → ccLo u ≤ σ u ∧ σ u ≤ ccUp u) : ∀ d i (m : mMi) (p : Nat), i + d = 6 → ccCx m b L e p → kwTl b L p (kwSetF σ i d ++ t) → ccLim m → (∀ u, u < i → m 1 1 1 u = N (σ u)) → ∃ m₁ p₁, (∀ f rs, F68_27 (f + d + 1) (N i) m rs = rI (N 1) m₁ rs) ∧ ccCx m₁ b L e p₁ ∧ kwTl b L p₁ t ∧ (∀ u, u < 6 → m₁ 1 1 1 u = N (σ u)) ∧ ccFcH m m₁ := by
  intro d
  induction d with
  | zero =>
    intro i m p g₁ c x _ ti
    have e₁ : i = 6 := by omega
    subst e₁
    have e₂ : N 6 ≤ N 6 := by rw [N_le (by omega) (by omega)]; omega
    exact ⟨m, p, fun f rs => by rw [ccL68_27, ccIte, if_pos e₂], c, x, ti, fun _ _ _ _ _ _ _ => rfl⟩
  | succ d h =>
    intro i m p g₁ c x lim ti
    have e₂ : ¬ N 6 ≤ N i := by rw [N_le (by omega) (by omega)]; omega
    have lb := ccLo_b (i := i)
    have ub := ccUp_b (i := i)
    obtain ⟨l₁, l₂⟩ := lim i (by omega)
    obtain ⟨s₁, s₂⟩ := hσ i (by omega)
    have x' : kwTl b L p ([32] ++ (ccNl (σ i) ++ (kwSetF σ (i + 1) d ++ t))) := by
      have y₁ : kwSetF σ i (d + 1) ++ t = [32] ++ (ccNl (σ i) ++ (kwSetF σ (i + 1) d ++ t)) := by
        show ([32] ++ (ccNl (σ i) ++ kwSetF σ (i + 1) d)) ++ t = _
        rw [List.append_assoc, List.append_assoc]
      rw [← y₁]
      exact x
    obtain ⟨m₁, p₁, s, a₁, a₂, a₃, a₄, _, a₅⟩ := kwRdN c x' (kwSep_a (fun _ => k) (kwSetF_s d (i + 1))) (by omega) s₁ (show N (σ i) ≤ N (ccUp i) by rw [N_le (by omega) (by omega)]; exact s₂)
    have k₁ : ccCx (mset m₁ 1 1 1 i (N (σ i))) b L e p₁ := ccCx_fr a₃ (fun j q _ => by rw [ccRd, if_neg (by omega)]) (fun q _ => by rw [ccRd, if_neg (by omega)]) (fun q _ => by rw [ccRd, if_neg (by omega)])
    have k₃ : ccLim (mset m₁ 1 1 1 i (N (σ i))) := fun u y₁ => by
      rw [ccRd, if_neg (by omega), ccRd, if_neg (by omega), a₅ 3 1 0 u (by omega) (by omega), a₅ 3 2 0 u (by omega) (by omega)]
      exact lim u y₁
    obtain ⟨m₂, p₂, b₁, b₂, b₃, b₄, b₅⟩ := h (i + 1) _ p₁ (by omega) k₁ a₄ k₃ (fun u y₁ => by
      by_cases y₂ : u = i
      · rw [y₂, ccRd, if_pos ⟨rfl, rfl, rfl, rfl⟩]
      · rw [ccRd, if_neg (by omega), a₅ 1 1 1 u (by omega) (by omega)]
        exact ti u (by omega))
    refine ⟨m₂, p₂, fun f rs => ?_, b₂, b₃, b₄, fun f a j q y₁ y₂ y₃ => ?_⟩
    · have e₄ : f + (d + 1) + 1 = f + d + 1 + 1 := by omega
      rw [e₄, ccL68_27, ccIte, if_neg e₂, ccMckIn (by omega) (by omega), ccMckIn (by omega) (by omega), mix_N (by omega), l₁, l₂, a₁, ccBi, ccIf1, ccMckIn (by omega) (by omega), a₂, N_add]
      exact b₁ f rs
    · rw [b₅ f a j q y₁ y₂ y₃, ccRd, if_neg (by omega), a₅ f a j q y₁ y₂]
theorem kwE68 {m : mMi} {b : Nat → Nat} {L e p : Nat} {σ : Nat → Nat} {t : List Nat} (k : kwSep t) (hσ : ∀ u, u < 6 → ccLo u ≤ σ u ∧ σ u ≤ ccUp u) (c : ccCx m b L e p) (x : kwTl b L p ([116, 97, 98, 108, 101] ++ (kwSetF σ 0 6 ++ t))) (lim : ccLim m) : ∃ m₁ p₁, (∀ rs, F68 m rs = rI (N 1) m₁ rs) ∧ ccCx m₁ b L e p₁ ∧ kwTl b L p₁ t ∧ (∀ u, u < 6 → m₁ 1 1 1 u = N (σ u)) ∧ ccFcH m m₁ := by
  obtain ⟨m₁, p₁, a₁, a₂, a₃, a₄, a₅⟩ := kwRdW c x (kwSep_a (fun _ => k) (kwSetF_s 6 0)) (by show 1 ≤ 5; omega) (by show 5 ≤ 6; omega) (by decide)
  have g := a₂ 1 (by omega)
  have g₁ : (decide (([116, 97, 98, 108, 101] : List Nat).length = (mTxt 1).length) && ccWq (mTxt 1) (fun i => ([116, 97, 98, 108, 101] : List Nat).getD i 0) (mTxt 1).length 0) = true := by decide
  obtain ⟨m₂, p₂, b₁, b₂, b₃, b₄, b₅⟩ := kwFwH (m := m₁) k hσ 6 0 m₁ p₁ (by omega) a₃ a₄ (fun u y => by rw [a₅ 3 1 0 u (by omega) (by omega), a₅ 3 2 0 u (by omega) (by omega)]; exact lim u y) (fun u y => by omega)
  obtain ⟨f, hf⟩ := ccFU (k := 6) (by omega)
  refine ⟨m₂, p₂, fun rs => ?_, b₂, b₃, b₄, fun f a j q y₁ y₂ y₃ => by rw [b₅ f a j q y₁ y₂ y₃, a₅ f a j q y₁ y₂]⟩
  unfold F68
  rw [a₁, ccBv, g, g₁, ccBi, ccT_t, ccIf1, hf, b₁]
/-- cards so far -/
def kwPc (m : mMi) (n : Nat) (σ z W : Nat → Nat) : Prop := m 1 1 0 4 = N n ∧ (∀ u, u < 6 → m 1 1 1 u = N (σ u)) ∧ (∀ k, k < n → m 1 1 2 k = N (k + 1) ∧ m 1 1 3 k = N (z k) ∧ m 1 1 4 k = N (W k) ∧ m 0 2 11 k = N (z k)) ∧ (∀ p, p < 96 → m 0 2 2 p = I (-1) ∧ m 0 2 6 p = I (-1)) ∧ (∀ k, k < 40 → m 0 2 12 k = N 0 ∧ m 0 2 13 k = I (-1)) ∧ m 0 2 10 5 = N 0 ∧ m 0 2 7 2 = N 0 ∧ (∀ u, u < 4 → m 0 2 9 u = N 0) ∧ m 0 2 0 5 = N 0 ∧ m 0 2 0 6 = N 0
theorem kwPc_fr {m m₁ : mMi} {n : Nat} {σ z W : Nat → Nat} (q : kwPc m n σ z W) (h : ccFc0 m m₁) : kwPc m₁ n σ z W := by
  obtain ⟨a₁, a₂, a₃, a₄, a₅, a₆, a₇, a₈, a₉, a₁₀⟩ := q
  have h₁ : ∀ j p, m₁ 1 1 j p = m 1 1 j p := fun j p => h 1 1 j p (by omega) (by omega)
  have h₂ : ∀ j p, m₁ 0 2 j p = m 0 2 j p := fun j p => h 0 2 j p (by omega) (by omega)
  refine ⟨by rw [h₁]; exact a₁, fun u y => by rw [h₁]; exact a₂ u y, fun k y => by rw [h₁, h₁, h₁, h₂]; exact a₃ k y, fun p y => by rw [h₂, h₂]; exact a₄ p y, fun k y => by rw [h₂, h₂]; exact a₅ k y, by rw [h₂]; exact a₆, by rw [h₂]; exact a₇, fun u y => by rw [h₂]; exact a₈ u y, by rw [h₂]; exact a₉, by rw [h₂]; exact a₁₀⟩
theorem kwCx_s {m : mMi} {b : Nat → Nat} {L e p f a j q : Nat} {v : Int32} (c : ccCx m b L e p) (h : f ≠ 2) : ccCx (mset m f a j q v) b L e p := ccCx_fr c (fun j q _ => by rw [ccRd, if_neg (by omega)]) (fun q _ => by rw [ccRd, if_neg (by omega)]) (fun q _ => by rw [ccRd, if_neg (by omega)])
/-- a line of a card, behind its semicolon -/
theorem kwFwC {m : mMi} {b : Nat → Nat} {L e p n : Nat} {σ z W : Nat → Nat} {t : List Nat} (k : kwSep t) (c : ccCx m b L e p) (x : kwTl b L p ([99, 97, 114, 100] ++ ([32] ++ ([97 + n] ++ ([32] ++ (ccNl (z n) ++ ([32] ++ (ccNl (W n) ++ t)))))))) (q : kwPc m n σ z W) (hn : n < 20) (hz : 1 ≤ z n ∧ z n ≤ 9) (hW : 1 ≤ W n ∧ W n ≤ 9) : ∃ m₁ p₁, (∀ rs, F71 m rs = rI (N 1) m₁ rs) ∧ ccCx m₁ b L e p₁ ∧ kwTl b L p₁ t ∧ kwPc m₁ (n + 1) σ z W ∧ ccFrc m m₁ := by
  obtain ⟨m₁, p₁, a₁, a₂, a₃, a₄, a₅⟩ := kwRdW c x (Or.inl rfl) (by show 1 ≤ 4; omega) (by show 4 ≤ 6; omega) (by decide)
  have g₁ : (decide (([99, 97, 114, 100] : List Nat).length = (mTxt 2).length) && ccWq (mTxt 2) (fun i => ([99, 97, 114, 100] : List Nat).getD i 0) (mTxt 2).length 0) = true := by decide
  have g := a₂ 2 (by omega)
  have q₁ := kwPc_fr q a₅
  obtain ⟨m₂, p₂, s₂, b₁, b₂, b₃, b₄, b₅, _, b₆⟩ := kwRdL a₃ a₄ (Or.inl rfl) (by omega)
  have q₂ := kwPc_fr q₁ b₆
  have fs : ∀ rs, F79 1 (N (n + 1)) m₂ rs = rI (I (-1)) m₂ rs := fun rs => by
    rw [ccE79 q₂.1 (by omega), ccFst_none n 0 (fun k y₁ y₂ => decide_eq_false (by rw [(q₂.2.2.1 k (by omega)).1, N_eq (by omega) (by omega)]; omega))]
  obtain ⟨m₃, p₃, s₃, c₁, c₂, c₃, c₄, _, c₅⟩ := kwRdN (m := mset m₂ 1 1 2 n (N (n + 1))) (lo := 1) (v := z n) (hC := N 9) (kwCx_s b₄ (by omega)) b₅ (Or.inl rfl) (by omega) hz.1 (by rw [N_le (by omega) (by omega)]; exact hz.2)
  obtain ⟨m₄, p₄, s₄, d₁, d₂, d₃, d₄, _, d₅⟩ := kwRdN (m := mset (mset m₃ 1 1 3 n (N (z n))) 0 2 11 n (N (z n))) (lo := 1) (v := W n) (hC := N 9) (kwCx_s (kwCx_s c₃ (by omega)) (by omega)) c₄ k (by omega) hW.1 (by rw [N_le (by omega) (by omega)]; exact hW.2)
  have n₁ : m₁ 1 1 0 4 = N n := q₁.1
  have f₃ : ∀ f a j i, ¬ (f = 2 ∧ a = 4 ∧ j = 0 ∧ 2 ≤ i ∧ i ≤ 5) → ¬ (f = 2 ∧ a = 3 ∧ j = 0 ∧ (i = 3 ∨ i = 4)) → ¬ (f = 1 ∧ a = 1 ∧ i = n ∧ (j = 2 ∨ j = 3)) → ¬ (f = 0 ∧ a = 2 ∧ j = 11 ∧ i = n) → m₄ f a j i = m₂ f a j i := fun f a j i y₁ y₂ y₃ y₄ => by
    rw [d₅ f a j i y₁ y₂, ccRd, if_neg (by omega), ccRd, if_neg (by omega), c₅ f a j i y₁ y₂, ccRd, if_neg (by omega)]
  have n₄ : m₄ 1 1 0 4 = N n := by rw [f₃ 1 1 0 4 (by omega) (by omega) (by omega) (by omega)]; exact q₂.1
  have gn : ¬ N 40 ≤ N n := by rw [N_le (by omega) (by omega)]; omega
  have nn : m₂ 1 1 0 4 = N n := q₂.1
  obtain ⟨G, hG⟩ : ∃ G, G = mset (mset m₄ 1 1 4 n (N (W n))) 1 1 0 4 (N (n + 1)) := ⟨_, rfl⟩
  have fG : ∀ f a j i, ¬ (f = 1 ∧ a = 1 ∧ ((j = 4 ∧ i = n) ∨ (j = 0 ∧ i = 4))) → G f a j i = m₄ f a j i := fun f a j i y => by rw [hG, ccRd, if_neg (by omega), ccRd, if_neg (by omega)]
  refine ⟨G, p₄, fun rs => ?_, ?_, d₄, ?_, fun f a j i y₁ y₂ y₃ y₄ => ?_⟩
  · unfold F71
    rw [a₁, ccBv, g, g₁, ccBi, ccT_t, ccIte, if_neg (show ¬ N 1 = N 0 by decide), n₁, ccIte, if_neg gn]
    unfold F72
    rw [b₁, ccBv, b₂, ccIte, if_pos rfl, b₃, fs, ccBi, ccIte, if_pos rfl, n₁, ccMckIn (by omega) (by omega), mix_N (by omega), b₃, c₁, ccBi, ccIf1, ccMckIn (by omega) (by omega), ccMckIn (by omega) (by omega), c₂, d₁, ccBi, ccIf1, ccMckIn (by omega) (by omega), d₂]
    rw [n₄, N_add, ← hG]
    rfl
  · rw [hG]
    exact kwCx_s (kwCx_s d₃ (by omega)) (by omega)
  · obtain ⟨u₁, u₂, u₃, u₄, u₅, u₆, u₇, u₈, u₉, u₁₀⟩ := q₂
    have r₁ : ∀ j i, ¬ (i = n ∧ (j = 2 ∨ j = 3 ∨ j = 4)) → ¬ (j = 0 ∧ i = 4) → G 1 1 j i = m₂ 1 1 j i := fun j i y₁ y₂ => by rw [fG 1 1 j i (by omega), f₃ 1 1 j i (by omega) (by omega) (by omega) (by omega)]
    have r₂ : ∀ j i, ¬ (j = 11 ∧ i = n) → G 0 2 j i = m₂ 0 2 j i := fun j i y₁ => by rw [fG 0 2 j i (by omega), f₃ 0 2 j i (by omega) (by omega) (by omega) (by omega)]
    refine ⟨by rw [hG, ccRd, if_pos ⟨rfl, rfl, rfl, rfl⟩], fun u y => by rw [r₁ 1 u (by omega) (by omega)]; exact u₂ u y, fun k y => ?_, fun p y => by rw [r₂ 2 p (by omega), r₂ 6 p (by omega)]; exact u₄ p y, fun k y => by rw [r₂ 12 k (by omega), r₂ 13 k (by omega)]; exact u₅ k y, by rw [r₂ 10 5 (by omega)]; exact u₆, by rw [r₂ 7 2 (by omega)]; exact u₇, fun u y => by rw [r₂ 9 u (by omega)]; exact u₈ u y, by rw [r₂ 0 5 (by omega)]; exact u₉, by rw [r₂ 0 6 (by omega)]; exact u₁₀⟩
    by_cases y₁ : k = n
    · subst y₁
      refine ⟨?_, ?_, ?_, ?_⟩
      · rw [fG 1 1 2 k (by omega), d₅ 1 1 2 k (by omega) (by omega), ccRd, if_neg (by omega), ccRd, if_neg (by omega), c₅ 1 1 2 k (by omega) (by omega), ccRd, if_pos ⟨rfl, rfl, rfl, rfl⟩]
      · rw [fG 1 1 3 k (by omega), d₅ 1 1 3 k (by omega) (by omega), ccRd, if_neg (by omega), ccRd, if_pos ⟨rfl, rfl, rfl, rfl⟩]
      · rw [hG, ccRd, if_neg (by omega), ccRd, if_pos ⟨rfl, rfl, rfl, rfl⟩]
      · rw [fG 0 2 11 k (by omega), d₅ 0 2 11 k (by omega) (by omega), ccRd, if_pos ⟨rfl, rfl, rfl, rfl⟩]
    · rw [r₁ 2 k (by omega) (by omega), r₁ 3 k (by omega) (by omega), r₁ 4 k (by omega) (by omega), r₂ 11 k (by omega)]
      exact u₃ k (by omega)
  · rw [fG f a j i (by omega), f₃ f a j i y₁ (by omega) (by omega) (by omega), b₆ f a j i y₁ (by omega), a₅ f a j i y₁ (by omega)]
