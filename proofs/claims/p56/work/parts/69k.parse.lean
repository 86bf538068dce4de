/-! LOAD: the text as a whole. -/
theorem ccL181b : ∀ d p m, p + d = 96 → ∃ m₁, (∀ f rs, F181_29 (f + d + 1) (N p) m rs = rV m₁ rs) ∧ (∀ u, p ≤ u → u < 96 → m₁ 4 0 3 (248 + 4 * u) = I (-1) ∧ m₁ 4 0 3 (632 + u) = I (-1)) ∧ ∀ f a j q, ¬ (f = 4 ∧ a = 0 ∧ j = 3 ∧ ((248 + 4 * p ≤ q ∧ q < 632) ∨ (632 + p ≤ q ∧ q < 728))) → m₁ f a j q = m f a j q := by
  intro d
  induction d with
  | zero =>
    intro p m g₁
    have e₁ : N 96 ≤ N p := by rw [N_le (by omega) (by omega)]; omega
    exact ⟨m, fun f rs => by rw [ccL181_29, ccIte, if_pos e₁], fun u y₁ y₂ => by omega, fun _ _ _ _ _ => rfl⟩
  | succ d i₁ =>
    intro p m g₁
    have e₁ : ¬ N 96 ≤ N p := by rw [N_le (by omega) (by omega)]; omega
    have e₂ : N 248 + N 4 * N p + N 0 = N (248 + 4 * p) := by rw [N_mul, N_add, N_add]; rfl
    have e₃ : N 632 + N p = N (632 + p) := by rw [N_add]
    obtain ⟨m₁, a₁, a₂, a₃⟩ := i₁ (p + 1) (mset (mset m 4 0 3 (248 + 4 * p) (I (-1))) 4 0 3 (632 + p) (I (-1))) (by omega)
    refine ⟨m₁, fun f rs => ?_, fun u y₁ y₂ => ?_, fun f a j q y₁ => ?_⟩
    · have e₄ : f + (d + 1) + 1 = f + d + 1 + 1 := by omega
      rw [e₄, ccL181_29, ccIte, if_neg e₁, e₂, e₃, ccMckIn (by omega) (by omega), ccMckIn (by omega) (by omega), mix_N (by omega), mix_N (by omega), N_add]
      exact a₁ f rs
    · by_cases y₃ : u = p
      · subst y₃
        rw [a₃ 4 0 3 _ (by omega), a₃ 4 0 3 _ (by omega), ccRd, if_neg (by omega), ccRd, if_pos ⟨rfl, rfl, rfl, rfl⟩, ccRd, if_pos ⟨rfl, rfl, rfl, rfl⟩]
        exact ⟨rfl, rfl⟩
      · exact a₂ u (by omega) y₂
    · rw [a₃ f a j q (by omega), ccRd, if_neg (by omega), ccRd, if_neg (by omega)]
theorem ccL181a : ∀ d p m, p + d = 918 → ∃ m₁, (∀ f rs, F181_7 (f + d + 1) (N p) m rs = F181_29 FU (N 0) m₁ rs) ∧ (∀ u, p ≤ u → u < 918 → m₁ 4 0 3 u = N 0) ∧ ∀ f a j q, ¬ (f = 4 ∧ a = 0 ∧ j = 3 ∧ p ≤ q ∧ q < 918) → m₁ f a j q = m f a j q := by
  intro d
  induction d with
  | zero =>
    intro p m g₁
    have e₁ : N 918 ≤ N p := by rw [N_le (by omega) (by omega)]; omega
    exact ⟨m, fun f rs => by rw [ccL181_7, ccIte, if_pos e₁], fun u y₁ y₂ => by omega, fun _ _ _ _ _ => rfl⟩
  | succ d i₁ =>
    intro p m g₁
    have e₁ : ¬ N 918 ≤ N p := by rw [N_le (by omega) (by omega)]; omega
    obtain ⟨m₁, a₁, a₂, a₃⟩ := i₁ (p + 1) (mset m 4 0 3 p (N 0)) (by omega)
    refine ⟨m₁, fun f rs => ?_, fun u y₁ y₂ => ?_, fun f a j q y₁ => ?_⟩
    · have e₄ : f + (d + 1) + 1 = f + d + 1 + 1 := by omega
      rw [e₄, ccL181_7, ccIte, if_neg e₁, ccMckIn (by omega) (by omega), mix_N (by omega), N_add]
      exact a₁ f rs
    · by_cases y₃ : u = p
      · rw [y₃, a₃ 4 0 3 p (by omega), ccRd, if_pos ⟨rfl, rfl, rfl, rfl⟩]
      · exact a₂ u (by omega) y₂
    · rw [a₃ f a j q (by omega), ccRd, if_neg (by omega)]
theorem ccE181 {m : mMi} : ∃ m₁, (∀ rs, F181 m rs = rV m₁ rs) ∧ (∀ p, p < 96 → m₁ 4 0 3 (248 + 4 * p) = I (-1) ∧ m₁ 4 0 3 (632 + p) = I (-1)) ∧ (∀ q, q < 248 → m₁ 4 0 3 q = N 0) ∧ m₁ 4 0 0 8 = N 0 ∧ ∀ f a j q, ¬ (f = 4 ∧ a = 0 ∧ ((j = 3 ∧ q < 918) ∨ (j = 0 ∧ q = 8))) → m₁ f a j q = m f a j q := by
  obtain ⟨f₁, hf₁⟩ := ccFU (k := 918) (by omega)
  obtain ⟨f₂, hf₂⟩ := ccFU (k := 96) (by omega)
  obtain ⟨x, a₁, a₂, a₃⟩ := ccL181a 918 0 (mset m 4 0 0 8 (N 0)) (by omega)
  obtain ⟨y, b₁, b₂, b₃⟩ := ccL181b 96 0 x (by omega)
  refine ⟨y, fun rs => ?_, fun p y₁ => b₂ p (by omega) y₁, fun q y₁ => by rw [b₃ 4 0 3 q (by omega), a₂ q (by omega) (by omega)], ?_, fun f a j q y₁ => ?_⟩
  · unfold F181
    rw [hf₁, a₁, hf₂, b₁]
  · rw [b₃ 4 0 0 8 (by omega), a₃ 4 0 0 8 (by omega), ccRd, if_pos ⟨rfl, rfl, rfl, rfl⟩]
  · rw [b₃ f a j q (by omega), a₃ f a j q (by omega), ccRd, if_neg (by omega)]
/-- the class begins -/
def ccCl0 (M : mMi) : Prop := M 1 1 0 4 = N 0 ∧ (∀ p, p < 96 → M 0 2 2 p = I (-1) ∧ M 0 2 6 p = I (-1)) ∧ (∀ k, k < 40 → M 0 2 12 k = N 0 ∧ M 0 2 13 k = I (-1)) ∧ M 0 2 10 5 = N 0 ∧ M 0 2 7 2 = N 0 ∧ (∀ u, u < 4 → M 0 2 9 u = N 0) ∧ M 0 2 0 5 = N 0 ∧ M 0 2 0 6 = N 0
theorem ccE67 {m : mMi} {x : Int32} (h₀ : ¬ m 2 1 0 1 < x) : ∃ M, (∀ rs, F67 x m rs = bI (F68 M rs) (fun v m r => mifO (decide (v ≠ (N 0))) (F67_43 FU x (N 0) m r) (some (.inl (some (mI (N 0))), m, r)))) ∧ M 2 4 0 1 = x ∧ M 2 4 0 2 = N 0 ∧ M 2 3 0 3 = N 0 ∧ M 2 3 0 4 = I (-1) ∧ ccCl0 M ∧ ∀ f a j q, ¬ (f = 2 ∧ a = 4 ∧ j = 0 ∧ 1 ≤ q ∧ q ≤ 2) → ¬ (f = 2 ∧ a = 3 ∧ j = 0 ∧ 3 ≤ q ∧ q ≤ 4) → ¬ (f = 1 ∧ a = 1) → ¬ (f = 0 ∧ a = 2) → M f a j q = m f a j q := by
  obtain ⟨A, hA⟩ : ∃ A, A = mset (mset m 2 3 0 3 (N 0)) 2 3 0 4 (I (-1)) := ⟨_, rfl⟩
  obtain ⟨B, hB⟩ : ∃ B, B = mset (mfill A 1 1 1 6 (N 0)) 1 1 0 4 (N 0) := ⟨_, rfl⟩
  obtain ⟨C, hC⟩ : ∃ C, C = mset (mfill (mfill B 0 2 12 40 (N 0)) 0 2 13 40 (I (-1))) 0 2 10 5 (N 0) := ⟨_, rfl⟩
  obtain ⟨D, hD⟩ : ∃ D, D = mfill (mfill C 0 2 2 96 (I (-1))) 0 2 6 96 (I (-1)) := ⟨_, rfl⟩
  obtain ⟨E, hE⟩ : ∃ E, E = mset (mfill D 0 2 9 4 (N 0)) 0 2 7 2 (N 0) := ⟨_, rfl⟩
  obtain ⟨G, hG⟩ : ∃ G, G = mset (mset E 0 2 0 5 (N 0)) 0 2 0 6 (N 0) := ⟨_, rfl⟩
  have g₁ : G 2 1 0 1 = m 2 1 0 1 := by
    rw [hG, ccRd, if_neg (by omega), ccRd, if_neg (by omega), hE, ccRd, if_neg (by omega), ccFill, if_neg (by omega), hD, ccFill, if_neg (by omega), ccFill, if_neg (by omega), hC, ccRd, if_neg (by omega), ccFill, if_neg (by omega), ccFill, if_neg (by omega), hB, ccRd, if_neg (by omega), ccFill, if_neg (by omega), hA, ccRd, if_neg (by omega), ccRd, if_neg (by omega)]
  obtain ⟨V, hV⟩ : ∃ V, V = if G 2 1 0 1 < x then G 2 1 0 1 else x := ⟨_, rfl⟩
  have g₂ : V = x := by rw [hV, g₁, if_neg h₀]
  refine ⟨mset (mset G 2 4 0 1 V) 2 4 0 2 (N 0), fun rs => ?_, ?_, ?_, ?_, ?_, ⟨?_, fun p y₁ => ⟨?_, ?_⟩, fun k y₁ => ⟨?_, ?_⟩, ?_, ?_, fun u y₁ => ?_, ?_, ?_⟩, fun f a j q y₁ y₂ y₃ y₄ => ?_⟩
  · rw [hV, hG, hE, hD, hC, hB, hA]
    rfl
  · rw [ccRd, if_neg (by omega), ccRd, if_pos ⟨rfl, rfl, rfl, rfl⟩]
    exact g₂
  · rw [ccRd, if_pos ⟨rfl, rfl, rfl, rfl⟩]
  · rw [ccRd, if_neg (by omega), ccRd, if_neg (by omega), hG, ccRd, if_neg (by omega), ccRd, if_neg (by omega), hE, ccRd, if_neg (by omega), ccFill, if_neg (by omega), hD, ccFill, if_neg (by omega), ccFill, if_neg (by omega), hC, ccRd, if_neg (by omega), ccFill, if_neg (by omega), ccFill, if_neg (by omega), hB, ccRd, if_neg (by omega), ccFill, if_neg (by omega), hA, ccRd, if_neg (by omega), ccRd, if_pos ⟨rfl, rfl, rfl, rfl⟩]
  · rw [ccRd, if_neg (by omega), ccRd, if_neg (by omega), hG, ccRd, if_neg (by omega), ccRd, if_neg (by omega), hE, ccRd, if_neg (by omega), ccFill, if_neg (by omega), hD, ccFill, if_neg (by omega), ccFill, if_neg (by omega), hC, ccRd, if_neg (by omega), ccFill, if_neg (by omega), ccFill, if_neg (by omega), hB, ccRd, if_neg (by omega), ccFill, if_neg (by omega), hA, ccRd, if_pos ⟨rfl, rfl, rfl, rfl⟩]
  · rw [ccRd, if_neg (by omega), ccRd, if_neg (by omega), hG, ccRd, if_neg (by omega), ccRd, if_neg (by omega), hE, ccRd, if_neg (by omega), ccFill, if_neg (by omega), hD, ccFill, if_neg (by omega), ccFill, if_neg (by omega), hC, ccRd, if_neg (by omega), ccFill, if_neg (by omega), ccFill, if_neg (by omega), hB, ccRd, if_pos ⟨rfl, rfl, rfl, rfl⟩]
  · rw [ccRd, if_neg (by omega), ccRd, if_neg (by omega), hG, ccRd, if_neg (by omega), ccRd, if_neg (by omega), hE, ccRd, if_neg (by omega), ccFill, if_neg (by omega), hD, ccFill, if_neg (by omega), ccFill, if_pos ⟨rfl, rfl, rfl, y₁⟩]
  · rw [ccRd, if_neg (by omega), ccRd, if_neg (by omega), hG, ccRd, if_neg (by omega), ccRd, if_neg (by omega), hE, ccRd, if_neg (by omega), ccFill, if_neg (by omega), hD, ccFill, if_pos ⟨rfl, rfl, rfl, y₁⟩]
  · rw [ccRd, if_neg (by omega), ccRd, if_neg (by omega), hG, ccRd, if_neg (by omega), ccRd, if_neg (by omega), hE, ccRd, if_neg (by omega), ccFill, if_neg (by omega), hD, ccFill, if_neg (by omega), ccFill, if_neg (by omega), hC, ccRd, if_neg (by omega), ccFill, if_neg (by omega), ccFill, if_pos ⟨rfl, rfl, rfl, y₁⟩]
  · rw [ccRd, if_neg (by omega), ccRd, if_neg (by omega), hG, ccRd, if_neg (by omega), ccRd, if_neg (by omega), hE, ccRd, if_neg (by omega), ccFill, if_neg (by omega), hD, ccFill, if_neg (by omega), ccFill, if_neg (by omega), hC, ccRd, if_neg (by omega), ccFill, if_pos ⟨rfl, rfl, rfl, y₁⟩]
  · rw [ccRd, if_neg (by omega), ccRd, if_neg (by omega), hG, ccRd, if_neg (by omega), ccRd, if_neg (by omega), hE, ccRd, if_neg (by omega), ccFill, if_neg (by omega), hD, ccFill, if_neg (by omega), ccFill, if_neg (by omega), hC, ccRd, if_pos ⟨rfl, rfl, rfl, rfl⟩]
  · rw [ccRd, if_neg (by omega), ccRd, if_neg (by omega), hG, ccRd, if_neg (by omega), ccRd, if_neg (by omega), hE, ccRd, if_pos ⟨rfl, rfl, rfl, rfl⟩]
  · rw [ccRd, if_neg (by omega), ccRd, if_neg (by omega), hG, ccRd, if_neg (by omega), ccRd, if_neg (by omega), hE, ccRd, if_neg (by omega), ccFill, if_pos ⟨rfl, rfl, rfl, y₁⟩]
  · rw [ccRd, if_neg (by omega), ccRd, if_neg (by omega), hG, ccRd, if_neg (by omega), ccRd, if_pos ⟨rfl, rfl, rfl, rfl⟩]
  · rw [ccRd, if_neg (by omega), ccRd, if_neg (by omega), hG, ccRd, if_pos ⟨rfl, rfl, rfl, rfl⟩]
  · rw [ccRd, if_neg (by omega), ccRd, if_neg (by omega), hG, ccRd, if_neg (by omega), ccRd, if_neg (by omega), hE, ccRd, if_neg (by omega), ccFill, if_neg (by omega), hD, ccFill, if_neg (by omega), ccFill, if_neg (by omega), hC, ccRd, if_neg (by omega), ccFill, if_neg (by omega), ccFill, if_neg (by omega), hB, ccRd, if_neg (by omega), ccFill, if_neg (by omega), hA, ccRd, if_neg (by omega), ccRd, if_neg (by omega)]
/-- what reading a text changes -/
def ccFrA (m m₁ : mMi) : Prop := ∀ f a j q, ¬ (f = 2 ∧ a = 4) → ¬ (f = 2 ∧ a = 3 ∧ j = 0 ∧ 3 ≤ q ∧ q ≤ 6) → ¬ (f = 1 ∧ a = 1) → ¬ (f = 0 ∧ a = 2) → m₁ f a j q = m f a j q
def ccFrB (m m₁ : mMi) : Prop := ∀ f a j q, ¬ (f = 4 ∧ a = 0 ∧ ((j = 0 ∧ ((2 ≤ q ∧ q ≤ 8) ∨ (20 ≤ q ∧ q ≤ 26))) ∨ (j = 1 ∧ q < 240) ∨ (j = 2 ∧ q < 40) ∨ (j = 3 ∧ q < 918))) → m₁ f a j q = m f a j q
theorem ccParse {m mm : mMi} {b : Nat → Nat} {L e : Nat} (q : ccBt m e b) (q₂ : ccBm mm e b) (hL : L ≤ e) (lim : ccLim m) :
    (∃ w l n bd lm dp cl β W mc₁ mm₁, (∀ rs, F67 (N L) m rs = rI (N 1) mc₁ rs) ∧ (∀ rs, F180 (N L) mm rs = rV mm₁ rs) ∧ ccBld mc₁ mm₁ w l n bd lm dp cl β W ∧ mm₁ 4 0 0 25 = N 0 ∧ mm₁ 4 0 0 26 = I (-1) ∧ mc₁ 2 3 0 3 = N 0 ∧ mc₁ 2 3 0 4 = I (-1) ∧ ccFrA m mc₁ ∧ ccFrB mm mm₁) ∨
    (∃ mc₁ mm₁, (∀ rs, F67 (N L) m rs = rI (N 0) mc₁ rs) ∧ (∀ rs, F180 (N L) mm rs = rV mm₁ rs) ∧ ccErd mc₁ mm₁ ∧ ccFrA m mc₁ ∧ ccFrB mm mm₁) := by
  have q₀ := q.1
  obtain ⟨M, a₁, a₂, a₃, a₄, a₅, ⟨c₁, c₂, c₃, c₄, c₅, c₆, c₇, c₈⟩, a₇⟩ := ccE67 (m := m) (x := N L) (by rw [q.2.1, N_lt (by omega) (by omega)]; omega)
  obtain ⟨X, hX⟩ : ∃ X, X = mset (mset (mset (mset mm 4 0 0 20 (N L)) 4 0 0 21 (N 0)) 4 0 0 25 (N 0)) 4 0 0 26 (I (-1)) := ⟨_, rfl⟩
  have fX : ∀ f a j q, ¬ (f = 4 ∧ a = 0 ∧ j = 0 ∧ 20 ≤ q ∧ q ≤ 26) → X f a j q = mm f a j q := fun f a j q y₁ => by rw [hX, ccRd, if_neg (by omega), ccRd, if_neg (by omega), ccRd, if_neg (by omega), ccRd, if_neg (by omega)]
  obtain ⟨Y, b₁, b₂, b₃, b₄, b₅⟩ := ccE181 (m := X)
  have X20 : Y 4 0 0 20 = N L := by rw [b₅ 4 0 0 20 (by omega), hX, ccRd, if_neg (by omega), ccRd, if_neg (by omega), ccRd, if_neg (by omega), ccRd, if_pos ⟨rfl, rfl, rfl, rfl⟩]
  have X21 : Y 4 0 0 21 = N 0 := by rw [b₅ 4 0 0 21 (by omega), hX, ccRd, if_neg (by omega), ccRd, if_neg (by omega), ccRd, if_pos ⟨rfl, rfl, rfl, rfl⟩]
  have X25 : Y 4 0 0 25 = N 0 := by rw [b₅ 4 0 0 25 (by omega), hX, ccRd, if_neg (by omega), ccRd, if_pos ⟨rfl, rfl, rfl, rfl⟩]
  have X26 : Y 4 0 0 26 = I (-1) := by rw [b₅ 4 0 0 26 (by omega), hX, ccRd, if_pos ⟨rfl, rfl, rfl, rfl⟩]
  have bY : ccBm Y e b := ccBm_fr q₂ (fun p => by rw [b₅ 4 0 7 p (by omega), fX 4 0 7 p (by omega)])
  obtain ⟨s, r, kd, t⟩ := ccTok_ex (b := b) (L := L) (p := 0) (by omega)
  obtain ⟨Z, d₁, d₂, d₃, d₄, d₅, d₆⟩ := ccE182 bY hL X20 X21 t
  have mZ : ccMx Z b L e s r kd := ⟨hL, ccBm_fr bY (fun p => d₆ 4 0 7 p (by omega)), by rw [d₆ 4 0 0 20 (by omega)]; exact X20, d₂, d₃, d₄, d₅, by rw [d₆ 4 0 0 25 (by omega)]; exact X25, by rw [d₆ 4 0 0 26 (by omega)]; exact X26⟩
  have cM : ccCx M b L e 0 := ⟨hL, ccBt_fr q (fun j p => a₇ 2 1 j p (by omega) (by omega) (by omega) (by omega)), a₂, a₃, a₄, a₅⟩
  have lM : ccLim M := fun i y₁ => by
    rw [a₇ 3 1 0 i (by omega) (by omega) (by omega) (by omega), a₇ 3 2 0 i (by omega) (by omega) (by omega) (by omega)]
    exact lim i y₁
  have B : ∀ rs, F180 (N L) mm rs = ccHw (fun m r => F180_117 FU (N L) m r) Z rs := fun rs => by
    rw [ccE180w, ← hX, b₁, ccBv, d₁, ccBv]
  have fZ : ccFrB mm Z := fun f a j p y₁ => by rw [d₆ f a j p (by omega), b₅ f a j p (by omega), fX f a j p (by omega)]
  obtain ⟨f, hf⟩ := ccFU (k := L + 1) (by omega)
  rcases ccHead cM mZ t lM with ⟨mc₁, mm₁, p', s', r', kd', u₁, u₂, u₃, u₄, u₅, u₆, u₇, u₈, u₉⟩ | ⟨mc₁, mm₁, u₁, u₂, u₃, u₄, u₅⟩
  rotate_left
  · have er := ccErd_e u₃
    refine Or.inr ⟨mc₁, mm₁, fun rs => ?_, fun rs => ?_, u₃, fun f a j p y₁ y₂ y₃ y₄ => ?_, fun f a j p y₁ => ?_⟩
    · rw [a₁, u₁, ccBi, ccIf0]
    · rw [B, u₂, hf, ccL180_117, ccIte, if_pos er, ccE187e er, ccE187e er, ccBv, ccIte]
      by_cases g₅ : mm₁ 4 0 0 23 = N 0
      · rw [if_pos g₅]
      · rw [if_neg g₅]
    · rw [u₄ f a j p (by omega) (by omega) (by omega), a₇ f a j p (by omega) (by omega) y₃ y₄]
    · rw [u₅ f a j p (by omega), fZ f a j p y₁]
  obtain ⟨w, w₁, w₂, w₃, w₄⟩ := u₆ 0 (by omega)
  obtain ⟨l, l₁, l₂, l₃, l₄⟩ := u₆ 1 (by omega)
  obtain ⟨lm, m₁, m₂, m₃, m₄⟩ := u₆ 2 (by omega)
  obtain ⟨dp, g₁, g₂, g₃, g₄⟩ := u₆ 3 (by omega)
  obtain ⟨cl, h₁, h₂, h₃, h₄⟩ := u₆ 4 (by omega)
  obtain ⟨bd, k₁, k₂, k₃, k₄⟩ := u₆ 5 (by omega)
  have v₁ : ccLo 0 = 2 ∧ ccLo 1 = 1 ∧ ccUp 0 = 12 ∧ ccUp 1 = 8 ∧ ccUp 2 = 99 ∧ ccUp 3 = 9 ∧ ccUp 4 = 20 ∧ ccUp 5 = 8 := ⟨rfl, rfl, rfl, rfl, rfl, rfl, rfl, rfl⟩
  obtain ⟨v₁, v₂, v₃, v₄, v₅, v₆, v₇, v₈⟩ := v₁
  have r0 : ∀ j p, mc₁ 0 2 j p = M 0 2 j p := fun j p => u₇ 0 2 j p (by omega) (by omega) (by omega)
  have z0 : ∀ j p, j ≠ 0 → mm₁ 4 0 j p = Y 4 0 j p := fun j p y₁ => by rw [u₈ 4 0 j p (by omega), d₆ 4 0 j p (by omega)]
  have n0 : mc₁ 1 1 0 4 = N 0 := by rw [u₇ 1 1 0 4 (by omega) (by omega) (by omega)]; exact c₁
  have n1 : mm₁ 4 0 0 8 = N 0 := by rw [u₈ 4 0 0 8 (by omega), d₆ 4 0 0 8 (by omega)]; exact b₄
  have no : ∀ p, p < 96 → mc₁ 0 2 2 p = I (-1) ∧ mc₁ 0 2 6 p = I (-1) := fun p y₁ => by rw [r0, r0]; exact c₂ p y₁
  have bld : ccBld mc₁ mm₁ w l 0 bd lm dp cl (fun _ => N 0) (fun _ => 0) := by
    refine ⟨⟨w₃, l₃, n0, by omega, by omega, by omega, by omega, by omega⟩, ⟨w₄, l₄, n1, by omega, by omega, by omega, by omega, by omega⟩, ⟨k₃, k₄, by omega⟩, ⟨m₃, m₄, by omega⟩, ⟨g₃, g₄, by omega⟩, ⟨h₃, h₄, by omega⟩, ccR_init (fun p y₁ => (no p y₁).1) (fun p y₁ => (no p y₁).2) (by rw [r0]; exact c₄) (by rw [r0]; exact c₅) (fun u y₁ => by rw [r0]; exact c₆ u y₁) (by rw [r0]; exact c₇) (by rw [r0]; exact c₈) (fun p y₁ => by rw [z0 3 _ (by omega)]; exact (b₂ p y₁).1) (fun p y₁ => by rw [z0 3 _ (by omega)]; exact (b₂ p y₁).2) (fun i y₁ => by rw [z0 3 _ (by omega)]; exact b₃ i (by omega)), ⟨fun p y₁ => ⟨fun y₂ => absurd (no p y₁).1 y₂, fun y₂ => absurd (no p y₁).2 y₂⟩, fun p y₁ y₂ => ⟨fun y₃ => absurd (no p y₂).2 y₃.1, fun y₃ => absurd (no p y₂).1 y₃.1⟩⟩, ⟨fun k y₁ => by omega, fun k y₁ => by omega, fun k y₁ => by omega⟩, fun k y₁ => by omega, fun k y₁ => by omega, fun p y₁ y₂ => absurd (no p y₁).1 y₂, fun k y₁ y₂ => ⟨by rw [r0]; exact (c₃ k y₂).2, by rw [r0]; exact (c₃ k y₂).1, by rw [z0 3 _ (by omega)]; exact b₃ _ (by omega), by rw [z0 3 _ (by omega)]; exact b₃ _ (by omega), by rw [z0 3 _ (by omega)]; exact b₃ _ (by omega)⟩⟩
  have A : ∀ rs, F67 (N L) m rs = F67_43 (f + (L + 1) + 1) (N L) (N 0) mc₁ rs := fun rs => by
    rw [a₁, u₁, ccBi, ccIf1, hf]
  have B₂ : ∀ rs, F180 (N L) mm rs = F180_117 (f + (L + 1) + 1) (N L) mm₁ rs := fun rs => by
    rw [B, u₂, hf]
  rcases ccLines (x := N L) (y := N L) (L + 1) 0 mc₁ mm₁ p' s' r' kd' 0 _ _ (by omega) (by omega) u₃ u₄ u₅ bld with ⟨n, β, W, mc₂, mm₂, x₁, x₂, x₃, x₄, x₅, x₆, x₇, x₈, x₉⟩ | ⟨mc₂, mm₂, x₁, x₂, x₃, x₄, x₅⟩
  · refine Or.inl ⟨w, l, n, bd, lm, dp, cl, β, W, mc₂, mm₂, fun rs => by rw [A, x₁], fun rs => by rw [B₂, x₂], x₃, x₄, x₅, x₈, x₉, fun f a j p y₁ y₂ y₃ y₄ => ?_, fun f a j p y₁ => ?_⟩
    · rw [x₆ f a j p (by omega) y₂ y₃ y₄, u₇ f a j p (by omega) (by omega) (by omega), a₇ f a j p (by omega) (by omega) y₃ y₄]
    · rw [x₇ f a j p (by omega), u₈ f a j p (by omega), fZ f a j p y₁]
  · refine Or.inr ⟨mc₂, mm₂, fun rs => by rw [A, x₁], fun rs => by rw [B₂, x₂], x₃, fun f a j p y₁ y₂ y₃ y₄ => ?_, fun f a j p y₁ => ?_⟩
    · rw [x₄ f a j p (by omega) y₂ y₃ y₄, u₇ f a j p (by omega) (by omega) (by omega), a₇ f a j p (by omega) (by omega) y₃ y₄]
    · rw [x₅ f a j p (by omega), u₈ f a j p (by omega), fZ f a j p y₁]
