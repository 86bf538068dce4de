/-! LOAD: a place, a card in the hand. -/
theorem ccHiC {x : Nat} (h₁ : x < 1000) : ∀ v, v < 1000 → (N v ≤ N x - N 1 ↔ v < x) := fun v y₁ => by
  by_cases g : x = 0
  · subst g
    have e₁ : (N 0 - N 1).toInt = -1 := by decide
    rw [Int32.le_iff_toInt_le, N_toInt (by omega), e₁]
    omega
  · rw [N_sub (by omega), N_le (by omega) (by omega)]
    omega
theorem ccHiM {w L : Nat} (h₁ : w < 1000) (h₂ : L < 1000) (h₃ : 1 ≤ w) : ∀ v, v < 1000 → (N w - N 1 - N L < N v ↔ w - L ≤ v) := fun v y₁ => by
  rw [N_sub (by omega)]
  by_cases g : L < w
  · rw [N_sub (by omega), N_lt (by omega) (by omega)]
    omega
  · have e₁ : N (w - 1) - N L = I (((w - 1 : Nat) : Int) - (L : Int)) := by rw [← I_N, ← I_N, I_sub]
    rw [e₁, Int32.lt_iff_toInt_lt, I_toInt (by omega) (by omega), N_toInt (by omega)]
    omega
def ccFc1 (m m₁ : mMi) : Prop := ∀ f a j q, ¬ (f = 2 ∧ a = 4 ∧ j = 0 ∧ 2 ≤ q ∧ q ≤ 5) → ¬ (f = 2 ∧ a = 3 ∧ j = 0 ∧ 3 ≤ q ∧ q ≤ 6) → m₁ f a j q = m f a j q
theorem ccPlace {mc mm : mMi} {b : Nat → Nat} {L e p s r kd w l n lo : Nat} (c : ccCx mc b L e p) (m : ccMx mm b L e s r kd) (t : ccTok b L p s r kd) (ru : ccRu mc 1 w l n) (mo : ccMo mm w l n) (bl : lo ≤ 1) :
    (∃ x y mc₁ mm₁ s₁ r₁ kd₁, lo ≤ x ∧ x < l ∧ x + y < w ∧ (∀ rs, F74 (N lo) mc rs = rI (N 1) mc₁ rs) ∧ (∀ rs, F190 (N lo) (N l - N 1) mm rs = rI (N x) mm₁ rs) ∧ (∀ rs, F191 (N 0) (N w - N 1 - N x) mm₁ rs = rI (N y) mm₁ rs) ∧ mc₁ 2 3 0 5 = N x ∧ mc₁ 2 3 0 6 = N y ∧ mc₁ 2 4 0 3 = N s₁ ∧ ccCx mc₁ b L e r₁ ∧ ccMx mm₁ b L e s₁ r₁ kd₁ ∧ ccTok b L r s₁ r₁ kd₁ ∧ ccFc1 mc mc₁ ∧ ccFm0 mm mm₁ ∧ p ≤ r₁) ∨
    (∃ x y mc₁ mm₁ mm₂, (∀ rs, F74 (N lo) mc rs = rI (N 0) mc₁ rs) ∧ (∀ rs, F190 (N lo) (N l - N 1) mm rs = rI x mm₁ rs) ∧ (∀ rs, F191 (N 0) (N w - N 1 - x) mm₁ rs = rI y mm₂ rs) ∧ mm₁ 4 0 0 2 = N w ∧ ccErd mc₁ mm₂ ∧ ccFc1 mc mc₁ ∧ ccFm0 mm mm₂) := by
  have b₁ : w ≤ 12 := ru.2.2.2.2.1
  have b₂ : l ≤ 8 := ru.2.2.2.2.2.2.1
  have b₀ : 2 ≤ w := ru.2.2.2.1
  have b₄ : 1 ≤ l := ru.2.2.2.2.2.1
  have rl : mc 1 1 1 1 = N l := ru.2.1
  have ml : mm 4 0 0 2 = N w := mo.1
  have hiR : ∀ v, v < 1000 → (N l - N 1 < N v ↔ l ≤ v) := fun v y₁ => by
    rw [N_sub (by omega), N_lt (by omega) (by omega)]
    omega
  rcases ccNumbN (lo := lo) c m t (by omega) (ccHiC (x := l) (by omega)) hiR with ⟨x, M, mm₁, s₁, r₁, kd₁, a₁, a₂, a₃, a₄, a₅, a₆, a₇, a₈, a₉, a₁₀, a₁₁, a₁₂⟩ | ⟨M, mm₁, a₁, a₂, a₃, a₄, a₅⟩
  rotate_left
  · refine Or.inr ⟨N lo, N 0, M, mm₁, mm₁, fun rs => ?_, a₂, fun rs => ccE191e (ccErd_e a₃), by rw [a₅ 4 0 0 2 (by omega)]; exact ml, a₃, fun f a j q y₁ y₂ => a₄ f a j q y₁ (by omega), a₅⟩
    unfold F74
    rw [rl, a₁, ccBi, ccIf0]
  have ru₂ : ccRu (mset M 2 3 0 5 (N x)) 1 w l n := ⟨by rw [ccRd, if_neg (by omega), a₁₀ 1 1 1 0 (by omega) (by omega)]; exact ru.1, by rw [ccRd, if_neg (by omega), a₁₀ 1 1 1 1 (by omega) (by omega)]; exact ru.2.1, by rw [ccRd, if_neg (by omega), a₁₀ 1 1 0 4 (by omega) (by omega)]; exact ru.2.2.1, ru.2.2.2⟩
  have y₁ : ∀ rs, F80 1 (N x) (mset M 2 3 0 5 (N x)) rs = rI (N (w - x)) (mset M 2 3 0 5 (N x)) rs := fun rs => by
    have z₁ := ccE80 (rs := rs) (L := x) ru₂ (by omega)
    rw [if_pos a₂] at z₁
    exact z₁
  have cM : ccCx (mset M 2 3 0 5 (N x)) b L e r := ccCx_fr a₇ (fun j q _ => by rw [ccRd, if_neg (by omega)]) (fun q _ => by rw [ccRd, if_neg (by omega)]) (fun q _ => by rw [ccRd, if_neg (by omega)])
  have tb := ccTok_b a₉
  rcases ccNumb (lo := 0) cM a₈ a₉ (by omega) (ccHiC (x := w - x) (by omega)) (ccHiM (w := w) (L := x) (by omega) (by omega) (by omega)) with ⟨y, M₂, d₁, d₂, d₃, d₄, d₅, d₆, d₇, d₈, d₉, d₁₀⟩ | ⟨M₂, mm₂, d₁, d₂, d₃, d₄, d₅⟩
  · refine Or.inl ⟨x, y, mset M₂ 2 3 0 6 (N y), mm₁, s₁, r₁, kd₁, a₁, a₂, by omega, fun rs => ?_, a₅, d₅, ?_, ?_, ?_, ccCx_fr d₇ (fun j q _ => by rw [ccRd, if_neg (by omega)]) (fun q _ => by rw [ccRd, if_neg (by omega)]) (fun q _ => by rw [ccRd, if_neg (by omega)]), a₈, a₉, fun f a j q z₁ z₂ => ?_, a₁₁, by omega⟩
    · unfold F74
      rw [rl, a₄, ccBi, ccIf1, a₆, y₁, ccBi, d₄, ccBi, ccIf1, d₆]
    · rw [ccRd, if_neg (by omega), d₉ 2 3 0 5 (by omega) (by omega), ccRd, if_pos ⟨rfl, rfl, rfl, rfl⟩]
    · rw [ccRd, if_pos ⟨rfl, rfl, rfl, rfl⟩]
    · rw [ccRd, if_neg (by omega)]
      exact d₈
    · rw [ccRd, if_neg (by omega), d₉ f a j q z₁ (by omega), ccRd, if_neg (by omega), a₁₀ f a j q z₁ (by omega)]
  · refine Or.inr ⟨N x, N 0, M₂, mm₁, mm₂, fun rs => ?_, a₅, d₂, by rw [a₁₁ 4 0 0 2 (by omega)]; exact ml, d₃, fun f a j q z₁ z₂ => ?_, ccFm0_tr a₁₁ d₅⟩
    · unfold F74
      rw [rl, a₄, ccBi, ccIf1, a₆, y₁, ccBi, d₁, ccBi, ccIf0]
    · rw [d₄ f a j q z₁ (by omega), ccRd, if_neg (by omega), a₁₀ f a j q z₁ (by omega)]
/-! a card in the hand -/
def ccH2 (v : Int32) (m : mMi) (r : mRs) : mRz := bV (F189 m r) (fun m r => mifO (decide ((m 4 0 0 25) = (N 0))) (some (.inl (some (mI v)), m, r)) (some (.inl (some (mI (N 0))), m, r)))
def ccH0 (x1 v : Int32) (m : mMi) (r : mRs) : mRz := mifO (decide ((m 4 0 0 25) ≠ (N 0))) (bV (F187 (N 0) (N 3) m r) (ccH2 v)) (mifO (decide (v = (I (-1)))) (bV (F187 (N 1) (N 3) m r) (ccH2 v)) (mifO (decide (v = x1)) (bV (F187 (N 1) (N 3) m r) (ccH2 v)) (bI (F204 v (N 1) m r) (fun u m r => mifO (decide (u = (N 0))) (bV (F187 (N 0) (N 3) m r) (ccH2 v)) (bV (F187 (N 1) (N 3) m r) (ccH2 v))))))
def ccH1 (x1 : Int32) (m : mMi) (r : mRs) : mRz := mifO (decide ((m 4 0 0 25) ≠ (N 0))) (ccH0 x1 (N 0) m r) (bI (F194 (m 4 0 0 22) (m 4 0 0 21) m r) (ccH0 x1))
theorem ccE203w {x1 : Int32} {m : mMi} {rs : mRs} : F203 x1 m rs = mifO (decide ((m 4 0 0 23) = (N 1))) (bV (F187 (N 0) (N 1) m rs) (ccH1 x1)) (bV (F187 (N 1) (N 1) m rs) (ccH1 x1)) := rfl
theorem ccH2e {v : Int32} {m : mMi} {rs : mRs} (h : m 4 0 0 25 ≠ N 0) : ccH2 v m rs = rI (N 0) m rs := by
  unfold ccH2
  rw [ccE189e h, ccBv, ccIte, if_neg h]
theorem ccH1e {x1 : Int32} {m : mMi} {rs : mRs} (h : m 4 0 0 25 ≠ N 0) : ccH1 x1 m rs = rI (N 0) m rs := by
  unfold ccH1 ccH0
  rw [ccIte, if_pos h, ccIte, if_pos h, ccE187z, ccBv, ccH2e h]
theorem ccE203e {x1 : Int32} {m : mMi} {rs : mRs} (h : m 4 0 0 25 ≠ N 0) : F203 x1 m rs = rI (N 0) m rs := by
  rw [ccE203w, ccE187e h, ccE187e h, ccBv, ccH1e h, ccIte]
  by_cases g : m 4 0 0 23 = N 1
  · rw [if_pos g]
  · rw [if_neg g]
theorem ccHand {mc mm : mMi} {b : Nat → Nat} {L e p s r kd w l n bd lm dp cl : Nat} {x1 : Int32} {β : Nat → Int32} {W : Nat → Nat} (c : ccCx mc b L e p) (m : ccMx mm b L e s r kd) (t : ccTok b L p s r kd) (q : ccBld mc mm w l n bd lm dp cl β W) :
    (∃ a mc₁ mm₁ s₁ r₁ kd₁, a < n ∧ N a ≠ x1 ∧ mc 0 2 13 a = I (-1) ∧ (∀ rs, F75 x1 mc rs = rI (N a) mc₁ rs) ∧ (∀ rs, F203 x1 mm rs = rI (N a) mm₁ rs) ∧ ccCx mc₁ b L e r ∧ ccMx mm₁ b L e s₁ r₁ kd₁ ∧ ccTok b L r s₁ r₁ kd₁ ∧ ccFc0 mc mc₁ ∧ ccFm0 mm mm₁ ∧ p ≤ r) ∨
    (∃ mc₁ mm₁, (∀ rs, F75 x1 mc rs = rI (I (-1)) mc₁ rs) ∧ (∀ rs, F203 x1 mm rs = rI (N 0) mm₁ rs) ∧ ccErd mc₁ mm₁ ∧ ccFc0 mc mc₁ ∧ ccFm0 mm mm₁) := by
  obtain ⟨w₁, w₂, w₃, w₄, w₅, w₆, w₇⟩ := ccTok_b t
  have q₀ := m.2.1.1
  have q₁ := m.1
  have m₈ := m.2.2.2.2.2.2.2.1
  have m₅ := m.2.2.2.2.1
  have m₄ := m.2.2.2.1
  have m₆ := m.2.2.2.2.2.1
  have b₃ : n ≤ 40 := q.1.2.2.2.2.2.2.2
  obtain ⟨m₁, k₁, k₂, k₃, k₄⟩ := ccE94x c t
  have bad : ∀ k, 1 ≤ k → k ≤ 5 → (∀ rs, F75 x1 mc rs = rI (I (-1)) (ccEc m₁ k s) rs) → (∀ rs, F203 x1 mm rs = rI (N 0) (ccEm mm k s) rs) → ∃ mc₁ mm₁, (∀ rs, F75 x1 mc rs = rI (I (-1)) mc₁ rs) ∧ (∀ rs, F203 x1 mm rs = rI (N 0) mm₁ rs) ∧ ccErd mc₁ mm₁ ∧ ccFc0 mc mc₁ ∧ ccFm0 mm mm₁ := fun k y₁ y₂ y₃ y₄ => ⟨_, _, y₃, y₄, ccErd_mk y₁ y₂ (by omega), ccFc0_tr k₄ ccEc_fr, ccEm_fr⟩
  have er : ∀ k, 1 ≤ k → k ≤ 5 → ccEm mm k s 4 0 0 25 ≠ N 0 := fun k y₁ y₂ => ccErd_e (ccErd_mk (mc := m₁) (s := s) y₁ y₂ (by omega))
  by_cases g : kd = 1
  rotate_left
  · have y₁ : ¬ N kd = N 1 := by rw [N_eq (by omega) (by omega)]; exact g
    refine Or.inr (bad 1 (by omega) (by omega) (fun rs => ?_) (fun rs => ?_))
    · unfold F75
      rw [k₁, ccBv, k₂.2.2.1, ccIte, if_neg y₁, ccE69 k₂.2.1, ccBi]
    · rw [ccE203w, m₆, ccIte, if_neg y₁, ccE187 m₈ m₅, ccBv, ccH1e (er 1 (by omega) (by omega))]
  subst g
  have nc₁ : m₁ 1 1 0 4 = N n := by rw [k₄ 1 1 0 4 (by omega) (by omega)]; exact q.1.2.2.1
  have qb := ccBld_fr q k₄ (ccFm0_rfl (m := mm))
  obtain ⟨v, nv₁, nv₂, nv₃⟩ := ccNames m t nc₁ q.2.1.2.2.1 b₃ qb.2.2.2.2.2.2.2.2.2.2.1
  have val := k₂.2.2.2.1 rfl
  have A : ∀ rs, F75 x1 mc rs = mifO (decide (v = (I (-1)))) (rI (I (-1)) (ccEc m₁ 3 s) rs) (mifO (decide (v = x1)) (rI (I (-1)) (ccEc m₁ 3 s) rs) (bI (F2 2 v m₁ rs) (fun u m r => mifO (decide (u ≠ (N 0))) (some (.inl (some (mI v)), m, r)) (bI (F69 (N 3) m r) (fun _ m r => some (.inl (some (mI (I (-1)))), m, r)))))) := fun rs => by
    unfold F75
    rw [k₁, ccBv, k₂.2.2.1, ccIte, if_pos rfl, val, nv₁, ccBi, ccE69 k₂.2.1, ccBi]
  have B : ∀ rs, F203 x1 mm rs = mifO (decide (v = (I (-1)))) (rI (N 0) (ccEm mm 3 s) rs) (mifO (decide (v = x1)) (rI (N 0) (ccEm mm 3 s) rs) (bI (F204 v (N 1) mm rs) (fun u m r => mifO (decide (u = (N 0))) (bV (F187 (N 0) (N 3) m r) (ccH2 v)) (bV (F187 (N 1) (N 3) m r) (ccH2 v))))) := fun rs => by
    rw [ccE203w, m₆, ccIte, if_pos rfl, ccE187z, ccBv]
    unfold ccH1
    rw [m₈, ccIf0, m₅, m₄, nv₂, ccBi]
    unfold ccH0
    rw [m₈, ccIf0, ccE187 m₈ m₅, ccBv, ccH2e (er 3 (by omega) (by omega))]
  rcases nv₃ with nv₃ | ⟨a, nv₃, ha⟩
  · refine Or.inr (bad 3 (by omega) (by omega) (fun rs => ?_) (fun rs => ?_))
    · rw [A, ccIte, if_pos nv₃]
    · rw [B, ccIte, if_pos nv₃]
  have y₁ : ¬ v = I (-1) := by rw [nv₃]; exact ccNI1 (by omega)
  by_cases g₁ : v = x1
  · refine Or.inr (bad 3 (by omega) (by omega) (fun rs => ?_) (fun rs => ?_))
    · rw [A, ccIte, if_neg y₁, ccIte, if_pos g₁]
    · rw [B, ccIte, if_neg y₁, ccIte, if_pos g₁]
  subst nv₃
  have hd : m₁ 0 2 13 a = mc 0 2 13 a := k₄ 0 2 13 a (by omega) (by omega)
  have rc := (q.2.2.2.2.2.2.1).2.2.1
  rcases ccHeldm rc ha with ⟨z₁, z₂⟩ | ⟨z₁, z₂⟩
  · have z₃ : mc 0 2 13 a = I (-1) := of_decide_eq_true z₁
    obtain ⟨mm₁, s₁, r₁, kd₁, h₁, h₂, h₃, h₄⟩ := ccE189x m w₃
    refine Or.inl ⟨a, m₁, mm₁, s₁, r₁, kd₁, ha, g₁, z₃, fun rs => ?_, fun rs => ?_, k₃, h₃, h₂, k₄, h₄, by omega⟩
    · rw [A, ccIte, if_neg y₁, ccIte, if_neg g₁, ccE2 (by omega), hd, decide_eq_true z₃, ccBi, ccT_t, ccIf1]
    · have x₈ := h₃.2.2.2.2.2.2.2.1
      rw [B, ccIte, if_neg y₁, ccIte, if_neg g₁, ccE204b (by omega), ccBi, z₂, ccIf0e, ccE187z, ccBv]
      unfold ccH2
      rw [h₁, ccBv, x₈, ccIf0e]
  · have z₃ : decide (mc 0 2 13 a = I (-1)) = false := z₁
    refine Or.inr (bad 3 (by omega) (by omega) (fun rs => ?_) (fun rs => ?_))
    · rw [A, ccIte, if_neg y₁, ccIte, if_neg g₁, ccE2 (by omega), hd, z₃, ccBi, ccT_f, ccIf0, ccE69 k₂.2.1, ccBi]
    · rw [B, ccIte, if_neg y₁, ccIte, if_neg g₁, ccE204b (by omega), ccBi, ccIte, if_neg z₂, ccE187 m₈ m₅, ccBv, ccH2e (er 3 (by omega) (by omega))]
