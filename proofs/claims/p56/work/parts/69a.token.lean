/-! LOAD: tokens, of the reference. -/
theorem ccBm_fr {m m₁ : mMi} {e : Nat} {b : Nat → Nat} (q : ccBm m e b) (h : ∀ p, m₁ 4 0 7 p = m 4 0 7 p) : ccBm m₁ e b := ⟨q.1, fun k y₁ => ⟨(q.2 k y₁).1, by rw [h]; exact (q.2 k y₁).2⟩⟩
theorem ccE183 {m : mMi} {e L k : Nat} {b : Nat → Nat} {rs : mRs} (q : ccBm m e b) (hL : L ≤ e) (h₁ : m 4 0 0 20 = N L) (h : k < L) : F183 (N k) m rs = rI (N (b k)) m rs := by
  have q₀ := q.1
  have e₂ : ¬ N L ≤ N k := by rw [N_le (by omega) (by omega)]; omega
  unfold F183
  rw [h₁, ccIte, if_neg e₂, ccMckIn (by omega) (by omega), mix_N (by omega), (q.2 k (by omega)).2]
theorem ccE183o {m : mMi} {L k : Nat} {rs : mRs} (h₁ : m 4 0 0 20 = N L) (h : L ≤ k) (h₂ : k < 2147483648) : F183 (N k) m rs = rI (I (-1)) m rs := by
  have e₂ : N L ≤ N k := by rw [N_le (by omega) (by omega)]; omega
  unfold F183
  rw [h₁, ccIte, if_pos e₂]
theorem ccE184 {m : mMi} {rs : mRs} {x : Nat} (h₁ : x < 1000) : F184 (N x) m rs = rI (ccT (decide (97 ≤ x) && decide (x ≤ 122))) m rs := by
  unfold F184
  by_cases h₄ : 97 ≤ x <;> by_cases h₅ : x ≤ 122 <;> simp (disch := omega) only [true_and, and_true, false_and, and_false, if_true, if_false, ccIte, ccBi, ccBiX, ccBv, ccBvX, ccZ0, ccZ1, ccTZ, ccT0, ccT1, Bool.or_false, ccMckT, ccMckIn, ne_eq, not_true_eq_false, not_false_eq_true, if_pos, if_neg, reduceIte, eq_self, Bool.false_eq_true, Bool.true_eq_false, mix_N, N_add, N_mul, N_sub, N_div, ccMod, N_lt, N_le, N_eq, ccNm, ccMN, ccNm2, ccM2N, ccMM2, ccM2M, ccMlt, ccMle, ccNltM, ccNleM, ccM2lt, ccM2le, ccNlt2, ccNle2, Nat.reduceAdd, Nat.reduceMul, Nat.reduceSub, Nat.reduceLT, Nat.reduceLeDiff, Nat.reduceEqDiff, Nat.reduceDiv, Nat.reduceMod, h₄, h₅, decide_true, decide_false, Bool.true_and, Bool.false_and, Bool.and_false] <;> rfl
theorem ccE185 {m : mMi} {rs : mRs} {x : Nat} (h₁ : x < 1000) : F185 (N x) m rs = rI (ccT (decide (48 ≤ x) && decide (x ≤ 57))) m rs := by
  unfold F185
  by_cases h₄ : 48 ≤ x <;> by_cases h₅ : x ≤ 57 <;> simp (disch := omega) only [true_and, and_true, false_and, and_false, if_true, if_false, ccIte, ccBi, ccBiX, ccBv, ccBvX, ccZ0, ccZ1, ccTZ, ccT0, ccT1, Bool.or_false, ccMckT, ccMckIn, ne_eq, not_true_eq_false, not_false_eq_true, if_pos, if_neg, reduceIte, eq_self, Bool.false_eq_true, Bool.true_eq_false, mix_N, N_add, N_mul, N_sub, N_div, ccMod, N_lt, N_le, N_eq, ccNm, ccMN, ccNm2, ccM2N, ccMM2, ccM2M, ccMlt, ccMle, ccNltM, ccNleM, ccM2lt, ccM2le, ccNlt2, ccNle2, Nat.reduceAdd, Nat.reduceMul, Nat.reduceSub, Nat.reduceLT, Nat.reduceLeDiff, Nat.reduceEqDiff, Nat.reduceDiv, Nat.reduceMod, h₄, h₅, decide_true, decide_false, Bool.true_and, Bool.false_and, Bool.and_false] <;> rfl
theorem ccMo97 : I (-1) < N 97 := by decide
theorem ccMo48 : I (-1) < N 48 := by decide
theorem ccE184m {m : mMi} {rs : mRs} : F184 (I (-1)) m rs = rI (N 0) m rs := by
  unfold F184
  rw [ccIte, if_pos ccMo97]
  rfl
theorem ccE185m {m : mMi} {rs : mRs} : F185 (I (-1)) m rs = rI (N 0) m rs := by
  unfold F185
  rw [ccIte, if_pos ccMo48]
  rfl
theorem ccBnd {a b : Prop} {i₁ : Decidable a} {i₂ : Decidable b} (h₁ : ¬ (a ∧ b)) : (decide a && decide b) = false := by
  by_cases g : a
  · rw [decide_eq_false (fun y₁ => h₁ ⟨g, y₁⟩), Bool.and_false]
  · rw [decide_eq_false g, Bool.false_and]
theorem ccBnd_t {a b : Prop} {i₁ : Decidable a} {i₂ : Decidable b} (h₁ : a ∧ b) : (decide a && decide b) = true := by
  rw [decide_eq_true h₁.1, decide_eq_true h₁.2]
  rfl
/-- what a token leaves behind, of the reference -/
def ccTr (m : mMi) (b : Nat → Nat) (s r kd : Nat) (m₁ : mMi) : Prop := m₁ 4 0 0 21 = N r ∧ m₁ 4 0 0 22 = N s ∧ m₁ 4 0 0 23 = N kd ∧ (kd = 2 → m₁ 4 0 0 24 = N (ccDcm (fun i => b (s + i)) (r - s))) ∧ ∀ f a j q, ¬ (f = 4 ∧ a = 0 ∧ j = 0 ∧ 21 ≤ q ∧ q ≤ 24) → m₁ f a j q = m f a j q
theorem ccTr_fr {m m₀ m₁ : mMi} {b : Nat → Nat} {s r kd : Nat} (h₁ : ccTr m₀ b s r kd m₁) (h₂ : ∀ f a j q, ¬ (f = 4 ∧ a = 0 ∧ j = 0 ∧ 21 ≤ q ∧ q ≤ 24) → m₀ f a j q = m f a j q) : ccTr m b s r kd m₁ := ⟨h₁.1, h₁.2.1, h₁.2.2.1, h₁.2.2.2.1, fun f a j q z₁ => by rw [h₁.2.2.2.2 f a j q z₁, h₂ f a j q z₁]⟩
theorem ccL182w {e L s r : Nat} {b : Nat → Nat} {x : Int32} (hL : L ≤ e) (h₃ : s < r) (h₄ : r ≤ L) (h₅ : ∀ i, s ≤ i → i < r → 97 ≤ b i ∧ b i ≤ 122) (h₆ : r < L → ¬ (97 ≤ b r ∧ b r ≤ 122)) : ∀ d p m, p + d = r → s ≤ p → ccBm m e b → m 4 0 0 20 = N L → m 4 0 0 21 = N p → m 4 0 0 22 = N s → ∃ m₁, (∀ f rs, F182_63 (f + d + 1) x m rs = rV m₁ rs) ∧ ccTr m b s r (if r - s ≤ 6 then 1 else 4) m₁ := by
  intro d
  induction d with
  | zero =>
    intro p m g₁ g₂ q h₀ h₁ h₂
    have q₀ := q.1
    have e₁ : p = r := by omega
    subst e₁
    have y₂ : N p - N s = N (p - s) := N_sub (by omega)
    have y₃ : ∀ rs, bI (F183 (N p) m rs) (fun v m r => F184 v m r) = rI (N 0) m rs := fun rs => by
      by_cases g₃ : p < L
      · have y₄ := (q.2 p (by omega)).1
        rw [ccE183 q hL h₀ g₃, ccBi, ccE184 (by omega), ccBnd (h₆ g₃), ccT_f]
      · rw [ccE183o h₀ (by omega) (by omega), ccBi, ccE184m]
    have y₅ : ∀ f rs, F182_63 (f + 1) x m rs = mifO (decide (N (p - s) ≤ N 6)) (rV (mset m 4 0 0 23 (N 1)) rs) (rV (mset m 4 0 0 23 (N 4)) rs) := fun f rs => by
      have y₆ : F182_63 (f + 1) x m rs = bI (bI (F183 (N p) m rs) (fun v m r => F184 v m r)) (fun v₂ m₂ r₂ => mifO (decide (v₂ = (N 0))) (mifO (decide (((m₂ 4 0 0 21) - (m₂ 4 0 0 22)) ≤ (N 6))) (some (.inl none, (mset m₂ 4 0 0 23 (N 1)), r₂)) (some (.inl none, (mset m₂ 4 0 0 23 (N 4)), r₂))) (F182_63 f x (mset m₂ 4 0 0 21 ((m₂ 4 0 0 21) + (N 1))) r₂)) := by
        rw [ccL182_63, h₁]
        by_cases g₃ : p < L
        · rw [ccE183 q hL h₀ g₃]
          rfl
        · rw [ccE183o h₀ (by omega) (by omega)]
          rfl
      rw [y₆, y₃, ccBi, ccIf0e, h₁, h₂, y₂]
    refine ⟨mset m 4 0 0 23 (N (if p - s ≤ 6 then 1 else 4)), fun f rs => ?_, ?_, ?_, ?_, fun z₁ => ?_, fun f a j q z₁ => by rw [ccRd, if_neg (by omega)]⟩
    · rw [Nat.add_zero, y₅, ccIte]
      by_cases g₃ : p - s ≤ 6
      · have z₁ : N (p - s) ≤ N 6 := by rw [N_le (by omega) (by omega)]; exact g₃
        rw [if_pos z₁, if_pos g₃]
      · have z₁ : ¬ N (p - s) ≤ N 6 := by rw [N_le (by omega) (by omega)]; exact g₃
        rw [if_neg z₁, if_neg g₃]
    · rw [ccRd, if_neg (by omega), h₁]
    · rw [ccRd, if_neg (by omega), h₂]
    · rw [ccRd, if_pos ⟨rfl, rfl, rfl, rfl⟩]
    · by_cases g₃ : p - s ≤ 6
      · rw [if_pos g₃] at z₁
        omega
      · rw [if_neg g₃] at z₁
        omega
  | succ d i₁ =>
    intro p m g₁ g₂ q h₀ h₁ h₂
    have q₀ := q.1
    have e₃ := h₅ p g₂ (by omega)
    obtain ⟨m₁, a₁, a₂⟩ := i₁ (p + 1) (mset m 4 0 0 21 (N (p + 1))) (by omega) (by omega) (ccBm_fr q (fun j => by rw [ccRd, if_neg (by omega)])) (by rw [ccRd, if_neg (by omega)]; exact h₀) (by rw [ccRd, if_pos ⟨rfl, rfl, rfl, rfl⟩]) (by rw [ccRd, if_neg (by omega)]; exact h₂)
    refine ⟨m₁, fun f rs => ?_, ccTr_fr a₂ (fun f a j p y₁ => by rw [ccRd, if_neg (by omega)])⟩
    have e₄ : f + (d + 1) + 1 = f + d + 1 + 1 := by omega
    rw [e₄, ccL182_63, h₁, ccE183 q hL h₀ (by omega), ccBi, ccE184 (by omega), ccBnd_t e₃, ccBi, ccT_t, ccIf1e, h₁, N_add]
    exact a₁ f rs
theorem ccL182n {e L s r : Nat} {b : Nat → Nat} {x : Int32} (hL : L ≤ e) (h₃ : s < r) (h₄ : r ≤ L) (h₅ : ∀ i, s ≤ i → i < r → 48 ≤ b i ∧ b i ≤ 57) (h₆ : r < L → ¬ (48 ≤ b r ∧ b r ≤ 57)) : ∀ d p m z, p + d = r → s ≤ p → ccBm m e b → m 4 0 0 20 = N L → m 4 0 0 21 = N p → m 4 0 0 22 = N s → m 4 0 0 24 = N z → (p - s ≤ 3 → z = ccDcm (fun i => b (s + i)) (p - s)) → ∃ m₁, (∀ f rs, F182_128 (f + d + 1) x m rs = rV m₁ rs) ∧ ccTr m b s r (if r - s ≤ 3 then 2 else 4) m₁ := by
  intro d
  induction d with
  | zero =>
    intro p m z g₁ g₂ q h₀ h₁ h₂ hz hz'
    have q₀ := q.1
    have e₁ : p = r := by omega
    subst e₁
    have y₂ : N p - N s = N (p - s) := N_sub (by omega)
    refine ⟨mset m 4 0 0 23 (N (if p - s ≤ 3 then 2 else 4)), fun f rs => ?_, ?_, ?_, ?_, fun z₁ => ?_, fun f a j q z₁ => by rw [ccRd, if_neg (by omega)]⟩
    · have y₅ : F182_128 (f + 1) x m rs = mifO (decide (N (p - s) ≤ N 3)) (rV (mset m 4 0 0 23 (N 2)) rs) (rV (mset m 4 0 0 23 (N 4)) rs) := by
        by_cases g₃ : p < L
        · have y₄ := (q.2 p (by omega)).1
          rw [ccL182_128, h₁, ccE183 q hL h₀ g₃, ccBi, ccE185 (by omega), ccBnd (h₆ g₃), ccT_f, ccBi, ccIf0e, h₁, h₂, y₂]
        · rw [ccL182_128, h₁, ccE183o h₀ (by omega) (by omega), ccBi, ccE185m, ccBi, ccIf0e, h₁, h₂, y₂]
      rw [Nat.add_zero, y₅, ccIte]
      by_cases g₃ : p - s ≤ 3
      · have z₁ : N (p - s) ≤ N 3 := by rw [N_le (by omega) (by omega)]; exact g₃
        rw [if_pos z₁, if_pos g₃]
      · have z₁ : ¬ N (p - s) ≤ N 3 := by rw [N_le (by omega) (by omega)]; exact g₃
        rw [if_neg z₁, if_neg g₃]
    · rw [ccRd, if_neg (by omega), h₁]
    · rw [ccRd, if_neg (by omega), h₂]
    · rw [ccRd, if_pos ⟨rfl, rfl, rfl, rfl⟩]
    · by_cases g₃ : p - s ≤ 3
      · rw [ccRd, if_neg (by omega), hz, hz' g₃]
      · rw [if_neg g₃] at z₁
        omega
  | succ d i₁ =>
    intro p m z g₁ g₂ q h₀ h₁ h₂ hz hz'
    have q₀ := q.1
    have e₃ := h₅ p g₂ (by omega)
    have y₂ : N p - N s = N (p - s) := N_sub (by omega)
    by_cases g₃ : 3 ≤ p - s
    · obtain ⟨m₁, a₁, a₂⟩ := i₁ (p + 1) (mset (mset m 4 0 0 24 (N 0)) 4 0 0 21 (N (p + 1))) 0 (by omega) (by omega) (ccBm_fr q (fun j => by rw [ccRd, if_neg (by omega), ccRd, if_neg (by omega)])) (by rw [ccRd, if_neg (by omega), ccRd, if_neg (by omega)]; exact h₀) (by rw [ccRd, if_pos ⟨rfl, rfl, rfl, rfl⟩]) (by rw [ccRd, if_neg (by omega), ccRd, if_neg (by omega)]; exact h₂) (by rw [ccRd, if_neg (by omega), ccRd, if_pos ⟨rfl, rfl, rfl, rfl⟩]) (fun z₁ => by omega)
      refine ⟨m₁, fun f rs => ?_, ccTr_fr a₂ (fun f a j p y₁ => by rw [ccRd, if_neg (by omega), ccRd, if_neg (by omega)])⟩
      have e₄ : f + (d + 1) + 1 = f + d + 1 + 1 := by omega
      have e₅ : N 3 ≤ N (p - s) := by rw [N_le (by omega) (by omega)]; exact g₃
      rw [e₄, ccL182_128, h₁, ccE183 q hL h₀ (by omega), ccBi, ccE185 (by omega), ccBnd_t e₃, ccBi, ccT_t, ccIf1e, h₁, h₂, y₂, ccIte, if_pos e₅, N_add]
      exact a₁ f rs
    · have w₁ := hz' (by omega)
      have w₂ : p + 1 - s = p - s + 1 := by omega
      have w₄ : s + (p - s) = p := by omega
      have w₃ : N 10 * N z + N (b p) - N 48 = N (ccDcm (fun i => b (s + i)) (p + 1 - s)) := by
        have w₅ : ccDcm (fun i => b (s + i)) (p + 1 - s) = 10 * z + b p - 48 := by
          rw [w₂, ccDcm_s, w₁, w₄]
          omega
        rw [w₅, N_mul, N_add, N_sub (by omega)]
      obtain ⟨m₁, a₁, a₂⟩ := i₁ (p + 1) (mset (mset m 4 0 0 24 (N (ccDcm (fun i => b (s + i)) (p + 1 - s)))) 4 0 0 21 (N (p + 1))) (ccDcm (fun i => b (s + i)) (p + 1 - s)) (by omega) (by omega) (ccBm_fr q (fun j => by rw [ccRd, if_neg (by omega), ccRd, if_neg (by omega)])) (by rw [ccRd, if_neg (by omega), ccRd, if_neg (by omega)]; exact h₀) (by rw [ccRd, if_pos ⟨rfl, rfl, rfl, rfl⟩]) (by rw [ccRd, if_neg (by omega), ccRd, if_neg (by omega)]; exact h₂) (by rw [ccRd, if_neg (by omega), ccRd, if_pos ⟨rfl, rfl, rfl, rfl⟩]) (fun z₁ => rfl)
      refine ⟨m₁, fun f rs => ?_, ccTr_fr a₂ (fun f a j p y₁ => by rw [ccRd, if_neg (by omega), ccRd, if_neg (by omega)])⟩
      have e₄ : f + (d + 1) + 1 = f + d + 1 + 1 := by omega
      have e₅ : ¬ N 3 ≤ N (p - s) := by rw [N_le (by omega) (by omega)]; exact g₃
      rw [e₄, ccL182_128, h₁, ccE183 q hL h₀ (by omega), ccBi, ccE185 (by omega), ccBnd_t e₃, ccBi, ccT_t, ccIf1e, h₁, h₂, y₂, ccIte, if_neg e₅, ccE183 q hL h₀ (by omega), ccBi, hz, w₃, h₁, N_add]
      exact a₁ f rs
/-- the token itself, behind the blanks -/
theorem ccE182k {m : mMi} {e L s r kd : Nat} {b : Nat → Nat} (q : ccBm m e b) (hL : L ≤ e) (h₁ : m 4 0 0 20 = N L) (h₂ : m 4 0 0 21 = N s) (h : ccTok b L s s r kd) : ∃ m₁, (∀ f rs, F182_0 (f + 1) m rs = rV m₁ rs) ∧ ccTr m b s r kd m₁ := by
  have q₀ := q.1
  obtain ⟨_, _, _, h₃⟩ := h
  obtain ⟨M, hM⟩ : ∃ M, M = mset m 4 0 0 22 (N s) := ⟨_, rfl⟩
  have fM : ∀ f a j p, ¬ (f = 4 ∧ a = 0 ∧ j = 0 ∧ p = 22) → M f a j p = m f a j p := fun f a j p y₁ => by rw [hM, ccRd, if_neg (by omega)]
  have qM : ccBm M e b := ccBm_fr q (fun p => fM 4 0 7 p (by omega))
  have M₁ : M 4 0 0 20 = N L := by rw [fM 4 0 0 20 (by omega)]; exact h₁
  have M₂ : M 4 0 0 21 = N s := by rw [fM 4 0 0 21 (by omega)]; exact h₂
  have M₃ : M 4 0 0 22 = N s := by rw [hM, ccRd, if_pos ⟨rfl, rfl, rfl, rfl⟩]
  rcases h₃ with ⟨e₁, e₂, e₃⟩ | ⟨e₁, e₂, e₃, e₄, h₄⟩
  · subst e₃
    have z₁ : I (-1) ≠ N 32 := by decide
    refine ⟨mset M 4 0 0 23 (N 0), fun f rs => ?_, ?_, ?_, ?_, fun z₁ => by omega, fun f a j q z₁ => ?_⟩
    · rw [ccL182_0, h₂, ccE183o h₁ (by omega) (by omega), ccBi, ccIte, if_pos z₁, h₂, ← hM, ccE183o M₁ (by omega) (by omega), ccBi, ccIte, if_neg (fun z₂ => z₂ rfl)]
    · rw [ccRd, if_neg (by omega), M₂, e₁, e₂]
    · rw [ccRd, if_neg (by omega), M₃]
    · rw [ccRd, if_pos ⟨rfl, rfl, rfl, rfl⟩]
    · rw [ccRd, if_neg (by omega), fM f a j q (by omega)]
  have bs := (q.2 s (by omega)).1
  have z₁ : N (b s) ≠ N 32 := by rw [ne_eq, N_eq (by omega) (by omega)]; exact e₂
  have z₂ : N (b s) ≠ I (-1) := ccNI1 (by omega)
  have k₁ : ∀ f rs, F182_0 (f + 1) m rs = bI (F184 (N (b s)) M rs) (fun v8 m8 r8 => mifO (decide (v8 = (N 0))) (bI (F185 (N (b s)) m8 r8) (fun v9 m9 r9 => mifO (decide (v9 = (N 0))) (mifO (decide ((N (b s)) ≠ (N 59))) (some (.inl none, (mset (mset m9 4 0 0 23 (N 4)) 4 0 0 21 ((m9 4 0 0 21) + (N 1))), r9)) (some (.inl none, (mset (mset m9 4 0 0 23 (N 3)) 4 0 0 21 ((m9 4 0 0 21) + (N 1))), r9))) (F182_128 FU (N (b s)) (mset m9 4 0 0 24 (N 0)) r9))) (F182_63 FU (N (b s)) m8 r8)) := fun f rs => by
    rw [ccL182_0, h₂, ccE183 q hL h₁ e₁, ccBi, ccIte, if_pos z₁, h₂, ← hM, ccE183 qM hL M₁ e₁, ccBi, ccIte, if_pos z₂]
  obtain ⟨f₁, hf⟩ := ccFU (k := r - s) (by omega)
  rcases h₄ with ⟨w₁, w₂, w₃⟩ | ⟨w₁, w₂, w₃⟩ | ⟨w₁, w₂, w₃, w₄⟩
  · have y₁ := w₁ s (by omega) e₃
    obtain ⟨m₁, a₁, a₂⟩ := ccL182w (x := N (b s)) hL e₃ e₄ w₁ w₂ (r - s) s M (by omega) (by omega) qM M₁ M₂ M₃
    rw [← w₃] at a₂
    refine ⟨m₁, fun f rs => ?_, ccTr_fr a₂ (fun f a j p y₂ => fM f a j p (by omega))⟩
    rw [k₁, ccE184 (by omega), ccBnd_t y₁, ccBi, ccT_t, ccIf1e, hf, a₁]
  · have y₁ := w₁ s (by omega) e₃
    have y₂ : ¬ (97 ≤ b s ∧ b s ≤ 122) := by omega
    have y₃ : s - s = 0 := by omega
    obtain ⟨m₁, a₁, a₂⟩ := ccL182n (x := N (b s)) hL e₃ e₄ w₁ w₂ (r - s) s (mset M 4 0 0 24 (N 0)) 0 (by omega) (by omega) (ccBm_fr qM (fun j => by rw [ccRd, if_neg (by omega)])) (by rw [ccRd, if_neg (by omega)]; exact M₁) (by rw [ccRd, if_neg (by omega)]; exact M₂) (by rw [ccRd, if_neg (by omega)]; exact M₃) (by rw [ccRd, if_pos ⟨rfl, rfl, rfl, rfl⟩]) (fun _ => by rw [y₃]; rfl)
    rw [← w₃] at a₂
    refine ⟨m₁, fun f rs => ?_, ccTr_fr a₂ (fun f a j p y₂ => by rw [ccRd, if_neg (by omega)]; exact fM f a j p (by omega))⟩
    rw [k₁, ccE184 (by omega), ccBnd y₂, ccBi, ccT_f, ccIf0e, ccE185 (by omega), ccBnd_t y₁, ccBi, ccT_t, ccIf1e, hf, a₁]
  · have y₁ : ∀ k, mset (mset M 4 0 0 23 (N k)) 4 0 0 21 (N (s + 1)) = mset (mset M 4 0 0 23 (N k)) 4 0 0 21 (N s + N 1) := fun k => by rw [N_add]
    have kb : kd ≠ 2 := by
      rw [w₄]
      by_cases g : b s = 59
      · rw [if_pos g]
        omega
      · rw [if_neg g]
        omega
    refine ⟨mset (mset M 4 0 0 23 (N kd)) 4 0 0 21 (N (s + 1)), fun f rs => ?_, ?_, ?_, ?_, fun z₃ => absurd z₃ kb, fun f a j q z₃ => ?_⟩
    · rw [k₁, ccE184 (by omega), ccBnd w₁, ccBi, ccT_f, ccIf0e, ccE185 (by omega), ccBnd w₂, ccBi, ccT_f, ccIf0e, M₂, N_add, ccIte]
      by_cases g : b s = 59
      · rw [if_neg (fun z₃ => z₃ (by rw [g])), w₄, if_pos g]
      · have z₃ : N (b s) ≠ N 59 := by rw [ne_eq, N_eq (by omega) (by omega)]; exact g
        rw [if_pos z₃, w₄, if_neg g]
    · rw [ccRd, if_pos ⟨rfl, rfl, rfl, rfl⟩, w₃]
    · rw [ccRd, if_neg (by omega), ccRd, if_neg (by omega), M₃]
    · rw [ccRd, if_neg (by omega), ccRd, if_pos ⟨rfl, rfl, rfl, rfl⟩]
    · rw [ccRd, if_neg (by omega), ccRd, if_neg (by omega), fM f a j q (by omega)]
theorem ccL182 {e L s r kd : Nat} {b : Nat → Nat} (hL : L ≤ e) : ∀ d p m, p + d = s → ccBm m e b → m 4 0 0 20 = N L → m 4 0 0 21 = N p → ccTok b L p s r kd → ∃ m₁, (∀ f rs, F182_0 (f + d + 1) m rs = rV m₁ rs) ∧ ccTr m b s r kd m₁ := by
  intro d
  induction d with
  | zero =>
    intro p m g₁ q h₁ h₂ h
    have e₁ : p = s := by omega
    subst e₁
    exact ccE182k q hL h₁ h₂ h
  | succ d i₁ =>
    intro p m g₁ q h₁ h₂ h
    have q₀ := q.1
    obtain ⟨w₁, w₂, w₃, w₄⟩ := h
    have e₁ := w₃ p (by omega) (by omega)
    have e₃ : ¬ N (b p) ≠ N 32 := fun z₁ => z₁ (by rw [e₁])
    obtain ⟨m₁, a₁, a₂⟩ := i₁ (p + 1) (mset m 4 0 0 21 (N (p + 1))) (by omega) (ccBm_fr q (fun j => by rw [ccRd, if_neg (by omega)])) (by rw [ccRd, if_neg (by omega)]; exact h₁) (by rw [ccRd, if_pos ⟨rfl, rfl, rfl, rfl⟩]) ⟨by omega, w₂, fun i y₁ y₂ => w₃ i (by omega) y₂, w₄⟩
    refine ⟨m₁, fun f rs => ?_, ccTr_fr a₂ (fun f a j p y₁ => by rw [ccRd, if_neg (by omega)])⟩
    have e₄ : f + (d + 1) + 1 = f + d + 1 + 1 := by omega
    rw [e₄, ccL182_0, h₂, ccE183 q hL h₁ (by omega), ccBi, ccIte, if_neg e₃, h₂, N_add]
    exact a₁ f rs
theorem ccE182 {m : mMi} {e L p s r kd : Nat} {b : Nat → Nat} (q : ccBm m e b) (hL : L ≤ e) (h₁ : m 4 0 0 20 = N L) (h₂ : m 4 0 0 21 = N p) (h : ccTok b L p s r kd) : ∃ m₁, (∀ rs, F182 m rs = rV m₁ rs) ∧ ccTr m b s r kd m₁ := by
  have q₀ := q.1
  have w₁ := h.1
  have w₂ := h.2.1
  obtain ⟨f, hf⟩ := ccFU (k := s - p) (by omega)
  obtain ⟨m₁, a₁, a₂⟩ := ccL182 hL (s - p) p m (by omega) q h₁ h₂ h
  refine ⟨m₁, fun rs => ?_, a₂⟩
  unfold F182
  rw [hf]
  exact a₁ f rs
