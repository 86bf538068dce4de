/-! WHAT CALLS ASK first, of the class and of the reference. -/
theorem ccAny (x : Int32) : (∃ a, x = N a ∧ a < 2147483648) ∨ (x < N 0 ∧ ∃ z : Int, x = I z ∧ z < 0 ∧ -2147483648 ≤ z) := by
  obtain ⟨z, e₁, e₂, e₃⟩ := I_all x
  by_cases h₁ : 0 ≤ z
  · exact Or.inl ⟨z.toNat, by rw [e₁, ← I_N]; congr 1; omega, by omega⟩
  · refine Or.inr ⟨?_, z, e₁, by omega, e₂⟩
    rw [e₁, ← I_N, I_lt (by omega) (by omega) (by omega) (by omega)]
    omega
theorem ccE115t {m : mMi} {rs : mRs} : F115 (N 1) m rs = rV m rs := rfl
theorem ccE115f {m : mMi} {rs : mRs} : F115 (N 0) m rs = rX 1 m (rsT rs) := rfl
theorem ccE107t {m : mMi} {rs : mRs} : F107 (N 1) m rs = rV m rs := rfl
theorem ccE107f {m : mMi} {rs : mRs} : F107 (N 0) m rs = rX 3 m (rsT rs) := rfl
theorem ccE114t {m : mMi} {rs : mRs} (h₁ : m 2 0 0 10 = N 1) : F114 m rs = rV m rs := by
  unfold F114
  rw [h₁, ccE115t]
  rfl
theorem ccE114f {m : mMi} {rs : mRs} (h₁ : m 2 0 0 10 = N 0) : F114 m rs = rX 1 m (rsT rs) := by
  unfold F114
  rw [h₁, ccE115f]
  rfl
theorem ccE106 {m : mMi} {rs : mRs} {a b : Nat} (h₁ : a < 2147483648) (h₂ : b < 2147483648) : F106 (N a) (N b) m rs = if a < b then rV m rs else rX 2 m (rsT rs) := by
  unfold F106
  simp (disch := omega) only [true_and, and_true, false_and, and_false, if_true, if_false, ccIte, ccBi, ccBiX, ccBv, ccBvX, ccZ0, ccZ1, ccTZ, ccT0, ccT1, Bool.or_false, ccMckT, ccMckIn, ne_eq, not_true_eq_false, not_false_eq_true, if_pos, if_neg, reduceIte, eq_self, Bool.false_eq_true, Bool.true_eq_false, mix_N, N_add, N_mul, N_sub, N_div, ccMod, N_lt, N_le, N_eq, ccNm, ccMN, ccNm2, ccM2N, ccMM2, ccM2M, ccMlt, ccMle, ccNltM, ccNleM, ccM2lt, ccM2le, ccNlt2, ccNle2, Nat.reduceAdd, Nat.reduceMul, Nat.reduceSub, Nat.reduceLT, Nat.reduceLeDiff, Nat.reduceEqDiff, Nat.reduceDiv, Nat.reduceMod]
theorem ccE106n {m : mMi} {rs : mRs} {x y : Int32} (h₁ : x < N 0) : F106 x y m rs = rX 2 m (rsT rs) := by
  unfold F106
  rw [ccIte, if_pos h₁]
theorem ccE117 {m : mMi} {rs : mRs} {a b c : Nat} (h₁ : a < 2147483648) (h₂ : b < 2147483648) (h₃ : c < 2147483648) : F117 (N a) (N b) (N c) m rs = if b ≤ a ∧ a ≤ c then rV m rs else rX 3 m (rsT rs) := by
  unfold F117
  by_cases h₄ : b ≤ a <;> by_cases h₅ : a ≤ c <;> simp (disch := omega) only [true_and, and_true, false_and, and_false, if_true, if_false, ccIte, ccBi, ccBiX, ccBv, ccBvX, ccZ0, ccZ1, ccTZ, ccT0, ccT1, Bool.or_false, ccMckT, ccMckIn, ne_eq, not_true_eq_false, not_false_eq_true, if_pos, if_neg, reduceIte, eq_self, Bool.false_eq_true, Bool.true_eq_false, mix_N, N_add, N_mul, N_sub, N_div, ccMod, N_lt, N_le, N_eq, ccNm, ccMN, ccNm2, ccM2N, ccMM2, ccM2M, ccMlt, ccMle, ccNltM, ccNleM, ccM2lt, ccM2le, ccNlt2, ccNle2, Nat.reduceAdd, Nat.reduceMul, Nat.reduceSub, Nat.reduceLT, Nat.reduceLeDiff, Nat.reduceEqDiff, Nat.reduceDiv, Nat.reduceMod, ccE107t, ccE107f]
theorem ccE117n {m : mMi} {rs : mRs} {x y : Int32} {b : Nat} (h₁ : x < N 0) (h₂ : b < 2147483648) : F117 x (N b) y m rs = rX 3 m (rsT rs) := by
  have h₃ : x < N b := by
    rw [Int32.lt_iff_toInt_lt] at h₁ ⊢
    rw [N_toInt (by omega)] at h₁
    rw [N_toInt h₂]
    omega
  unfold F117
  rw [ccIte, if_pos h₃, ccE107f]
  rfl
theorem ccE120 {m : mMi} {rs : mRs} {r w l n : Nat} {x : Int32} (h₁ : m 2 0 0 10 = N 1) (q₁ : ccRu m 0 w l n) : F120 x m rs = bV (F106 x (N n) m rs) (fun m r => rV m r) := by
  unfold F120
  rw [ccE114t h₁, ccBv, q₁.2.2.1]
/-! the reference -/
theorem ccE178f {m : mMi} {rs : mRs} {x : Int32} (h₁ : m 4 0 0 0 = N 0) : F178 (N 0) x m rs = rI (N 0) m rs := by
  unfold F178
  rw [h₁]
  rfl
theorem ccE178t {m : mMi} {rs : mRs} {c : Nat} (h₁ : m 4 0 0 0 = N 0) (h₂ : 1 ≤ c) (h₃ : c < 4) : F178 (N 1) (N c) m rs = rI (N 1) (mset m 4 0 0 0 (N c)) rs := by
  unfold F178
  simp (disch := omega) only [true_and, and_true, false_and, and_false, if_true, if_false, ccIte, ccBi, ccBiX, ccBv, ccBvX, ccZ0, ccZ1, ccTZ, ccT0, ccT1, Bool.or_false, ccMckT, ccMckIn, ne_eq, not_true_eq_false, not_false_eq_true, if_pos, if_neg, reduceIte, eq_self, Bool.false_eq_true, Bool.true_eq_false, mix_N, N_add, N_mul, N_sub, N_div, ccMod, N_lt, N_le, N_eq, ccNm, ccMN, ccNm2, ccM2N, ccMM2, ccM2M, ccMlt, ccMle, ccNltM, ccNleM, ccM2lt, ccM2le, ccNlt2, ccNle2, Nat.reduceAdd, Nat.reduceMul, Nat.reduceSub, Nat.reduceLT, Nat.reduceLeDiff, Nat.reduceEqDiff, Nat.reduceDiv, Nat.reduceMod, h₁, ccRd]
theorem ccT0s {m : mMi} {v : Int32} : mset m 4 0 0 0 v 4 0 0 0 = v := by
  rw [ccRd, if_pos ⟨rfl, rfl, rfl, rfl⟩]
theorem ccE230t {m : mMi} {rs : mRs} (h₁ : m 4 0 0 1 = N 1) : F230 m rs = rI (N 0) (mset m 4 0 0 0 (N 0)) rs := by
  unfold F230
  rw [h₁, ccE178f ccT0s]
  rfl
theorem ccE230f {m : mMi} {rs : mRs} (h₁ : m 4 0 0 1 = N 0) : F230 m rs = rI (N 1) (mset (mset m 4 0 0 0 (N 0)) 4 0 0 0 (N 1)) rs := by
  unfold F230
  rw [h₁, ccE178t ccT0s (by omega) (by omega)]
  rfl
theorem ccE177n {m : mMi} {rs : mRs} {x y : Int32} {b : Nat} (h₁ : x < N 0) (h₂ : b < 2147483648) : F177 x (N b) y m rs = rI (ccT false) m rs := by
  have h₃ : x < N b := by
    rw [Int32.lt_iff_toInt_lt] at h₁ ⊢
    rw [N_toInt (by omega)] at h₁
    rw [N_toInt h₂]
    omega
  unfold F177
  rw [ccIte, if_pos h₃]
  rfl
theorem ccE177' {m : mMi} {rs : mRs} {a b d : Nat} (h₁ : a < 2147483648) (h₂ : b < 2147483648) (h₃ : d < 2147483648) : F177 (N a) (N b) (N d) m rs = rI (ccT (decide (b ≤ a) && decide (a ≤ d))) m rs := by
  unfold F177
  by_cases h₄ : b ≤ a <;> by_cases h₅ : a ≤ d <;> simp (disch := omega) only [true_and, and_true, false_and, and_false, if_true, if_false, ccIte, ccBi, ccBiX, ccBv, ccBvX, ccZ0, ccZ1, ccTZ, ccT0, ccT1, Bool.or_false, ccMckT, ccMckIn, ne_eq, not_true_eq_false, not_false_eq_true, if_pos, if_neg, reduceIte, eq_self, Bool.false_eq_true, Bool.true_eq_false, mix_N, N_add, N_mul, N_sub, N_div, ccMod, N_lt, N_le, N_eq, ccNm, ccMN, ccNm2, ccM2N, ccMM2, ccM2M, ccMlt, ccMle, ccNltM, ccNleM, ccM2lt, ccM2le, ccNlt2, ccNle2, Nat.reduceAdd, Nat.reduceMul, Nat.reduceSub, Nat.reduceLT, Nat.reduceLeDiff, Nat.reduceEqDiff, Nat.reduceDiv, Nat.reduceMod, h₄, h₅, decide_true, decide_false, Bool.true_and, Bool.false_and, Bool.and_false] <;> rfl
theorem ccJk0 : ccJk 4 0 0 0 := by unfold ccJk; omega
theorem ccEq_t {m₁ m₂ : mMi} {v : Int32} (h₁ : ccEq m₁ m₂) : ccEq m₁ (mset m₂ 4 0 0 0 v) := ccEq_set h₁ ccJk0
/-- no text is loaded: class and reference refuse alike -/
theorem ccOk_un {B : Nat} {Fc Fm : mMi → mRs → mRz} {ec : List (Nat × Nat)} {m : mMi} {b : Int32} (h₁ : ccTop B m) (h₂ : ccUn m) (h₀ : (1, 1) ∈ ec) (h₃ : ∀ rs, F114 m rs = rX 1 m (rsT rs) → Fc m rs = rX 1 m (rsT rs)) (h₄ : ∀ rs, F230 m rs = rI (N 1) (mset (mset m 4 0 0 0 (N 0)) 4 0 0 0 (N 1)) rs → Fm m rs = rI b (mset (mset m 4 0 0 0 (N 0)) 4 0 0 0 (N 1)) rs) : ccOk B Fc Fm ec m :=
  ccOk_x h₁ h₀ (fun rs => h₃ rs (ccE114f h₂.1)) (fun rs => h₄ rs (ccE230f h₂.2.1)) ccT0s (ccEq_t (ccEq_t ccEq_rfl))
/-! the plain ones -/
theorem ccOk_100 {B : Nat} {m : mMi} (h₁ : ccTop B m) : ccOk B F100 F174 [] m := by
  have e₁ := h₁.2.1.1
  refine ccOk_q (v := m 2 3 0 3) (m₁ := m) (m₂ := mset m 4 0 0 0 (N 0)) h₁ (fun rs => rfl) (fun rs => ?_) ccT0s ccEq_rfl (ccEq_t ccEq_rfl) (fun _ _ _ => rfl)
  unfold F174
  rw [e₁]
theorem ccOk_101 {B : Nat} {m : mMi} (h₁ : ccTop B m) : ccOk B F101 F175 [] m := by
  have e₁ := h₁.2.1.2
  refine ccOk_q (v := m 2 3 0 4) (m₁ := m) (m₂ := mset m 4 0 0 0 (N 0)) h₁ (fun rs => rfl) (fun rs => ?_) ccT0s ccEq_rfl (ccEq_t ccEq_rfl) (fun _ _ _ => rfl)
  unfold F175
  rw [e₁]
theorem ccOk_102 {B : Nat} {m : mMi} (h₁ : ccTop B m) : ccOk B F102 F173 [] m := by
  obtain ⟨e, _, e₁, e₂, _⟩ := h₁.1
  refine ccOk_q (v := N e) (m₁ := m) (m₂ := mset m 4 0 0 0 (N 0)) h₁ (fun rs => ?_) (fun rs => ?_) ccT0s ccEq_rfl (ccEq_t ccEq_rfl) (fun _ _ _ => rfl)
  · unfold F102
    rw [e₁]
  · unfold F173
    rw [e₂]
theorem ccOk_103 {B : Nat} {m : mMi} (h₁ : ccTop B m) : ccOk B F103 F306 [] m := by
  have e₀ : m 2 5 0 1 = m 4 0 0 14 := by
    rcases h₁.2.2.2 with h₂ | ⟨w, l, n, bd, lm, dp, cl, β, W, h₂⟩
    · obtain ⟨k, x, _, _, e₁, e₂, _⟩ := h₂.2.2.1
      rw [e₁, e₂]
    · obtain ⟨k, x, _, _, e₁, e₂, _⟩ := h₂.2.2.2.2.1
      rw [e₁, e₂]
  refine ccOk_q (v := m 2 5 0 1) (m₁ := m) (m₂ := mset m 4 0 0 0 (N 0)) h₁ (fun rs => rfl) (fun rs => ?_) ccT0s ccEq_rfl (ccEq_t ccEq_rfl) (fun _ _ _ => rfl)
  unfold F306
  rw [e₀]
