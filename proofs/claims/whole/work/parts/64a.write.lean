/-! NUMBERS and names, as text. -/
theorem ccWR_if {m₀ : mMi} {A D : mMi → mRs → mRz} {t : List Nat} {c : Prop} {i₁ : Decidable c} (h₁ : c → ccWR m₀ A t) (h₂ : ¬ c → ccWR m₀ D t) : ccWR m₀ (fun m r => mifO (decide c) (A m r) (D m r)) t := fun m e rs g₁ g₂ g₃ => by
  show mifO (decide c) (A m rs) (D m rs) = _
  rw [ccIte]
  by_cases h₃ : c
  · rw [if_pos h₃]
    exact h₁ h₃ m e rs g₁ g₂ g₃
  · rw [if_neg h₃]
    exact h₂ h₃ m e rs g₁ g₂ g₃
theorem ccVR_if {m₀ : mMi} {A D : mMi → mRs → mRz} {t : List Nat} {c : Prop} {i₁ : Decidable c} (h₁ : c → ccVR m₀ A t) (h₂ : ¬ c → ccVR m₀ D t) : ccVR m₀ (fun m r => mifO (decide c) (A m r) (D m r)) t := fun m e rs g₁ g₂ g₃ => by
  show mifO (decide c) (A m rs) (D m rs) = _
  rw [ccIte]
  by_cases h₃ : c
  · rw [if_pos h₃]
    exact h₁ h₃ m e rs g₁ g₂ g₃
  · rw [if_neg h₃]
    exact h₂ h₃ m e rs g₁ g₂ g₃
theorem ccWR_k {m₀ : mMi} {A : mMi → mRs → mRz} {t : List Nat} {b : mMi → Bool} (h₁ : ∀ m, ccAw m₀ m → b m = true) (h₂ : ccWR m₀ A t) : ccWR m₀ (fun m r => mckO (b m) (A m r)) t := fun m e rs g₁ g₂ g₃ => by
  show mckO (b m) (A m rs) = _
  rw [ccMck (h₁ m g₁)]
  exact h₂ m e rs g₁ g₂ g₃
theorem ccVR_k {m₀ : mMi} {A : mMi → mRs → mRz} {t : List Nat} {b : mMi → Bool} (h₁ : ∀ m, ccAv m₀ m → b m = true) (h₂ : ccVR m₀ A t) : ccVR m₀ (fun m r => mckO (b m) (A m r)) t := fun m e rs g₁ g₂ g₃ => by
  show mckO (b m) (A m rs) = _
  rw [ccMck (h₁ m g₁)]
  exact h₂ m e rs g₁ g₂ g₃
/-- the digits of x, from the k-th down -/
def ccDig (b z x : Nat) : Nat → List Nat
  | 0 => [z + x / b ^ 0 % b]
  | k + 1 => (z + x / b ^ (k + 1) % b) :: ccDig b z x k
theorem ccDig_len {b z x : Nat} : ∀ k, (ccDig b z x k).length = k + 1 := by
  intro k
  induction k with
  | zero => rfl
  | succ k i₁ =>
    show ((z + x / b ^ (k + 1) % b) :: ccDig b z x k).length = _
    rw [List.length_cons, i₁]
theorem ccPw {b k : Nat} (h₁ : 2 ≤ b) (h₂ : b ≤ 27) (h₃ : k ≤ 5) : 0 < b ^ k ∧ b ^ k ≤ 14348907 := by
  have e₁ := Nat.pow_le_pow_left h₂ k
  have e₂ : 27 ^ k ≤ 27 ^ 5 := Nat.pow_le_pow_right (by omega) h₃
  have e₃ : 27 ^ 5 = 14348907 := rfl
  exact ⟨Nat.pow_pos (by omega), by omega⟩
theorem ccNz {a : Nat} (h₁ : 0 < a) (h₂ : a < 2147483648) : (!(decide (N a = 0))) = true := by
  have e₁ : (0 : Int32) = N 0 := rfl
  have e₂ : ¬ N a = 0 := by rw [e₁, N_eq (by omega) (by omega)]; omega
  rw [decide_eq_false e₂]
  rfl
theorem ccDg1 {x z b q : Nat} (h₁ : x < 2147483648) (h₂ : 0 < q) (h₃ : q < 2147483648) (h₄ : 0 < b) (h₅ : b < 1000) : N z + (N x / N q - N x / N q / N b * N b) = N (z + x / q % b) := by
  have e₁ := Nat.div_le_self x q
  rw [N_div (by omega) (by omega) (by omega), N_rem (by omega) (by omega) (by omega), N_add]
theorem ccE90_33 {b z x : Nat} {y : Int32} (h₁ : 2 ≤ b) (h₂ : b ≤ 27) (h₃ : z + b ≤ 128) (h₄ : x < 2147483648) : ∀ k m e f rs, k ≤ 5 → m 2 7 0 1 = N e → e + (k + 1) ≤ 240 → F90_33 (f + k + 2) (N x) (N b) (N z) (N (b ^ k)) y m rs = rV (ccTwL (ccDig b z x k) m e) rs := by
  intro k
  induction k with
  | zero =>
    intro m e f rs _ g₁ g₂
    have p₁ : b ^ 0 = 1 := rfl
    have p₂ : ¬ N 1 ≤ N 0 := by rw [N_le (by omega) (by omega)]; omega
    have p₃ := Nat.mod_lt (x / 1) (by omega : b > 0)
    have p₄ : N 1 / N b = N 0 := by
      rw [N_div (by omega) (by omega) (by omega)]
      congr 1
      exact Nat.div_eq_of_lt (by omega)
    have p₅ : N 0 ≤ N 0 := by rw [N_le (by omega) (by omega)]; omega
    have p₆ : f + 0 + 2 = f + 1 + 1 := by omega
    rw [p₁, p₆, ccL90_33, ccIte, if_neg p₂, ccMck (ccNz (by omega) (by omega)), ccMck (ccNz (by omega) (by omega)), ccDg1 h₄ (by omega) (by omega) (by omega) (by omega), ccE88 g₁ (by omega) (by omega), ccBv, ccMck (ccNz (by omega) (by omega)), p₄, ccL90_33, ccIte, if_pos p₅]
    rfl
  | succ k i₁ =>
    intro m e f rs g₀ g₁ g₂
    obtain ⟨q₁, q₂⟩ := ccPw h₁ h₂ g₀
    obtain ⟨P, hP⟩ : ∃ P, P = b ^ (k + 1) := ⟨_, rfl⟩
    have p₁ : P / b = b ^ k := by
      rw [hP, Nat.pow_succ]
      exact Nat.mul_div_cancel _ (by omega)
    rw [← hP] at q₁ q₂
    have p₂ : ¬ N P ≤ N 0 := by rw [N_le (by omega) (by omega)]; omega
    have p₃ := Nat.mod_lt (x / P) (by omega : b > 0)
    have p₄ : N P / N b = N (b ^ k) := by rw [N_div (by omega) (by omega) (by omega), p₁]
    have p₆ : f + (k + 1) + 2 = f + k + 2 + 1 := by omega
    rw [← hP, p₆, ccL90_33, ccIte, if_neg p₂, ccMck (ccNz (by omega) (by omega)), ccMck (ccNz (by omega) (by omega)), ccDg1 h₄ (by omega) (by omega) (by omega) (by omega), ccE88 g₁ (by omega) (by omega), ccBv, ccMck (ccNz (by omega) (by omega)), p₄, i₁ _ (e + 1) f rs (by omega) (ccTwL_n _ _ _ g₁) (by omega), hP]
    rfl
theorem ccE90_6 {b z x k : Nat} {f₂ : Nat} (h₁ : 2 ≤ b) (h₂ : b ≤ 27) (h₄ : x < 2147483648) (h₅ : k ≤ 5) (h₆ : x / b ^ k < b) (h₇ : ∀ j, j < k → ¬ x / b ^ j < b) : ∀ d j f m rs, j + d = k → F90_6 (f + d + 1) (N x) (N b) (N z) (N (b ^ j)) (N (j + 1)) m rs = F90_33 FU (N x) (N b) (N z) (N (b ^ k)) (N (k + 1)) m rs := by
  intro d
  induction d with
  | zero =>
    intro j f m rs g₁
    have e₁ : j = k := by omega
    subst e₁
    obtain ⟨q₁, q₂⟩ := ccPw h₁ h₂ h₅
    have e₂ := Nat.div_le_self x (b ^ j)
    have e₃ : N x / N (b ^ j) < N b := by
      rw [N_div (by omega) (by omega) (by omega), N_lt (by omega) (by omega)]
      exact h₆
    rw [ccL90_6, ccIte]
    by_cases g₂ : N 6 ≤ N (j + 1)
    · rw [if_pos g₂]
    · rw [if_neg g₂, ccMck (ccNz (by omega) (by omega)), ccIte, if_pos e₃]
  | succ d i₁ =>
    intro j f m rs g₁
    obtain ⟨q₁, q₂⟩ := ccPw h₁ h₂ (by omega : j ≤ 5)
    have e₁ : f + (d + 1) + 1 = f + d + 1 + 1 := by omega
    have e₂ := Nat.div_le_self x (b ^ j)
    have e₃ : ¬ N x / N (b ^ j) < N b := by
      rw [N_div (by omega) (by omega) (by omega), N_lt (by omega) (by omega)]
      exact h₇ j (by omega)
    have g₂ : ¬ N 6 ≤ N (j + 1) := by rw [N_le (by omega) (by omega)]; omega
    have e₄ : N (b ^ j) * N b = N (b ^ (j + 1)) := by rw [N_mul, Nat.pow_succ]
    rw [e₁, ccL90_6, ccIte, if_neg g₂, ccMck (ccNz (by omega) (by omega)), ccIte, if_neg e₃, e₄, N_add]
    exact i₁ (j + 1) f m rs (by omega)
theorem ccE90 {m : mMi} {rs : mRs} {b z x k e : Nat} (h₁ : 2 ≤ b) (h₂ : b ≤ 27) (h₃ : z + b ≤ 128) (h₄ : x < 2147483648) (h₅ : k ≤ 5) (h₆ : x / b ^ k < b) (h₇ : ∀ j, j < k → ¬ x / b ^ j < b) (g₁ : m 2 7 0 1 = N e) (g₂ : e + (k + 1) ≤ 240) : F90 (N x) (N b) (N z) m rs = rV (ccTwL (ccDig b z x k) m e) rs := by
  obtain ⟨f₁, hf₁⟩ := ccFU (k := k) (by omega)
  obtain ⟨f₂, hf₂⟩ := ccFU (k := k + 1) (by omega)
  have e₁ := ccE90_6 (z := z) (f₂ := 0) h₁ h₂ h₄ h₅ h₆ h₇ k 0 f₁ m rs (by omega)
  have e₂ := ccE90_33 (y := N (k + 1)) h₁ h₂ h₃ h₄ k m e f₂ rs h₅ g₁ g₂
  have e₃ : f₂ + (k + 1) + 1 = f₂ + k + 2 := by omega
  unfold F90
  rw [← hf₁] at e₁
  rw [← e₃, ← hf₂] at e₂
  rw [← e₂, ← e₁]
  rfl
def ccDk (x : Nat) : Nat := if x < 10 then 0 else if x < 100 then 1 else if x < 1000 then 2 else 3
def ccNl (x : Nat) : List Nat := ccDig 10 48 x (ccDk x)
theorem ccDk_is {x : Nat} (h₁ : x < 10000) : ccDk x ≤ 3 ∧ x / 10 ^ (ccDk x) < 10 ∧ ∀ j, j < ccDk x → ¬ x / 10 ^ j < 10 := by
  have p₀ : 10 ^ 0 = 1 := rfl
  have p₁ : 10 ^ 1 = 10 := rfl
  have p₂ : 10 ^ 2 = 100 := rfl
  have p₃ : 10 ^ 3 = 1000 := rfl
  unfold ccDk
  by_cases g₁ : x < 10
  · rw [if_pos g₁, p₀]
    exact ⟨by omega, by omega, fun j y₁ => by omega⟩
  · rw [if_neg g₁]
    by_cases g₂ : x < 100
    · rw [if_pos g₂, p₁]
      refine ⟨by omega, by omega, fun j y₁ => ?_⟩
      have y₂ : j = 0 := by omega
      rw [y₂, p₀]
      omega
    · rw [if_neg g₂]
      by_cases g₃ : x < 1000
      · rw [if_pos g₃, p₂]
        refine ⟨by omega, by omega, fun j y₁ => ?_⟩
        have y₂ : j = 0 ∨ j = 1 := by omega
        rcases y₂ with y₂ | y₂
        · rw [y₂, p₀]
          omega
        · rw [y₂, p₁]
          omega
      · rw [if_neg g₃, p₃]
        refine ⟨by omega, by omega, fun j y₁ => ?_⟩
        have y₂ : j = 0 ∨ j = 1 ∨ j = 2 := by omega
        rcases y₂ with y₂ | y₂ | y₂
        · rw [y₂, p₀]
          omega
        · rw [y₂, p₁]
          omega
        · rw [y₂, p₂]
          omega
theorem ccNl_len {x : Nat} : (ccNl x).length = ccDk x + 1 := ccDig_len _
theorem ccW_num {m₀ : mMi} {x : Nat} (h₁ : x < 10000) : ccW m₀ (F91 (N x)) (ccNl x) := fun m e rs _ g₂ g₃ => by
  obtain ⟨q₁, q₂, q₃⟩ := ccDk_is h₁
  rw [ccNl_len] at g₃
  unfold F91
  rw [ccE90 (by omega) (by omega) (by omega) (by omega) (by omega) q₂ q₃ g₂ g₃, ccBv]
  rfl
theorem ccE285_18 {x : Nat} (h₄ : x < 2147483648) : ∀ k m e f rs, k ≤ 5 → m 4 0 0 36 = N e → e + (k + 1) ≤ 240 → F285_18 (f + k + 2) (N x) (N (10 ^ k)) m rs = rV (ccTmL (ccDig 10 48 x k) m e) rs := by
  intro k
  induction k with
  | zero =>
    intro m e f rs _ g₁ g₂
    have p₁ : 10 ^ 0 = 1 := rfl
    have p₂ : ¬ N 1 ≤ N 0 := by rw [N_le (by omega) (by omega)]; omega
    have p₄ : N 1 / N 10 = N 0 := by rw [N_div (by omega) (by omega) (by omega)]
    have p₅ : N 0 ≤ N 0 := by rw [N_le (by omega) (by omega)]; omega
    have p₆ : f + 0 + 2 = f + 1 + 1 := by omega
    rw [p₁, p₆, ccL285_18, ccIte, if_neg p₂, ccMck (ccNz (by omega) (by omega)), ccDg1 h₄ (by omega) (by omega) (by omega) (by omega), ccE282 g₁ (by omega), ccBv, p₄, ccL285_18, ccIte, if_pos p₅]
    rfl
  | succ k i₁ =>
    intro m e f rs g₀ g₁ g₂
    obtain ⟨q₁, q₂⟩ := ccPw (b := 10) (by omega) (by omega) g₀
    obtain ⟨P, hP⟩ : ∃ P, P = 10 ^ (k + 1) := ⟨_, rfl⟩
    have p₁ : P / 10 = 10 ^ k := by
      rw [hP, Nat.pow_succ]
      exact Nat.mul_div_cancel _ (by omega)
    rw [← hP] at q₁ q₂
    have p₂ : ¬ N P ≤ N 0 := by rw [N_le (by omega) (by omega)]; omega
    have p₄ : N P / N 10 = N (10 ^ k) := by rw [N_div (by omega) (by omega) (by omega), p₁]
    have p₆ : f + (k + 1) + 2 = f + k + 2 + 1 := by omega
    rw [← hP, p₆, ccL285_18, ccIte, if_neg p₂, ccMck (ccNz (by omega) (by omega)), ccDg1 h₄ (by omega) (by omega) (by omega) (by omega), ccE282 g₁ (by omega), ccBv, p₄, i₁ _ (e + 1) f rs (by omega) (ccTmL_n _ _ _ g₁) (by omega), hP]
    rfl
theorem ccE285_2 {x k : Nat} (h₄ : x < 2147483648) (h₅ : k ≤ 5) (h₆ : x / 10 ^ k < 10) (h₇ : ∀ j, j < k → ¬ x / 10 ^ j < 10) : ∀ d j f m rs, j + d = k → F285_2 (f + d + 1) (N x) (N (10 ^ j)) m rs = F285_18 FU (N x) (N (10 ^ k)) m rs := by
  intro d
  induction d with
  | zero =>
    intro j f m rs g₁
    have e₁ : j = k := by omega
    subst e₁
    obtain ⟨q₁, q₂⟩ := ccPw (b := 10) (by omega) (by omega) h₅
    have e₂ := Nat.div_le_self x (10 ^ j)
    have e₃ : N x / N (10 ^ j) < N 10 := by
      rw [N_div (by omega) (by omega) (by omega), N_lt (by omega) (by omega)]
      exact h₆
    rw [ccL285_2, ccMck (ccNz (by omega) (by omega)), ccIte, if_pos e₃]
  | succ d i₁ =>
    intro j f m rs g₁
    obtain ⟨q₁, q₂⟩ := ccPw (b := 10) (by omega) (by omega) (by omega : j ≤ 5)
    have e₁ : f + (d + 1) + 1 = f + d + 1 + 1 := by omega
    have e₂ := Nat.div_le_self x (10 ^ j)
    have e₃ : ¬ N x / N (10 ^ j) < N 10 := by
      rw [N_div (by omega) (by omega) (by omega), N_lt (by omega) (by omega)]
      exact h₇ j (by omega)
    have e₄ : N 10 * N (10 ^ j) = N (10 ^ (j + 1)) := by rw [N_mul, Nat.pow_succ, Nat.mul_comm]
    rw [e₁, ccL285_2, ccMck (ccNz (by omega) (by omega)), ccIte, if_neg e₃, e₄]
    exact i₁ (j + 1) f m rs (by omega)
theorem ccV_num {m₀ : mMi} {x : Nat} (h₁ : x < 10000) : ccV' m₀ (F285 (N x)) (ccNl x) := fun m e rs _ g₂ g₃ => by
  obtain ⟨q₁, q₂, q₃⟩ := ccDk_is h₁
  rw [ccNl_len] at g₃
  obtain ⟨f₁, hf₁⟩ := ccFU (k := ccDk x) (by omega)
  obtain ⟨f₂, hf₂⟩ := ccFU (k := ccDk x + 1) (by omega)
  have e₁ := ccE285_2 (by omega) (by omega) q₂ q₃ (ccDk x) 0 f₁ m rs (by omega)
  have e₂ := ccE285_18 (by omega : x < 2147483648) (ccDk x) m e f₂ rs (by omega) g₂ g₃
  have e₃ : f₂ + (ccDk x + 1) + 1 = f₂ + ccDk x + 2 := by omega
  unfold F285
  rw [← hf₁] at e₁
  rw [← e₃, ← hf₂] at e₂
  unfold ccNl
  rw [← e₂, ← e₁]
/-! names -/
def ccLst (g : Nat → Nat) : Nat → Nat → List Nat
  | 0, _ => []
  | d + 1, i => g i :: ccLst g d (i + 1)
theorem ccLst_len {g : Nat → Nat} : ∀ d i, (ccLst g d i).length = d := by
  intro d
  induction d with
  | zero => intro i; rfl
  | succ d i₁ =>
    intro i
    show (g i :: ccLst g d (i + 1)).length = _
    rw [List.length_cons, i₁]
theorem ccNum_s {g : Nat → Nat} {k : Nat} : ccNum g (k + 1) = 27 * ccNum g k + (g k - 96) := rfl
theorem ccNum_div {g : Nat → Nat} {e : Nat} (h₁ : ∀ i, i < e → 97 ≤ g i ∧ g i ≤ 122) : ∀ j, j ≤ e → ccNum g e / 27 ^ j = ccNum g (e - j) := by
  intro j
  induction j with
  | zero => intro _; rw [Nat.pow_zero, Nat.div_one, Nat.sub_zero]
  | succ j i₁ =>
    intro g₁
    have e₁ := i₁ (by omega)
    obtain ⟨k, hk⟩ : ∃ k, e - j = k + 1 := ⟨e - j - 1, by omega⟩
    have e₂ : e - (j + 1) = k := by omega
    have e₃ := h₁ k (by omega)
    rw [Nat.pow_succ, ← Nat.div_div_eq_div_mul, e₁, hk, e₂, ccNum_s]
    omega
theorem ccNum_lt {g : Nat → Nat} {e : Nat} (h₁ : ∀ i, i < e → 97 ≤ g i ∧ g i ≤ 122) : ∀ k, k ≤ e → ccNum g k < 27 ^ k ∧ (1 ≤ k → 1 ≤ ccNum g k) := by
  intro k
  induction k with
  | zero => intro _; exact ⟨by rw [Nat.pow_zero]; exact Nat.one_pos, fun h => by omega⟩
  | succ k i₁ =>
    intro g₁
    have e₁ := (i₁ (by omega)).1
    have e₂ := h₁ k (by omega)
    rw [ccNum_s, Nat.pow_succ]
    exact ⟨by omega, fun _ => by omega⟩
theorem ccDig_name {g : Nat → Nat} {e : Nat} (h₁ : ∀ i, i < e → 97 ≤ g i ∧ g i ≤ 122) : ∀ k, k + 1 ≤ e → ccDig 27 96 (ccNum g e) k = ccLst g (k + 1) (e - k - 1) := by
  have dg : ∀ k, k + 1 ≤ e → 96 + ccNum g e / 27 ^ k % 27 = g (e - k - 1) := fun k g₁ => by
    obtain ⟨i, hi⟩ : ∃ i, e - k = i + 1 := ⟨e - k - 1, by omega⟩
    have e₂ : e - k - 1 = i := by omega
    have e₃ := h₁ i (by omega)
    rw [ccNum_div h₁ k (by omega), e₂, hi, ccNum_s]
    omega
  intro k
  induction k with
  | zero =>
    intro g₁
    show [96 + ccNum g e / 27 ^ 0 % 27] = [g (e - 0 - 1)]
    rw [dg 0 g₁]
  | succ k i₁ =>
    intro g₁
    have e₁ : e - (k + 1) - 1 + 1 = e - k - 1 := by omega
    show (96 + ccNum g e / 27 ^ (k + 1) % 27) :: ccDig 27 96 (ccNum g e) k = g (e - (k + 1) - 1) :: ccLst g (k + 1) (e - (k + 1) - 1 + 1)
    rw [dg (k + 1) g₁, i₁ (by omega), e₁]
theorem ccW_name {m₀ : mMi} {g : Nat → Nat} {e₀ : Nat} (b₁ : 1 ≤ e₀) (b₂ : e₀ ≤ 6) (h₁ : ∀ i, i < e₀ → 97 ≤ g i ∧ g i ≤ 122) : ccW m₀ (F89 (N (ccNum g e₀))) (ccLst g e₀ 0) := fun m e rs _ g₂ g₃ => by
  obtain ⟨k, hk⟩ : ∃ k, e₀ = k + 1 := ⟨e₀ - 1, by omega⟩
  have lt := (ccNum_lt h₁ e₀ (by omega)).1
  have p₁ : 27 ^ e₀ ≤ 27 ^ 6 := Nat.pow_le_pow_right (by omega) b₂
  have p₂ : 27 ^ 6 = 387420489 := rfl
  have z₁ : e₀ - k = 0 + 1 := by omega
  have z₂ := h₁ 0 (by omega)
  have z₃ : ccNum g 0 = 0 := rfl
  have d₁ : ccNum g e₀ / 27 ^ k < 27 := by
    rw [ccNum_div h₁ k (by omega), z₁, ccNum_s, z₃]
    omega
  have d₂ : ∀ j, j < k → ¬ ccNum g e₀ / 27 ^ j < 27 := fun j y₁ => by
    obtain ⟨i, hi⟩ : ∃ i, e₀ - j = i + 1 := ⟨e₀ - j - 1, by omega⟩
    have y₂ := (ccNum_lt h₁ i (by omega)).2 (by omega)
    rw [ccNum_div h₁ j (by omega), hi, ccNum_s]
    omega
  rw [ccLst_len] at g₃
  have z₄ := ccDig_name h₁ k (by omega)
  have z₅ : e₀ - k - 1 = 0 := by omega
  rw [z₅, ← hk] at z₄
  unfold F89
  rw [ccE90 (by omega) (by omega) (by omega) (by omega) (by omega) d₁ d₂ g₂ (by omega), ccBv, z₄]
theorem ccV_name {m₀ : mMi} {g : Nat → Nat} {e₀ k : Nat} (b₁ : 1 ≤ e₀) (b₂ : e₀ ≤ 6) (b₃ : k < 40) (h₁ : ∀ i, i < e₀ → 97 ≤ g i ∧ g i ≤ 122 ∧ m₀ 4 0 1 (6 * k + i) = N (g i)) (h₂ : ∀ i, e₀ ≤ i → i < 6 → m₀ 4 0 1 (6 * k + i) = N 0) : ccV' m₀ (F284 (N k)) (ccLst g e₀ 0) := by
  have main : ∀ d i f m e rs, i + d = e₀ → ccAv m₀ m → m 4 0 0 36 = N e → e + d ≤ 240 → F284_2 (f + d + 1) (N k) (N i) m rs = rV (ccTmL (ccLst g d i) m e) rs := by
    intro d
    induction d with
    | zero =>
      intro i f m e rs g₁ g₂ g₃ g₄
      by_cases y₁ : i = 6
      · have y₂ : N 6 ≤ N i := by rw [N_le (by omega) (by omega)]; omega
        rw [ccL284_2, ccIte, if_pos y₂]
        rfl
      · have y₂ : ¬ N 6 ≤ N i := by rw [N_le (by omega) (by omega)]; omega
        have y₃ : N 6 * N k + N i = N (6 * k + i) := by rw [N_mul, N_add]
        have y₄ : m 4 0 1 (6 * k + i) = N 0 := by rw [g₂ 4 0 1 _ (by omega)]; exact h₂ i (by omega) (by omega)
        rw [ccL284_2, ccIte, if_neg y₂, y₃, ccMckIn (by omega) (by omega), mix_N (by omega), y₄, ccIf0e]
        rfl
    | succ d i₁ =>
      intro i f m e rs g₁ g₂ g₃ g₄
      have e₁ : f + (d + 1) + 1 = f + d + 1 + 1 := by omega
      obtain ⟨q₁, q₂, q₃⟩ := h₁ i (by omega)
      have y₂ : ¬ N 6 ≤ N i := by rw [N_le (by omega) (by omega)]; omega
      have y₃ : N 6 * N k + N i = N (6 * k + i) := by rw [N_mul, N_add]
      have y₄ : m 4 0 1 (6 * k + i) = N (g i) := by rw [g₂ 4 0 1 _ (by omega)]; exact q₃
      have y₅ : ¬ N (g i) = N 0 := by rw [N_eq (by omega) (by omega)]; omega
      have y₆ := i₁ (i + 1) f (ccTmL [g i] m e) (e + 1) rs (by omega) (fun f a j p z₁ => by rw [ccTmL_o _ _ _ _ _ _ _ z₁]; exact g₂ f a j p z₁) (ccTmL_n _ _ _ g₃) (by omega)
      rw [e₁, ccL284_2, ccIte, if_neg y₂, y₃, ccMckIn (by omega) (by omega), mix_N (by omega), y₄, ccIte, if_neg y₅, ccMckIn (by omega) (by omega), ccE282 g₃ (by omega), ccBv, N_add]
      exact y₆
  intro m e rs g₁ g₂ g₃
  rw [ccLst_len] at g₃
  obtain ⟨f, hf⟩ := ccFU (k := e₀) (by omega)
  unfold F284
  rw [hf]
  exact main e₀ 0 f m e rs (by omega) g₁ g₂ g₃
