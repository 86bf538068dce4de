/-! NUMBERS and names, as text. -/
theorem ccWR_if {m₀ : mMi} {A D : mMi → mRs → mRz} {t : List Nat} {c : Prop} {i₁ : Decidable c} (h₁ : c → ccWR m₀ A t) (h₂ : ¬ c → ccWR m₀ D t) : ccWR m₀ (fun m r => mifO (decide c) (A m r) (D m r)) t := fun m e rs g₁ g₂ g₃ => by
  show mifO (decide c) (A m rs) (D m rs) = _
  rw [ccIte]
  by_cases h₃ : c
  · rw [if_pos h₃]
    exact h₁ h₃ m e rs g₁ g₂ g₃
  · rw [if_neg h₃]
    exact h₂ h₃ m e rs g₁ g₂ g₃
theorem ccVR_if {m₀ : mMi} {A D : mMi → mRs → mRz} {t : List Nat} {c : Prop} {i₁ : Decidable c} (h₁ : c → ccVR m₀ A t) (h₂ : ¬ c → ccVR m₀ D t) : ccVR m₀ (fun m r => mifO (decide c) (A m r) (D m r)) t := fun m e rs g₁ g₂ g₃ => by
  show mifO (decide c) (A m rs) (D m rs) = _
  rw [ccIte]
  by_cases h₃ : c
  · rw [if_pos h₃]
    exact h₁ h₃ m e rs g₁ g₂ g₃
  · rw [if_neg h₃]
    exact h₂ h₃ m e rs g₁ g₂ g₃
theorem ccWR_k {m₀ : mMi} {A : mMi → mRs → mRz} {t : List Nat} {b : mMi → Bool} (h₁ : ∀ m, ccAw m₀ m → b m = true) (h₂ : ccWR m₀ A t) : ccWR m₀ (fun m r => mckO (b m) (A m r)) t := fun m e rs g₁ g₂ g₃ => by
  show mckO (b m) (A m rs) = _
  rw [ccMck (h₁ m g₁)]
  exact h₂ m e rs g₁ g₂ g₃
theorem ccVR_k {m₀ : mMi} {A : mMi → mRs → mRz} {t : List Nat} {b : mMi → Bool} (h₁ : ∀ m, ccAv m₀ m → b m = true) (h₂ : ccVR m₀ A t) : ccVR m₀ (fun m r => mckO (b m) (A m r)) t := fun m e rs g₁ g₂ g₃ => by
  show mckO (b m) (A m rs) = _
  rw [ccMck (h₁ m g₁)]
  exact h₂ m e rs g₁ g₂ g₃
/-- the digits of x, from the k-th down -/
def ccDig (b z x : Nat) : Nat → List Nat
  | 0 => [z + x / b ^ 0 % b]
  | k + 1 => (z + x / b ^ (k + 1) % b) :: ccDig b z x k
theorem ccDig_len {b z x : Nat} : ∀ k, (ccDig b z x k).length = k + 1 := by
  intro k
  induction k with
  | zero => rfl
  | succ k i₁ =>
    show ((z + x / b ^ (k + 1) % b) :: ccDig b z x k).length = _
    rw [List.length_cons, i₁]
theorem ccPw {b k : Nat} (h₁ : 2 ≤ b) (h₂ : b ≤ 27) (h₃ : k ≤ 5) : 0 < b ^ k ∧ b ^ k ≤ 14348907 := by
  have e₁ := Nat.pow_le_pow_left h₂ k
  have e₂ : 27 ^ k ≤ 27 ^ 5 := Nat.pow_le_pow_right (by omega) h₃
  have e₃ : 27 ^ 5 = 14348907 := rfl
  exact ⟨Nat.pow_pos (by omega), by omega⟩
theorem ccNz {a : Nat} (h₁ : 0 < a) (h₂ : a < 2147483648) : (!(decide (N a = 0))) = true := by
  have e₁ : (0 : Int32) = N 0 := rfl
  have e₂ : ¬ N a = 0 := by rw [e₁, N_eq (by omega) (by omega)]; omega
  rw [decide_eq_false e₂]
  rfl
theorem ccDg1 {x z b q : Nat} (h₁ : x < 2147483648) (h₂ : 0 < q) (h₃ : q < 2147483648) (h₄ : 0 < b) (h₅ : b < 1000) : N z + (N x / N q - N x / N q / N b * N b) = N (z + x / q % b) := by
  have e₁ := Nat.div_le_self x q
  rw [N_div (by omega) (by omega) (by omega), N_rem (by omega) (by omega) (by omega), N_add]
def ccDk (x : Nat) : Nat := if x < 10 then 0 else if x < 100 then 1 else if x < 1000 then 2 else 3
def ccNl (x : Nat) : List Nat := ccDig 10 48 x (ccDk x)
theorem ccDk_is {x : Nat} (h₁ : x < 10000) : ccDk x ≤ 3 ∧ x / 10 ^ (ccDk x) < 10 ∧ ∀ j, j < ccDk x → ¬ x / 10 ^ j < 10 := by
  have p₀ : 10 ^ 0 = 1 := rfl
  have p₁ : 10 ^ 1 = 10 := rfl
  have p₂ : 10 ^ 2 = 100 := rfl
  have p₃ : 10 ^ 3 = 1000 := rfl
  unfold ccDk
  by_cases g₁ : x < 10
  · rw [if_pos g₁, p₀]
    exact ⟨by omega, by omega, fun j y₁ => by omega⟩
  · rw [if_neg g₁]
    by_cases g₂ : x < 100
    · rw [if_pos g₂, p₁]
      refine ⟨by omega, by omega, fun j y₁ => ?_⟩
      have y₂ : j = 0 := by omega
      rw [y₂, p₀]
      omega
    · rw [if_neg g₂]
      by_cases g₃ : x < 1000
      · rw [if_pos g₃, p₂]
        refine ⟨by omega, by omega, fun j y₁ => ?_⟩
        have y₂ : j = 0 ∨ j = 1 := by omega
        rcases y₂ with y₂ | y₂
        · rw [y₂, p₀]
          omega
        · rw [y₂, p₁]
          omega
      · rw [if_neg g₃, p₃]
        refine ⟨by omega, by omega, fun j y₁ => ?_⟩
        have y₂ : j = 0 ∨ j = 1 ∨ j = 2 := by omega
        rcases y₂ with y₂ | y₂ | y₂
        · rw [y₂, p₀]
          omega
        · rw [y₂, p₁]
          omega
        · rw [y₂, p₂]
          omega
theorem ccNl_len {x : Nat} : (ccNl x).length = ccDk x + 1 := ccDig_len _
theorem ccE91_d {x : Nat} (h₁ : x < 1000) : ∀ k m e f rs, k ≤ 2 → (k = 0 ∨ 10 ^ k ≤ x) → m 2 7 0 1 = N e → e + (k + 1) ≤ 240 → F91_3 (f + k + 2) (N x) (N (10 ^ k)) m rs = rV (ccTwL (ccDig 10 48 x k) m e) rs := by
  intro k
  induction k with
  | zero =>
    intro m e f rs _ _ g₁ g₂
    have p₁ : 10 ^ 0 = 1 := rfl
    have p₂ : ¬ N 1 ≤ N 0 := by rw [N_le (by omega) (by omega)]; omega
    have p₃ : ¬ N 1 ≠ N 1 := fun z₁ => z₁ rfl
    have p₄ : N 1 / N 10 = N 0 := by rw [N_div (by omega) (by omega) (by omega)]
    have p₅ : N 0 ≤ N 0 := by rw [N_le (by omega) (by omega)]; omega
    have p₆ : f + 0 + 2 = f + 1 + 1 := by omega
    rw [p₁, p₆, ccL91_3, ccIte, if_neg p₂, ccIte, ccMck (ccNz (by omega) (by omega)), ccIte, if_neg p₃, ccDg1 (by omega) (by omega) (by omega) (by omega) (by omega), ccE88 g₁ (by omega) (by omega), ccBv, p₄, ccL91_3, ccIte, if_pos p₅]
    by_cases y₁ : N 1 ≤ N x
    · rw [if_pos y₁]
      rfl
    · rw [if_neg y₁]
      rfl
  | succ k i₁ =>
    intro m e f rs g₀ g₃ g₁ g₂
    obtain ⟨q₁, q₂⟩ := ccPw (b := 10) (k := k + 1) (by omega) (by omega) (by omega)
    obtain ⟨P, hP⟩ : ∃ P, P = 10 ^ (k + 1) := ⟨_, rfl⟩
    have p₁ : P / 10 = 10 ^ k := by
      rw [hP, Nat.pow_succ]
      exact Nat.mul_div_cancel _ (by omega)
    have q₃ : 10 ^ k ≤ P := by
      rw [← p₁]
      exact Nat.div_le_self P 10
    rw [← hP] at q₁ q₂ g₃
    have g₄ : P ≤ x := by
      rcases g₃ with g₃ | g₃
      · omega
      · exact g₃
    have p₂ : ¬ N P ≤ N 0 := by rw [N_le (by omega) (by omega)]; omega
    have p₃ : N P ≤ N x := by rw [N_le (by omega) (by omega)]; exact g₄
    have p₄ : N P / N 10 = N (10 ^ k) := by rw [N_div (by omega) (by omega) (by omega), p₁]
    have p₆ : f + (k + 1) + 2 = f + k + 2 + 1 := by omega
    rw [← hP, p₆, ccL91_3, ccIte, if_neg p₂, ccIte, if_pos p₃, ccMck (ccNz (by omega) (by omega)), ccDg1 (by omega) (by omega) (by omega) (by omega) (by omega), ccE88 g₁ (by omega) (by omega), ccBv, p₄, i₁ _ (e + 1) f rs (by omega) (Or.inr (by omega)) (ccTwL_n _ _ _ g₁) (by omega), hP]
    rfl
theorem ccE91_s {x P : Nat} {m : mMi} {rs : mRs} {f : Nat} (h₁ : x < P) (h₂ : 1 < P) (h₃ : P < 1000) : F91_3 (f + 1) (N x) (N P) m rs = F91_3 f (N x) (N (P / 10)) m rs := by
  have p₂ : ¬ N P ≤ N 0 := by rw [N_le (by omega) (by omega)]; omega
  have p₃ : ¬ N P ≤ N x := by rw [N_le (by omega) (by omega)]; omega
  have p₅ : N P ≠ N 1 := by rw [ne_eq, N_eq (by omega) (by omega)]; omega
  have p₄ : N P / N 10 = N (P / 10) := by rw [N_div (by omega) (by omega) (by omega)]
  rw [ccL91_3, ccIte, if_neg p₂, ccIte, if_neg p₃, ccIte, if_pos p₅, p₄]
theorem ccW_num {m₀ : mMi} {x : Nat} (h₁ : x < 1000) : ccW m₀ (F91 (N x)) (ccNl x) := fun m e rs _ g₂ g₃ => by
  obtain ⟨f, hf⟩ := ccFU (k := 5) (by omega)
  have e₀ : N 100 = N (10 ^ 2) := rfl
  have e₁ : f + 5 + 1 = (f + 2) + 2 + 2 := by omega
  have e₂ : f + 5 + 1 = ((f + 2) + 1 + 2) + 1 := by omega
  have e₃ : f + 5 + 1 = (((f + 2) + 0 + 2) + 1) + 1 := by omega
  rw [ccNl_len] at g₃
  unfold F91 ccNl
  rw [hf]
  by_cases c₁ : x < 10
  · have d₁ : ccDk x = 0 := by unfold ccDk; rw [if_pos c₁]
    have y₁ := ccE91_d h₁ 0 m e (f + 2) rs (by omega) (Or.inl rfl) g₂ (by omega)
    have y₂ : 100 / 10 / 10 = 10 ^ 0 := rfl
    rw [d₁, e₃, ccE91_s (by omega) (by omega) (by omega), ccE91_s (by omega) (by omega) (by omega), y₂]
    exact y₁
  · by_cases c₂ : x < 100
    · have d₁ : ccDk x = 1 := by unfold ccDk; rw [if_neg c₁, if_pos c₂]
      have y₁ := ccE91_d h₁ 1 m e (f + 2) rs (by omega) (Or.inr (by show 10 ≤ x; omega)) g₂ (by omega)
      have y₂ : 100 / 10 = 10 ^ 1 := rfl
      rw [d₁, e₂, ccE91_s (by omega) (by omega) (by omega), y₂]
      exact y₁
    · have d₁ : ccDk x = 2 := by unfold ccDk; rw [if_neg c₁, if_neg c₂, if_pos h₁]
      have y₁ := ccE91_d h₁ 2 m e (f + 2) rs (by omega) (Or.inr (by show 100 ≤ x; omega)) g₂ (by omega)
      rw [d₁, e₁, e₀]
      exact y₁
theorem ccE285_18 {x : Nat} (h₄ : x < 2147483648) : ∀ k m e f rs, k ≤ 5 → m 4 0 0 36 = N e → e + (k + 1) ≤ 240 → F285_18 (f + k + 2) (N x) (N (10 ^ k)) m rs = rV (ccTmL (ccDig 10 48 x k) m e) rs := by
  intro k
  induction k with
  | zero =>
    intro m e f rs _ g₁ g₂
    have p₁ : 10 ^ 0 = 1 := rfl
    have p₂ : ¬ N 1 ≤ N 0 := by rw [N_le (by omega) (by omega)]; omega
    have p₄ : N 1 / N 10 = N 0 := by rw [N_div (by omega) (by omega) (by omega)]
    have p₅ : N 0 ≤ N 0 := by rw [N_le (by omega) (by omega)]; omega
    have p₆ : f + 0 + 2 = f + 1 + 1 := by omega
    rw [p₁, p₆, ccL285_18, ccIte, if_neg p₂, ccMck (ccNz (by omega) (by omega)), ccDg1 h₄ (by omega) (by omega) (by omega) (by omega), ccE282 g₁ (by omega), ccBv, p₄, ccL285_18, ccIte, if_pos p₅]
    rfl
  | succ k i₁ =>
    intro m e f rs g₀ g₁ g₂
    obtain ⟨q₁, q₂⟩ := ccPw (b := 10) (by omega) (by omega) g₀
    obtain ⟨P, hP⟩ : ∃ P, P = 10 ^ (k + 1) := ⟨_, rfl⟩
    have p₁ : P / 10 = 10 ^ k := by
      rw [hP, Nat.pow_succ]
      exact Nat.mul_div_cancel _ (by omega)
    rw [← hP] at q₁ q₂
    have p₂ : ¬ N P ≤ N 0 := by rw [N_le (by omega) (by omega)]; omega
    have p₄ : N P / N 10 = N (10 ^ k) := by rw [N_div (by omega) (by omega) (by omega), p₁]
    have p₆ : f + (k + 1) + 2 = f + k + 2 + 1 := by omega
    rw [← hP, p₆, ccL285_18, ccIte, if_neg p₂, ccMck (ccNz (by omega) (by omega)), ccDg1 h₄ (by omega) (by omega) (by omega) (by omega), ccE282 g₁ (by omega), ccBv, p₄, i₁ _ (e + 1) f rs (by omega) (ccTmL_n _ _ _ g₁) (by omega), hP]
    rfl
theorem ccE285_2 {x k : Nat} (h₄ : x < 2147483648) (h₅ : k ≤ 5) (h₆ : x / 10 ^ k < 10) (h₇ : ∀ j, j < k → ¬ x / 10 ^ j < 10) : ∀ d j f m rs, j + d = k → F285_2 (f + d + 1) (N x) (N (10 ^ j)) m rs = F285_18 FU (N x) (N (10 ^ k)) m rs := by
  intro d
  induction d with
  | zero =>
    intro j f m rs g₁
    have e₁ : j = k := by omega
    subst e₁
    obtain ⟨q₁, q₂⟩ := ccPw (b := 10) (by omega) (by omega) h₅
    have e₂ := Nat.div_le_self x (10 ^ j)
    have e₃ : N x / N (10 ^ j) < N 10 := by
      rw [N_div (by omega) (by omega) (by omega), N_lt (by omega) (by omega)]
      exact h₆
    rw [ccL285_2, ccMck (ccNz (by omega) (by omega)), ccIte, if_pos e₃]
  | succ d i₁ =>
    intro j f m rs g₁
    obtain ⟨q₁, q₂⟩ := ccPw (b := 10) (by omega) (by omega) (by omega : j ≤ 5)
    have e₁ : f + (d + 1) + 1 = f + d + 1 + 1 := by omega
    have e₂ := Nat.div_le_self x (10 ^ j)
    have e₃ : ¬ N x / N (10 ^ j) < N 10 := by
      rw [N_div (by omega) (by omega) (by omega), N_lt (by omega) (by omega)]
      exact h₇ j (by omega)
    have e₄ : N 10 * N (10 ^ j) = N (10 ^ (j + 1)) := by rw [N_mul, Nat.pow_succ, Nat.mul_comm]
    rw [e₁, ccL285_2, ccMck (ccNz (by omega) (by omega)), ccIte, if_neg e₃, e₄]
    exact i₁ (j + 1) f m rs (by omega)
theorem ccV_num {m₀ : mMi} {x : Nat} (h₁ : x < 10000) : ccV' m₀ (F285 (N x)) (ccNl x) := fun m e rs _ g₂ g₃ => by
  obtain ⟨q₁, q₂, q₃⟩ := ccDk_is h₁
  rw [ccNl_len] at g₃
  obtain ⟨f₁, hf₁⟩ := ccFU (k := ccDk x) (by omega)
  obtain ⟨f₂, hf₂⟩ := ccFU (k := ccDk x + 1) (by omega)
  have e₁ := ccE285_2 (by omega) (by omega) q₂ q₃ (ccDk x) 0 f₁ m rs (by omega)
  have e₂ := ccE285_18 (by omega : x < 2147483648) (ccDk x) m e f₂ rs (by omega) g₂ g₃
  have e₃ : f₂ + (ccDk x + 1) + 1 = f₂ + ccDk x + 2 := by omega
  unfold F285
  rw [← hf₁] at e₁
  rw [← e₃, ← hf₂] at e₂
  unfold ccNl
  rw [← e₂, ← e₁]
/-! names -/
def ccLst (g : Nat → Nat) : Nat → Nat → List Nat
  | 0, _ => []
  | d + 1, i => g i :: ccLst g d (i + 1)
theorem ccLst_len {g : Nat → Nat} : ∀ d i, (ccLst g d i).length = d := by
  intro d
  induction d with
  | zero => intro i; rfl
  | succ d i₁ =>
    intro i
    show (g i :: ccLst g d (i + 1)).length = _
    rw [List.length_cons, i₁]
theorem ccNum_s {g : Nat → Nat} {k : Nat} : ccNum g (k + 1) = 32 * ccNum g k + (g k - 96) := rfl
theorem ccNum_div {g : Nat → Nat} {e : Nat} (h₁ : ∀ i, i < e → 97 ≤ g i ∧ g i ≤ 122) : ∀ j, j ≤ e → ccNum g e / 32 ^ j = ccNum g (e - j) := by
  intro j
  induction j with
  | zero => intro _; rw [Nat.pow_zero, Nat.div_one, Nat.sub_zero]
  | succ j i₁ =>
    intro g₁
    have e₁ := i₁ (by omega)
    obtain ⟨k, hk⟩ : ∃ k, e - j = k + 1 := ⟨e - j - 1, by omega⟩
    have e₂ : e - (j + 1) = k := by omega
    have e₃ := h₁ k (by omega)
    rw [Nat.pow_succ, ← Nat.div_div_eq_div_mul, e₁, hk, e₂, ccNum_s]
    omega
theorem ccNum_lt {g : Nat → Nat} {e : Nat} (h₁ : ∀ i, i < e → 97 ≤ g i ∧ g i ≤ 122) : ∀ k, k ≤ e → ccNum g k < 32 ^ k ∧ (1 ≤ k → 1 ≤ ccNum g k) := by
  intro k
  induction k with
  | zero => intro _; exact ⟨by rw [Nat.pow_zero]; exact Nat.one_pos, fun h => by omega⟩
  | succ k i₁ =>
    intro g₁
    have e₁ := (i₁ (by omega)).1
    have e₂ := h₁ k (by omega)
    rw [ccNum_s, Nat.pow_succ]
    exact ⟨by omega, fun _ => by omega⟩
theorem ccShr {x s : Nat} {y : Int32} (h₁ : x < 2147483648) (h₂ : (y.toBitVec.smod 32).toNat = s) : N x >>> y = N (x / 2 ^ s) := by
  apply Int32.toBitVec_inj.1
  apply BitVec.eq_of_toNat_eq
  have m₁ : (BitVec.ofNat 32 x).msb = false := by
    rw [BitVec.msb_eq_false_iff_two_mul_lt, BitVec.toNat_ofNat]
    omega
  have l₂ : x / 2 ^ s % 2 ^ 32 = x / 2 ^ s := Nat.mod_eq_of_lt (Nat.lt_of_le_of_lt (Nat.div_le_self x (2 ^ s)) (by omega))
  show ((BitVec.ofNat 32 x).sshiftRight ((y.toBitVec.smod 32).toNat)).toNat = (BitVec.ofNat 32 (x / 2 ^ s)).toNat
  rw [h₂, BitVec.sshiftRight_eq_of_msb_false m₁, BitVec.toNat_ushiftRight, Nat.shiftRight_eq_div_pow, BitVec.toNat_ofNat, BitVec.toNat_ofNat, Nat.mod_eq_of_lt (by omega : x < 2 ^ 32), l₂]
theorem ccAnd31 {x : Nat} (h₁ : x < 2147483648) : N x &&& N 31 = N (x % 32) := by
  apply Int32.toBitVec_inj.1
  apply BitVec.eq_of_toNat_eq
  show (BitVec.ofNat 32 x &&& BitVec.ofNat 32 31).toNat = (BitVec.ofNat 32 (x % 32)).toNat
  have e₂ : x &&& 31 = x % 32 := Nat.and_two_pow_sub_one_eq_mod x 5
  have e₃ : x % 2 ^ 32 = x := Nat.mod_eq_of_lt (by omega)
  have e₄ : 31 % 2 ^ 32 = 31 := rfl
  have e₅ : x % 32 % 2 ^ 32 = x % 32 := Nat.mod_eq_of_lt (by omega)
  rw [BitVec.toNat_and, BitVec.toNat_ofNat, BitVec.toNat_ofNat, BitVec.toNat_ofNat, e₃, e₄, e₅, e₂]
theorem ccSh5 {x k : Nat} (h₁ : x < 2147483648) (h₂ : k < 6) : (N x >>> (N (5 * k) &&& 31)) &&& N 31 = N (x / 32 ^ k % 32) := by
  have y₁ : ∀ j : Fin 6, ((N (5 * j.val) &&& 31).toBitVec.smod 32).toNat = 5 * j.val := by decide +kernel
  have y₂ : 2 ^ (5 * k) = 32 ^ k := Nat.pow_mul 2 5 k
  rw [ccShr h₁ (y₁ ⟨k, h₂⟩), ccAnd31 (Nat.lt_of_le_of_lt (Nat.div_le_self _ _) h₁)]
  show N (x / 2 ^ (5 * k) % 32) = _
  rw [y₂]
theorem ccOr5 {a d : Nat} (h₁ : a < 67108864) (h₂ : d < 32) : (N a <<< (N 5 &&& 31)) ||| N d = N (32 * a + d) := by
  apply Int32.toBitVec_inj.1
  apply BitVec.eq_of_toNat_eq
  have e₁ : ((N 5 &&& 31).toBitVec.smod 32).toNat = 5 := by decide +kernel
  have e₂ : 32 * a + d = 32 * a ||| d := Nat.two_pow_add_eq_or_of_lt (i := 5) h₂ a
  have e₃ : (BitVec.ofNat 32 a <<< ((N 5 &&& 31).toBitVec.smod 32)).toNat = 32 * a := by
    show (BitVec.ofNat 32 a <<< ((N 5 &&& 31).toBitVec.smod 32).toNat).toNat = 32 * a
    rw [e₁, BitVec.toNat_shiftLeft, BitVec.toNat_ofNat, Nat.shiftLeft_eq]
    omega
  have e₄ : d % 2 ^ 32 = d := Nat.mod_eq_of_lt (by omega)
  have e₅ : (32 * a + d) % 2 ^ 32 = 32 * a + d := Nat.mod_eq_of_lt (by omega)
  show ((BitVec.ofNat 32 a <<< ((N 5 &&& 31).toBitVec.smod 32)) ||| BitVec.ofNat 32 d).toNat = (BitVec.ofNat 32 (32 * a + d)).toNat
  rw [BitVec.toNat_or, e₃, BitVec.toNat_ofNat, BitVec.toNat_ofNat, e₄, e₅, e₂]
theorem ccI5 {k : Nat} : I (5 * ((k + 1 : Nat) : Int) - 5) = N (5 * k) := by
  rw [← I_N]
  congr 1
  omega
theorem ccI5s {k : Nat} : N (5 * k) + I (-5) = I (5 * (k : Int) - 5) := by
  rw [← I_N, I_add]
  congr 1
theorem ccE89_r {g : Nat → Nat} {e₀ : Nat} (b₂ : e₀ ≤ 6) (h₁ : ∀ i, i < e₀ → 97 ≤ g i ∧ g i ≤ 122) (b₁ : ccNum g e₀ < 2147483648) : ∀ k, k ≤ e₀ → ∀ m e f rs, m 2 7 0 1 = N e → e + k ≤ 240 → F89_3 (f + k + 1) (N (ccNum g e₀)) (I (5 * (k : Int) - 5)) m rs = rV (ccTwL (ccLst g k (e₀ - k)) m e) rs := by
  intro k
  induction k with
  | zero =>
    intro _ m e f rs _ _
    have p₁ : I (5 * ((0 : Nat) : Int) - 5) < N 0 := by decide +kernel
    rw [ccL89_3, ccIte, if_pos p₁]
    rfl
  | succ k i₁ =>
    intro g₀ m e f rs g₁ g₂
    obtain ⟨i, hi⟩ : ∃ i, e₀ - k = i + 1 := ⟨e₀ - k - 1, by omega⟩
    have e₂ : e₀ - (k + 1) = i := by omega
    have e₃ := h₁ i (by omega)
    have p₁ : ¬ N (5 * k) < N 0 := by rw [N_lt (by omega) (by omega)]; omega
    have p₂ : ccNum g e₀ / 32 ^ k % 32 = g i - 96 := by
      rw [ccNum_div h₁ k (by omega), hi, ccNum_s]
      omega
    have p₃ : ¬ N (g i - 96) ≤ N 0 := by rw [N_le (by omega) (by omega)]; omega
    have p₄ : N 96 + N (g i - 96) = N (g i) := by
      rw [N_add]
      congr 1
      omega
    have p₅ : f + (k + 1) + 1 = f + k + 1 + 1 := by omega
    have p₆ : ccLst g (k + 1) (e₀ - (k + 1)) = g i :: ccLst g k (e₀ - k) := by rw [e₂, hi]; rfl
    rw [ccI5, p₅, ccL89_3, ccIte, if_neg p₁, ccSh5 b₁ (by omega), p₂, ccIte, if_neg p₃, p₄, ccE88 g₁ (by omega) (by omega), ccBv, ccI5s, i₁ (by omega) _ (e + 1) f rs (ccTwL_n _ _ _ g₁) (by omega), p₆]
    rfl
theorem ccE89_s {X e₀ : Nat} (b₁ : X < 2147483648) (h₁ : X < 32 ^ e₀) : ∀ d, e₀ + d ≤ 6 → ∀ m f rs, F89_3 (f + d) (N X) (I (5 * ((e₀ + d : Nat) : Int) - 5)) m rs = F89_3 f (N X) (I (5 * (e₀ : Int) - 5)) m rs := by
  intro d
  induction d with
  | zero => intro _ m f rs; rfl
  | succ d i₁ =>
    intro g₀ m f rs
    have e₁ : e₀ + (d + 1) = e₀ + d + 1 := by omega
    have e₂ : f + (d + 1) = f + d + 1 := by omega
    have e₃ : 32 ^ e₀ ≤ 32 ^ (e₀ + d) := Nat.pow_le_pow_right (by omega) (by omega)
    have e₄ : X / 32 ^ (e₀ + d) = 0 := Nat.div_eq_of_lt (Nat.lt_of_lt_of_le h₁ e₃)
    have p₁ : ¬ N (5 * (e₀ + d)) < N 0 := by rw [N_lt (by omega) (by omega)]; omega
    have p₂ : N (0 % 32) ≤ N 0 := by decide +kernel
    rw [e₁, ccI5, e₂, ccL89_3, ccIte, if_neg p₁, ccSh5 b₁ (by omega), e₄, ccIte, if_pos p₂, ccI5s]
    exact i₁ (by omega) m f rs
theorem ccW_name {m₀ : mMi} {g : Nat → Nat} {e₀ : Nat} (b₁ : 1 ≤ e₀) (b₂ : e₀ ≤ 6) (h₁ : ∀ i, i < e₀ → 97 ≤ g i ∧ g i ≤ 122) : ccW m₀ (F89 (N (ccNum g e₀))) (ccLst g e₀ 0) := fun m e rs _ g₂ g₃ => by
  have lt := (ccNum_lt h₁ e₀ (by omega)).1
  have p₁ : 32 ^ e₀ ≤ 32 ^ 6 := Nat.pow_le_pow_right (by omega) b₂
  have p₂ : 32 ^ 6 = 1073741824 := rfl
  obtain ⟨d, hd⟩ : ∃ d, e₀ + d = 6 := ⟨6 - e₀, by omega⟩
  obtain ⟨f, hf⟩ := ccFU (k := 6) (by omega)
  rw [ccLst_len] at g₃
  have z₁ := ccE89_r b₂ h₁ (by omega) e₀ (Nat.le_refl e₀) m e f rs g₂ g₃
  have z₂ := ccE89_s (by omega) lt d (by omega) m (f + e₀ + 1) rs
  have z₃ : f + e₀ + 1 + d = FU := by rw [hf]; omega
  have z₄ : N 25 = I (5 * ((e₀ + d : Nat) : Int) - 5) := by rw [hd]; rfl
  have z₅ : e₀ - e₀ = 0 := Nat.sub_self e₀
  rw [z₅] at z₁
  rw [z₃, ← z₄, z₁] at z₂
  unfold F89
  exact z₂
theorem ccV_name {m₀ : mMi} {g : Nat → Nat} {e₀ k : Nat} (b₁ : 1 ≤ e₀) (b₂ : e₀ ≤ 6) (b₃ : k < 40) (h₁ : ∀ i, i < e₀ → 97 ≤ g i ∧ g i ≤ 122 ∧ m₀ 4 0 1 (6 * k + i) = N (g i)) (h₂ : ∀ i, e₀ ≤ i → i < 6 → m₀ 4 0 1 (6 * k + i) = N 0) : ccV' m₀ (F284 (N k)) (ccLst g e₀ 0) := by
  have main : ∀ d i f m e rs, i + d = e₀ → ccAv m₀ m → m 4 0 0 36 = N e → e + d ≤ 240 → F284_2 (f + d + 1) (N k) (N i) m rs = rV (ccTmL (ccLst g d i) m e) rs := by
    intro d
    induction d with
    | zero =>
      intro i f m e rs g₁ g₂ g₃ g₄
      by_cases y₁ : i = 6
      · have y₂ : N 6 ≤ N i := by rw [N_le (by omega) (by omega)]; omega
        rw [ccL284_2, ccIte, if_pos y₂]
        rfl
      · have y₂ : ¬ N 6 ≤ N i := by rw [N_le (by omega) (by omega)]; omega
        have y₃ : N 6 * N k + N i = N (6 * k + i) := by rw [N_mul, N_add]
        have y₄ : m 4 0 1 (6 * k + i) = N 0 := by rw [g₂ 4 0 1 _ (by omega)]; exact h₂ i (by omega) (by omega)
        rw [ccL284_2, ccIte, if_neg y₂, y₃, ccMckIn (by omega) (by omega), mix_N (by omega), y₄, ccIf0e]
        rfl
    | succ d i₁ =>
      intro i f m e rs g₁ g₂ g₃ g₄
      have e₁ : f + (d + 1) + 1 = f + d + 1 + 1 := by omega
      obtain ⟨q₁, q₂, q₃⟩ := h₁ i (by omega)
      have y₂ : ¬ N 6 ≤ N i := by rw [N_le (by omega) (by omega)]; omega
      have y₃ : N 6 * N k + N i = N (6 * k + i) := by rw [N_mul, N_add]
      have y₄ : m 4 0 1 (6 * k + i) = N (g i) := by rw [g₂ 4 0 1 _ (by omega)]; exact q₃
      have y₅ : ¬ N (g i) = N 0 := by rw [N_eq (by omega) (by omega)]; omega
      have y₆ := i₁ (i + 1) f (ccTmL [g i] m e) (e + 1) rs (by omega) (fun f a j p z₁ => by rw [ccTmL_o _ _ _ _ _ _ _ z₁]; exact g₂ f a j p z₁) (ccTmL_n _ _ _ g₃) (by omega)
      rw [e₁, ccL284_2, ccIte, if_neg y₂, y₃, ccMckIn (by omega) (by omega), mix_N (by omega), y₄, ccIte, if_neg y₅, ccMckIn (by omega) (by omega), ccE282 g₃ (by omega), ccBv, N_add]
      exact y₆
  intro m e rs g₁ g₂ g₃
  rw [ccLst_len] at g₃
  obtain ⟨f, hf⟩ := ccFU (k := e₀) (by omega)
  unfold F284
  rw [hf]
  exact main e₀ 0 f m e rs (by omega) g₁ g₂ g₃
