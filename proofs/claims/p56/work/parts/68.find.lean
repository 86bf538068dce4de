/-! CALLS: find. -/
/-- a byte, with its sign -/
def ccSg (b : Nat) : Int32 := Int8.toInt32 (Int32.toInt8 (N b))
theorem ccSg_lo {b : Nat} (h₁ : b < 128) : ccSg b = N b := by
  have y₁ : ∀ j : Fin 128, ccSg j.val = N j.val := by decide +kernel
  exact y₁ ⟨b, h₁⟩
theorem ccSg_hi {b : Nat} (h₁ : 128 ≤ b) (h₂ : b < 256) : ccSg b < N 0 := by
  have y₁ : ∀ j : Fin 128, ccSg (128 + j.val) < N 0 := by decide +kernel
  have y₂ := y₁ ⟨b - 128, by omega⟩
  have y₃ : 128 + (b - 128) = b := by omega
  rw [← y₃]
  exact y₂
theorem ccNI1 {a : Nat} (h₁ : a < 2147483648) : ¬ N a = I (-1) := fun z₁ => by
  rw [ccNm h₁] at z₁
  exact z₁
theorem ccNeg_lt {x : Int32} {k : Nat} (h₁ : x < N 0) (h₂ : k < 2147483648) : x < N k := by
  rw [Int32.lt_iff_toInt_lt] at h₁ ⊢
  rw [N_toInt (by omega)] at h₁
  rw [N_toInt h₂]
  omega
/-- the bytes that the class reads -/
def ccBt (m : mMi) (e : Nat) (b : Nat → Nat) : Prop := e ≤ 900 ∧ m 2 1 0 1 = N e ∧ ∀ k, k < e → b k < 256 ∧ m 2 1 1 k = ccSg (b k)
/-- the bytes that the reference reads -/
def ccBm (m : mMi) (e : Nat) (b : Nat → Nat) : Prop := e ≤ 900 ∧ ∀ k, k < e → b k < 256 ∧ m 4 0 7 k = N (b k)
theorem ccIn_b {m : mMi} (h₁ : ccIn m) : ∃ e b, ccBt m e b ∧ ccBm m e b ∧ m 4 0 0 17 = N e := by
  obtain ⟨e, e₁, e₂, e₃, e₄⟩ := h₁
  have y₁ : ∀ k, ∃ b, k < e → b < 256 ∧ m 4 0 7 k = N b ∧ m 2 1 1 k = ccSg b := fun k => by
    by_cases g : k < e
    · obtain ⟨b, b₁, b₂, b₃⟩ := e₄ k g
      exact ⟨b, fun _ => ⟨b₁, b₂, b₃⟩⟩
    · exact ⟨0, fun g₁ => absurd g₁ g⟩
  obtain ⟨b, hb⟩ := Classical.axiomOfChoice y₁
  exact ⟨e, b, ⟨e₁, e₂, fun k g => ⟨(hb k g).1, (hb k g).2.2⟩⟩, ⟨e₁, fun k g => ⟨(hb k g).1, (hb k g).2.1⟩⟩, e₃⟩
theorem ccE64 {m : mMi} {e k : Nat} {b : Nat → Nat} {rs : mRs} (q : ccBt m e b) (h : k < e) : F64 (N k) m rs = rI (ccSg (b k)) m rs := by
  obtain ⟨q₁, q₂, q₃⟩ := q
  have e₁ : ¬ N k < N 0 := by rw [N_lt (by omega) (by omega)]; omega
  have e₂ : ¬ N e ≤ N k := by rw [N_le (by omega) (by omega)]; omega
  unfold F64
  rw [ccIte, if_neg e₁, q₂, ccIte, if_neg e₂, ccMckIn (by omega) (by omega), mix_N (by omega), (q₃ k h).2]
theorem ccE64o {m : mMi} {e k : Nat} {b : Nat → Nat} {rs : mRs} (q : ccBt m e b) (h : e ≤ k) (h₂ : k < 2147483648) : F64 (N k) m rs = rI (N 0) m rs := by
  obtain ⟨q₁, q₂, q₃⟩ := q
  have e₁ : ¬ N k < N 0 := by rw [N_lt (by omega) (by omega)]; omega
  have e₂ : N e ≤ N k := by rw [N_le (by omega) (by omega)]; omega
  unfold F64
  rw [ccIte, if_neg e₁, q₂, ccIte, if_pos e₂]
/-- the number of a name, or none -/
def ccNmv (g : Nat → Nat) : Nat → Nat → Int32
  | 0, j => N (ccNum g j)
  | d + 1, j => if 97 ≤ g j ∧ g j ≤ 122 then ccNmv g d (j + 1) else I (-1)
theorem ccL65 {m : mMi} {e s k : Nat} {b : Nat → Nat} (q : ccBt m e b) (h : s + k ≤ e) (k₆ : k ≤ 6) : ∀ d j f rs, j + d = k → (∀ i, i < j → 97 ≤ b (s + i) ∧ b (s + i) ≤ 122) → F65_32 (f + d + 1) (N s) (N k) (N (ccNum (fun i => b (s + i)) j)) (N (s + j)) m rs = rI (ccNmv (fun i => b (s + i)) d j) m rs := by
  have q₀ := q.1
  intro d
  induction d with
  | zero =>
    intro j f rs g₁ _
    have e₀ : N (s + k) ≤ N (s + j) := by rw [N_le (by omega) (by omega)]; omega
    rw [ccL65_32, N_add, ccIte, if_pos e₀]
    rfl
  | succ d i₁ =>
    intro j f rs g₁ hv
    have e₁ : f + (d + 1) + 1 = f + d + 1 + 1 := by omega
    have e₀ : ¬ N (s + k) ≤ N (s + j) := by rw [N_le (by omega) (by omega)]; omega
    have e₂ := q.2.2 (s + j) (by omega)
    have e₃ : ccNmv (fun i => b (s + i)) (d + 1) j = if 97 ≤ b (s + j) ∧ b (s + j) ≤ 122 then ccNmv (fun i => b (s + i)) d (j + 1) else I (-1) := rfl
    rw [e₃, e₁, ccL65_32, N_add s k, ccIte, if_neg e₀, ccMckIn (by omega) (by omega), mix_N (by omega), e₂.2]
    by_cases g₂ : b (s + j) < 128
    · rw [ccSg_lo g₂, ccIte]
      by_cases g₃ : b (s + j) < 97
      · have y₁ : N (b (s + j)) < N 97 := by rw [N_lt (by omega) (by omega)]; exact g₃
        rw [if_pos y₁, if_neg (by omega)]
      · have y₁ : ¬ N (b (s + j)) < N 97 := by rw [N_lt (by omega) (by omega)]; exact g₃
        rw [if_neg y₁, ccIte]
        by_cases g₄ : b (s + j) ≤ 122
        · have y₂ : N (b (s + j)) ≤ N 122 := by rw [N_le (by omega) (by omega)]; exact g₄
          have y₆ := (ccNum_lt (g := fun i => b (s + i)) (e := j) hv j (Nat.le_refl j)).1
          have y₇ : 32 ^ j ≤ 32 ^ 5 := Nat.pow_le_pow_right (by omega) (by omega)
          have y₈ : 32 ^ 5 = 33554432 := rfl
          have y₃ : (N (ccNum (fun i => b (s + i)) j) <<< (N 5 &&& 31)) ||| (N (b (s + j)) - N 96) = N (ccNum (fun i => b (s + i)) (j + 1)) := by
            rw [N_sub (by omega), ccOr5 (by omega) (by omega), ccNum_s]
          have y₅ : N (s + j) + N 1 = N (s + (j + 1)) := by rw [N_add]; rfl
          rw [if_pos y₂, if_pos (by omega), y₃, y₅]
          refine i₁ (j + 1) f rs (by omega) (fun i z₁ => ?_)
          by_cases z₂ : i = j
          · rw [z₂]
            omega
          · exact hv i (by omega)
        · have y₂ : ¬ N (b (s + j)) ≤ N 122 := by rw [N_le (by omega) (by omega)]; exact g₄
          rw [if_neg y₂, if_neg (by omega)]
    · have y₁ := ccNeg_lt (k := 97) (ccSg_hi (by omega : 128 ≤ b (s + j)) e₂.1) (by omega)
      rw [ccIte, if_pos y₁, if_neg (by omega)]
theorem ccE65 {m : mMi} {e s k : Nat} {b : Nat → Nat} {rs : mRs} (q : ccBt m e b) (h : s + k ≤ e) (h₁ : 1 ≤ k) (h₂ : k ≤ 6) : F65 (N s) (N k) m rs = rI (ccNmv (fun i => b (s + i)) k 0) m rs := by
  obtain ⟨f, hf⟩ := ccFU (k := k) (by omega)
  have e₁ : ¬ N k < N 1 := by rw [N_lt (by omega) (by omega)]; omega
  have q₀ := q.1
  have e₂ : ¬ N 6 < N k := by rw [N_lt (by omega) (by omega)]; omega
  have e₄ : ¬ N s < N 0 := by rw [N_lt (by omega) (by omega)]; omega
  have e₅ : N s ≤ N (e - k) := by rw [N_le (by omega) (by omega)]; omega
  have e₃ := ccL65 q h h₂ k 0 f rs (by omega) (fun i z₁ => by omega)
  unfold F65
  rw [ccIte, if_neg e₁, ccIte, if_neg e₂, ccIte, if_neg e₄, q.2.1, N_sub (by omega), ccIte, if_pos e₅, hf]
  exact e₃
theorem ccE65z {m : mMi} {s k : Nat} {rs : mRs} (h₁ : ¬ (1 ≤ k ∧ k ≤ 6)) (h₂ : k < 2147483648) : F65 (N s) (N k) m rs = rI (I (-1)) m rs := by
  unfold F65
  rw [ccIte]
  by_cases g : k < 1
  · have e₁ : N k < N 1 := by rw [N_lt (by omega) (by omega)]; exact g
    rw [if_pos e₁]
  · have e₁ : ¬ N k < N 1 := by rw [N_lt (by omega) (by omega)]; exact g
    have e₂ : N 6 < N k := by rw [N_lt (by omega) (by omega)]; omega
    rw [if_neg e₁, ccIte, if_pos e₂]
theorem ccL79 {m : mMi} {i n : Nat} {v : Int32} (h₁ : m 1 i 0 4 = N n) (h₂ : n ≤ 40) : ∀ d q f rs, q + d = n → F79_2 i (f + d + 1) v (N q) m rs = rI (ccFst (fun k => decide (m 1 i 2 k = v)) d q) m rs := by
  intro d
  induction d with
  | zero =>
    intro q f rs g₁
    have e₀ : N n ≤ N q := by rw [N_le (by omega) (by omega)]; omega
    rw [ccL79_2, h₁, ccIte, if_pos e₀]
    rfl
  | succ d i₁ =>
    intro q f rs g₁
    have e₁ : f + (d + 1) + 1 = f + d + 1 + 1 := by omega
    have e₀ : ¬ N n ≤ N q := by rw [N_le (by omega) (by omega)]; omega
    rw [e₁, ccL79_2, h₁, ccIte, if_neg e₀, ccMckIn (by omega) (by omega), mix_N (by omega), N_add, ccIte]
    show _ = rI (if decide (m 1 i 2 q = v) = true then N q else ccFst (fun k => decide (m 1 i 2 k = v)) d (q + 1)) m rs
    by_cases g₂ : m 1 i 2 q = v
    · rw [if_neg (fun z₁ => z₁ g₂), if_pos (decide_eq_true g₂)]
    · rw [if_pos g₂, if_neg (fun z₁ => g₂ (of_decide_eq_true z₁))]
      exact i₁ (q + 1) f rs (by omega)
theorem ccE79 {m : mMi} {i n : Nat} {v : Int32} {rs : mRs} (h₁ : m 1 i 0 4 = N n) (h₂ : n ≤ 40) : F79 i v m rs = rI (ccFst (fun k => decide (m 1 i 2 k = v)) n 0) m rs := by
  obtain ⟨f, hf⟩ := ccFU (k := n) (by omega)
  unfold F79
  rw [hf]
  exact ccL79 h₁ h₂ n 0 f rs (by omega)
/-- the letters of a card compared, cell by cell -/
def ccCmp (c : Nat → Int32) (g : Nat → Nat) (k : Nat) : Nat → Nat → Bool
  | 0, _ => true
  | d + 1, j => (if j < k then decide (c j = N (g j)) && decide (g j ≠ 0) else decide (c j = N 0)) && ccCmp c g k d (j + 1)
theorem ccCmp_is {c : Nat → Int32} {g : Nat → Nat} {k : Nat} : ∀ d j, ccCmp c g k d j = true ↔ ∀ i, j ≤ i → i < j + d → (i < k → c i = N (g i) ∧ g i ≠ 0) ∧ (k ≤ i → c i = N 0) := by
  intro d
  induction d with
  | zero => intro j; exact ⟨fun _ i g₁ g₂ => by omega, fun _ => rfl⟩
  | succ d i₁ =>
    intro j
    have e₁ : ccCmp c g k (d + 1) j = ((if j < k then decide (c j = N (g j)) && decide (g j ≠ 0) else decide (c j = N 0)) && ccCmp c g k d (j + 1)) := rfl
    rw [e₁, Bool.and_eq_true, i₁ (j + 1)]
    constructor
    · intro h₁ i g₁ g₂
      by_cases g₃ : i = j
      · subst g₃
        have h₂ := h₁.1
        by_cases g₄ : i < k
        · rw [if_pos g₄, Bool.and_eq_true] at h₂
          exact ⟨fun _ => ⟨of_decide_eq_true h₂.1, of_decide_eq_true h₂.2⟩, fun z₁ => by omega⟩
        · rw [if_neg g₄] at h₂
          exact ⟨fun z₁ => absurd z₁ g₄, fun _ => of_decide_eq_true h₂⟩
      · exact h₁.2 i (by omega) (by omega)
    · intro h₁
      refine ⟨?_, fun i g₁ g₂ => h₁ i (by omega) (by omega)⟩
      have h₂ := h₁ j (by omega) (by omega)
      by_cases g₄ : j < k
      · rw [if_pos g₄, Bool.and_eq_true]
        exact ⟨decide_eq_true (h₂.1 g₄).1, decide_eq_true (h₂.1 g₄).2⟩
      · rw [if_neg g₄]
        exact decide_eq_true (h₂.2 (by omega))
theorem ccL194z {m : mMi} {s k q : Nat} (h₁ : s + k ≤ 900) (h₂ : k ≤ 6) : ∀ d j f rs, j + d = 6 → F194_2 (f + d + 1) 28 (N s) (N (s + k)) (N q) (N 0) (N j) m rs = F194_2 f 2 (N s) (N (s + k)) (N (q + 1)) (N 0) (N 0) m rs := by
  intro d
  induction d with
  | zero =>
    intro j f rs g₁
    have e₀ : N 6 ≤ N j := by rw [N_le (by omega) (by omega)]; omega
    rw [ccL194_2_28, ccIte, if_pos e₀, ccIte, if_pos rfl, N_add]
  | succ d i₁ =>
    intro j f rs g₁
    have e₁ : f + (d + 1) + 1 = f + d + 1 + 1 := by omega
    have e₀ : ¬ N 6 ≤ N j := by rw [N_le (by omega) (by omega)]; omega
    rw [e₁, ccL194_2_28, ccIte, if_neg e₀, N_add s j, N_add j 1, ccIte]
    by_cases g₂ : j < k
    · have e₂ : ¬ N (s + k) ≤ N (s + j) := by rw [N_le (by omega) (by omega)]; omega
      rw [if_neg e₂, ccMckIn (by omega) (by omega), ccIte, if_pos rfl]
      exact i₁ (j + 1) f rs (by omega)
    · have e₂ : N (s + k) ≤ N (s + j) := by rw [N_le (by omega) (by omega)]; omega
      rw [if_pos e₂, ccIte, if_pos rfl]
      exact i₁ (j + 1) f rs (by omega)
theorem ccL194o {m : mMi} {s k q : Nat} {g : Nat → Nat} (h₁ : s + k ≤ 900) (h₂ : k ≤ 6) (h₃ : q < 40) (h₄ : ∀ i, i < k → g i < 256 ∧ m 4 0 7 (s + i) = N (g i)) : ∀ d j f rs, j + d = 6 → F194_2 (f + d + 1) 28 (N s) (N (s + k)) (N q) (N 1) (N j) m rs = if ccCmp (fun i => m 4 0 1 (6 * q + i)) g k d j = true then rI (N q) m rs else F194_2 f 2 (N s) (N (s + k)) (N (q + 1)) (N 0) (N 0) m rs := by
  have e₉ : ¬ N 1 = N 0 := by rw [N_eq (by omega) (by omega)]; omega
  intro d
  induction d with
  | zero =>
    intro j f rs g₁
    have e₀ : N 6 ≤ N j := by rw [N_le (by omega) (by omega)]; omega
    rw [ccL194_2_28, ccIte, if_pos e₀, ccIte, if_neg e₉]
    rfl
  | succ d i₁ =>
    intro j f rs g₁
    have e₁ : f + (d + 1) + 1 = f + d + 1 + 1 := by omega
    have e₀ : ¬ N 6 ≤ N j := by rw [N_le (by omega) (by omega)]; omega
    have e₃ : N 6 * N q + N j = N (6 * q + j) := by rw [N_mul, N_add]
    have e₄ : ccCmp (fun i => m 4 0 1 (6 * q + i)) g k (d + 1) j = ((if j < k then decide (m 4 0 1 (6 * q + j) = N (g j)) && decide (g j ≠ 0) else decide (m 4 0 1 (6 * q + j) = N 0)) && ccCmp (fun i => m 4 0 1 (6 * q + i)) g k d (j + 1)) := rfl
    have z := ccL194z (m := m) (q := q) h₁ h₂ d (j + 1) f rs (by omega)
    have o := i₁ (j + 1) f rs (by omega)
    rw [e₄, e₁, ccL194_2_28, ccIte, if_neg e₀, N_add s j, N_add j 1, e₃, ccIte]
    by_cases g₂ : j < k
    · have e₂ : ¬ N (s + k) ≤ N (s + j) := by rw [N_le (by omega) (by omega)]; omega
      have e₅ : N (s + j) < N (s + k) := by rw [N_lt (by omega) (by omega)]; omega
      obtain ⟨e₆, e₇⟩ := h₄ j g₂
      rw [if_neg e₂, if_pos g₂, ccMckIn (by omega) (by omega), ccIte, if_neg e₉, ccMckIn (by omega) (by omega), mix_N (by omega), mix_N (by omega), e₇, ccIte]
      by_cases g₃ : m 4 0 1 (6 * q + j) = N (g j)
      · rw [if_neg (fun z₁ => z₁ g₃), decide_eq_true g₃, Bool.true_and, ccIte]
        by_cases g₄ : g j = 0
        · have e₈ : ¬ N (g j) ≠ N 0 := fun z₁ => z₁ (by rw [g₄])
          have y₁ : decide (g j ≠ 0) = false := decide_eq_false (fun z₁ => z₁ g₄)
          rw [if_neg e₈, y₁, Bool.false_and, if_neg (by intro z₁; cases z₁), ccIte, if_pos e₅]
          exact z
        · have e₈ : N (g j) ≠ N 0 := by rw [ne_eq, N_eq (by omega) (by omega)]; exact g₄
          rw [if_pos e₈, decide_eq_true g₄, Bool.true_and]
          exact o
      · rw [if_pos g₃, decide_eq_false g₃, Bool.false_and, Bool.false_and, if_neg (by intro z₁; cases z₁)]
        exact z
    · have e₂ : N (s + k) ≤ N (s + j) := by rw [N_le (by omega) (by omega)]; omega
      have e₅ : ¬ N (s + j) < N (s + k) := by rw [N_lt (by omega) (by omega)]; omega
      rw [if_pos e₂, if_neg g₂, ccIte, if_neg e₉, ccMckIn (by omega) (by omega), mix_N (by omega), ccIte]
      by_cases g₃ : m 4 0 1 (6 * q + j) = N 0
      · rw [if_neg (fun z₁ => z₁ g₃), decide_eq_true g₃, Bool.true_and, ccIte, if_neg (fun z₁ => z₁ rfl), ccIte, if_neg e₅]
        exact o
      · rw [if_pos g₃, decide_eq_false g₃, Bool.false_and, if_neg (by intro z₁; cases z₁)]
        exact z
theorem ccL194 {m : mMi} {s k n : Nat} {g : Nat → Nat} (h₀ : m 4 0 0 8 = N n) (b₃ : n ≤ 40) (h₁ : s + k ≤ 900) (h₂ : 1 ≤ k ∧ k ≤ 6) (h₄ : ∀ i, i < k → g i < 256 ∧ m 4 0 7 (s + i) = N (g i)) : ∀ d q f x4 x5 rs, q + d = n → F194_2 (f + 8 * d + 1) 2 (N s) (N (s + k)) (N q) x4 x5 m rs = rI (ccFst (fun q => ccCmp (fun i => m 4 0 1 (6 * q + i)) g k 6 0) d q) m rs := by
  intro d
  induction d with
  | zero =>
    intro q f x4 x5 rs g₁
    have e₀ : N n ≤ N q := by rw [N_le (by omega) (by omega)]; omega
    rw [ccL194_2_2, h₀, ccIte, if_pos e₀]
    rfl
  | succ d i₁ =>
    intro q f x4 x5 rs g₁
    have e₁ : f + 8 * (d + 1) + 1 = f + 8 * d + 1 + 6 + 1 + 1 := by omega
    have e₀ : ¬ N n ≤ N q := by rw [N_le (by omega) (by omega)]; omega
    have e₂ : N (s + k) - N s = N k := by
      rw [N_sub (by omega)]
      congr 1
      omega
    have e₃ := ccL194o (m := m) (q := q) h₁ h₂.2 (by omega) h₄ 6 0 (f + 8 * d + 1) rs (by omega)
    rw [e₁, ccL194_2_2, h₀, ccIte, if_neg e₀, e₂, ccE177 (by omega) (by omega) (by omega), decide_eq_true h₂.1, decide_eq_true h₂.2, ccBi]
    show mifO (decide (N 1 = N 0)) _ _ = rI (if ccCmp (fun i => m 4 0 1 (6 * q + i)) g k 6 0 = true then N q else ccFst (fun q => ccCmp (fun i => m 4 0 1 (6 * q + i)) g k 6 0) d (q + 1)) m rs
    have e₉ : ¬ N 1 = N 0 := by rw [N_eq (by omega) (by omega)]; omega
    rw [ccIte, if_neg e₉, e₃]
    by_cases g₂ : ccCmp (fun i => m 4 0 1 (6 * q + i)) g k 6 0 = true
    · rw [if_pos g₂, if_pos g₂]
    · rw [if_neg g₂, if_neg g₂]
      exact i₁ (q + 1) f _ _ rs (by omega)
theorem ccE194 {m : mMi} {s k n : Nat} {g : Nat → Nat} {rs : mRs} (h₀ : m 4 0 0 8 = N n) (b₃ : n ≤ 40) (h₁ : s + k ≤ 900) (h₂ : 1 ≤ k ∧ k ≤ 6) (h₄ : ∀ i, i < k → g i < 256 ∧ m 4 0 7 (s + i) = N (g i)) : F194 (N s) (N (s + k)) m rs = rI (ccFst (fun q => ccCmp (fun i => m 4 0 1 (6 * q + i)) g k 6 0) n 0) m rs := by
  obtain ⟨f, hf⟩ := ccFU (k := 8 * n) (by omega)
  unfold F194
  rw [hf]
  exact ccL194 h₀ b₃ h₁ h₂ h₄ n 0 f _ _ rs (by omega)
theorem ccE194z {m : mMi} {s k n : Nat} {rs : mRs} (h₀ : m 4 0 0 8 = N n) (b₃ : n ≤ 40) (h₁ : s + k ≤ 900) (h₂ : ¬ (1 ≤ k ∧ k ≤ 6)) : F194 (N s) (N (s + k)) m rs = rI (I (-1)) m rs := by
  obtain ⟨f, hf⟩ := ccFU (k := 0) (by omega)
  have e₂ : N (s + k) - N s = N k := by
    rw [N_sub (by omega)]
    congr 1
    omega
  have e₃ : (decide (1 ≤ k) && decide (k ≤ 6)) = false := by
    by_cases g₁ : 1 ≤ k
    · rw [decide_eq_false (by omega : ¬ k ≤ 6), Bool.and_false]
    · rw [decide_eq_false g₁, Bool.false_and]
  unfold F194
  rw [hf, ccL194_2_2, h₀, ccIte]
  by_cases g : N n ≤ N 0
  · rw [if_pos g]
  · rw [if_neg g, e₂, ccE177 (by omega) (by omega) (by omega), e₃, ccBi, ccT_f, ccIf0e]
/-- the same number, the same letters -/
theorem ccNum_inj {g u : Nat → Nat} : ∀ k e, (∀ i, i < k → 97 ≤ g i ∧ g i ≤ 122) → (∀ i, i < e → 97 ≤ u i ∧ u i ≤ 122) → ccNum g k = ccNum u e → k = e ∧ ∀ i, i < k → g i = u i := by
  intro k
  induction k with
  | zero =>
    intro e _ h₂ h₃
    cases e with
    | zero => exact ⟨rfl, fun i g₁ => by omega⟩
    | succ e =>
      have y₁ := h₂ e (by omega)
      have y₂ : ccNum g 0 = 0 := rfl
      rw [ccNum_s, y₂] at h₃
      omega
  | succ k i₁ =>
    intro e h₁ h₂ h₃
    have y₁ := h₁ k (by omega)
    cases e with
    | zero =>
      have y₂ : ccNum u 0 = 0 := rfl
      rw [ccNum_s, y₂] at h₃
      omega
    | succ e =>
      have y₂ := h₂ e (by omega)
      rw [ccNum_s, ccNum_s] at h₃
      obtain ⟨z₁, z₂⟩ := i₁ e (fun i g₁ => h₁ i (by omega)) (fun i g₁ => h₂ i (by omega)) (by omega)
      subst z₁
      refine ⟨rfl, fun i g₁ => ?_⟩
      by_cases g₂ : i = k
      · subst g₂
        omega
      · exact z₂ i (by omega)
theorem ccNum_cg {g u : Nat → Nat} : ∀ k, (∀ i, i < k → g i = u i) → ccNum g k = ccNum u k := by
  intro k
  induction k with
  | zero => intro _; rfl
  | succ k i₁ =>
    intro h₁
    rw [ccNum_s, ccNum_s, i₁ (fun i g₁ => h₁ i (by omega)), h₁ k (by omega)]
theorem ccNmv_is {g : Nat → Nat} : ∀ d j, ((∀ i, j ≤ i → i < j + d → 97 ≤ g i ∧ g i ≤ 122) ∧ ccNmv g d j = N (ccNum g (j + d))) ∨ ((∃ i, j ≤ i ∧ i < j + d ∧ ¬ (97 ≤ g i ∧ g i ≤ 122)) ∧ ccNmv g d j = I (-1)) := by
  intro d
  induction d with
  | zero => intro j; exact Or.inl ⟨fun i g₁ g₂ => by omega, rfl⟩
  | succ d i₁ =>
    intro j
    have e₁ : ccNmv g (d + 1) j = if 97 ≤ g j ∧ g j ≤ 122 then ccNmv g d (j + 1) else I (-1) := rfl
    have e₂ : j + (d + 1) = j + 1 + d := by omega
    rw [e₁, e₂]
    by_cases g₁ : 97 ≤ g j ∧ g j ≤ 122
    · rw [if_pos g₁]
      rcases i₁ (j + 1) with ⟨y₁, y₂⟩ | ⟨⟨i, y₁, y₂, y₃⟩, y₄⟩
      · refine Or.inl ⟨fun i z₁ z₂ => ?_, y₂⟩
        by_cases z₃ : i = j
        · rw [z₃]
          exact g₁
        · exact y₁ i (by omega) z₂
      · exact Or.inr ⟨⟨i, by omega, y₂, y₃⟩, y₄⟩
    · rw [if_neg g₁]
      exact Or.inr ⟨⟨j, by omega, by omega, g₁⟩, rfl⟩
theorem ccNum_27 {g : Nat → Nat} {k : Nat} (h₁ : ∀ i, i < k → 97 ≤ g i ∧ g i ≤ 122) (h₂ : k ≤ 6) : ccNum g k < 1073741824 := by
  have e₁ := (ccNum_lt h₁ k (Nat.le_refl k)).1
  have e₂ : 32 ^ k ≤ 32 ^ 6 := Nat.pow_le_pow_right (by omega) h₂
  have e₃ : 32 ^ 6 = 1073741824 := rfl
  omega
theorem ccNmq {c : Nat → Int32} {g u : Nat → Nat} {k e : Nat} (h₁ : 1 ≤ e ∧ e ≤ 6) (h₂ : ∀ i, i < e → 97 ≤ u i ∧ u i ≤ 122 ∧ c i = N (u i)) (h₃ : ∀ i, e ≤ i → i < 6 → c i = N 0) (h₄ : k ≤ 6) (h₅ : ∀ i, i < k → g i < 256) : N (ccNum u e) = ccNmv g k 0 ↔ ccCmp c g k 6 0 = true := by
  have hu : ∀ i, i < e → 97 ≤ u i ∧ u i ≤ 122 := fun i y₁ => ⟨(h₂ i y₁).1, (h₂ i y₁).2.1⟩
  have ub := ccNum_27 hu h₁.2
  have ke : ccCmp c g k 6 0 = true → k = e ∧ ∀ i, i < k → g i = u i := fun z₁ => by
    have z₂ := (ccCmp_is 6 0).1 z₁
    have z₃ : k = e := by
      by_cases y₁ : k < e
      · have y₂ := (z₂ k (by omega) (by omega)).2 (Nat.le_refl k)
        obtain ⟨y₃, y₄, y₅⟩ := h₂ k y₁
        rw [y₅, N_eq (by omega) (by omega)] at y₂
        omega
      · by_cases y₂ : e < k
        · obtain ⟨y₃, y₄⟩ := (z₂ e (by omega) (by omega)).1 y₂
          have y₅ := h₅ e y₂
          rw [h₃ e (Nat.le_refl e) (by omega), N_eq (by omega) (by omega)] at y₃
          omega
        · omega
    refine ⟨z₃, fun i y₁ => ?_⟩
    obtain ⟨y₃, y₄⟩ := (z₂ i (by omega) (by omega)).1 y₁
    obtain ⟨y₅, y₆, y₇⟩ := h₂ i (by omega)
    have y₈ := h₅ i y₁
    rw [y₇, N_eq (by omega) (by omega)] at y₃
    omega
  rcases ccNmv_is (g := g) k 0 with ⟨y₁, y₂⟩ | ⟨⟨i, y₁, y₂, y₃⟩, y₄⟩
  · have hg : ∀ i, i < k → 97 ≤ g i ∧ g i ≤ 122 := fun i z₁ => y₁ i (by omega) (by omega)
    have gb := ccNum_27 hg h₄
    rw [y₂, Nat.zero_add, N_eq (by omega) (by omega)]
    constructor
    · intro z₁
      obtain ⟨z₂, z₃⟩ := ccNum_inj e k hu hg z₁
      refine (ccCmp_is 6 0).2 (fun i z₄ z₅ => ⟨fun z₆ => ?_, fun z₆ => h₃ i (by omega) (by omega)⟩)
      obtain ⟨y₅, y₆, y₇⟩ := h₂ i (by omega)
      have y₈ := hg i z₆
      rw [y₇, z₃ i (by omega)]
      exact ⟨rfl, by omega⟩
    · intro z₁
      obtain ⟨z₂, z₃⟩ := ke z₁
      rw [← z₂]
      exact (ccNum_cg k z₃).symm
  · rw [y₄]
    constructor
    · intro z₁
      exact absurd z₁ (ccNI1 (by omega))
    · intro z₁
      obtain ⟨z₂, z₃⟩ := ke z₁
      have z₄ := hu i (by omega)
      rw [z₃ i (by omega)] at y₃
      exact absurd z₄ y₃
theorem ccFst_cg {f h : Nat → Bool} : ∀ d p, (∀ q, p ≤ q → q < p + d → f q = h q) → ccFst f d p = ccFst h d p := by
  intro d
  induction d with
  | zero => intro p _; rfl
  | succ d i₁ =>
    intro p h₁
    show (if f p = true then N p else ccFst f d (p + 1)) = if h p = true then N p else ccFst h d (p + 1)
    rw [h₁ p (by omega) (by omega), i₁ (p + 1) (fun q g₁ g₂ => h₁ q (by omega) (by omega))]
theorem ccFst_none {f : Nat → Bool} : ∀ d p, (∀ q, p ≤ q → q < p + d → f q = false) → ccFst f d p = I (-1) := by
  intro d
  induction d with
  | zero => intro p _; rfl
  | succ d i₁ =>
    intro p h₁
    show (if f p = true then N p else ccFst f d (p + 1)) = _
    rw [h₁ p (by omega) (by omega), if_neg (by intro z₁; cases z₁)]
    exact i₁ (p + 1) (fun q g₁ g₂ => h₁ q (by omega) (by omega))
theorem ccOk_113 {B : Nat} {m : mMi} {x : Int32} (h₁ : ccTop B m) : ccOk B (F113 x) (F229 x) [(1, 1), (2, 2)] m := by
  rcases h₁.2.2.2 with h₃ | ⟨w, l, n, bd, lm, dp, cl, β, W, h₂⟩
  · exact ccOk_un (b := N 0) h₁ h₃ (List.mem_cons_self) (fun rs e₁ => by unfold F113; rw [e₁]; rfl) (fun rs e₁ => by unfold F229; rw [e₁]; rfl)
  have b₃ : n ≤ 40 := h₂.2.2.1.1.2.2.2.2.2.2.2
  have nc : m 1 0 0 4 = N n := h₂.2.2.1.1.2.2.1
  have nm : m 4 0 0 8 = N n := h₂.2.2.1.2.1.2.2.1
  have nms : ∀ k, k < n → ccNm6 m 0 k := h₂.2.2.1.2.2.2.2.2.2.2.2.2.2
  obtain ⟨e, b, q₁, q₂, e₃⟩ := ccIn_b h₁.1
  have b₄ := q₁.1
  have e₂ := q₁.2.1
  have e₄ : N e = N (e + 1) - N 1 := by rw [N_sub (by omega), Nat.add_sub_cancel]
  have t₁ : ∀ rs, F114 m rs = rV m rs := fun rs => ccE114t h₂.1
  have t₂ : ∀ M : mMi, ∀ rs, M 4 0 0 1 = N 1 → F230 M rs = rI (N 0) (ccM0 M) rs := fun M rs y₁ => ccE230t y₁
  rcases Classical.em (∃ a, x = N a ∧ a < e + 1) with ⟨k, x₁, x₂⟩ | g
  rotate_left
  · refine ccOk_no (E := 2) (c := 2) h₁ (List.mem_cons_of_mem _ List.mem_cons_self) (fun rs => ?_) (fun rs => ?_)
    · unfold F113 F105
      rw [t₁, ccBv, e₂, N_add, ccE106z g (by omega)]
      rfl
    · have y₁ : mset m 4 0 0 0 (N 0) 4 0 0 17 = N e := by
        rw [ccRd, if_neg (by omega)]
        exact e₃
      have y₂ : ¬ ∃ a, x = N a ∧ 0 ≤ a ∧ a < e + 1 := fun ⟨a, z₁, _, z₂⟩ => g ⟨a, z₁, z₂⟩
      unfold F229
      rw [ccE230t h₂.2.1, ccBi, ccIf0, y₁, e₄, ccE177z y₂ (by omega) (by omega), ccBi, ccIf0, ccE178t ccT0s (by omega) (by omega), ccBi, ccIf1e]
  subst x₁
  have m₁ : ∃ M, M = mset m 2 1 0 1 (N 0) := ⟨_, rfl⟩
  obtain ⟨M, hM⟩ := m₁
  have m₂ : ∃ M₂, M₂ = mset (ccM0 M) 4 0 0 17 (N 0) := ⟨_, rfl⟩
  obtain ⟨M₂, hM₂⟩ := m₂
  have f₁ : ∀ f a j p, ¬ (f = 2 ∧ a = 1 ∧ j = 0 ∧ p = 1) → M f a j p = m f a j p := fun f a j p y₁ => by rw [hM, ccRd, if_neg (by omega)]
  have f₂ : ∀ f a j p, ¬ (f = 4 ∧ a = 0 ∧ j = 0 ∧ (p = 17 ∨ p = 0)) → M₂ f a j p = M f a j p := fun f a j p y₁ => by
    rw [hM₂]
    unfold ccM0
    rw [ccRd, if_neg (by omega), ccRd, if_neg (by omega)]
  have val : ∃ v, (∀ rs, F65 (N 0) (N k) m rs = rI v m rs) ∧ (∀ rs, F194 (N 0) (N k) M₂ rs = rI (ccFst (fun q => decide (m 1 0 2 q = v)) n 0) M₂ rs) := by
    have o₀ : M₂ 4 0 0 8 = N n := by rw [f₂ 4 0 0 8 (by omega), f₁ 4 0 0 8 (by omega)]; exact nm
    have z₀ : N k = N (0 + k) := by rw [Nat.zero_add]
    by_cases g₁ : 1 ≤ k ∧ k ≤ 6
    · refine ⟨ccNmv (fun i => b (0 + i)) k 0, fun rs => ccE65 q₁ (by omega) g₁.1 g₁.2, fun rs => ?_⟩
      have y₁ := ccE194 (rs := rs) (g := fun i => b (0 + i)) (s := 0) o₀ b₃ (by omega) g₁ (fun i y₂ => ⟨(q₂.2 (0 + i) (by omega)).1, by rw [f₂ 4 0 7 _ (by omega), f₁ 4 0 7 _ (by omega)]; exact (q₂.2 (0 + i) (by omega)).2⟩)
      have y₃ : ccFst (fun q => ccCmp (fun i => M₂ 4 0 1 (6 * q + i)) (fun i => b (0 + i)) k 6 0) n 0 = ccFst (fun q => decide (m 1 0 2 q = ccNmv (fun i => b (0 + i)) k 0)) n 0 := by
        refine ccFst_cg n 0 (fun q z₁ z₂ => ?_)
        obtain ⟨u, a, a₁, a₂, a₃, a₄, a₅⟩ := nms q (by omega)
        have z₃ := ccNmq (c := fun i => M₂ 4 0 1 (6 * q + i)) (g := fun i => b (0 + i)) (u := u) (k := k) (e := a) ⟨a₁, a₂⟩ (fun i z₄ => ⟨(a₃ i z₄).1, (a₃ i z₄).2.1, by rw [f₂ 4 0 1 _ (by omega), f₁ 4 0 1 _ (by omega)]; exact (a₃ i z₄).2.2⟩) (fun i z₄ z₅ => by rw [f₂ 4 0 1 _ (by omega), f₁ 4 0 1 _ (by omega)]; exact a₄ i z₄ z₅) g₁.2 (fun i z₄ => (q₂.2 (0 + i) (by omega)).1)
        show ccCmp (fun i => M₂ 4 0 1 (6 * q + i)) (fun i => b (0 + i)) k 6 0 = decide (m 1 0 2 q = ccNmv (fun i => b (0 + i)) k 0)
        rw [a₅]
        by_cases z₄ : N (ccNum u a) = ccNmv (fun i => b (0 + i)) k 0
        · rw [decide_eq_true z₄]
          exact z₃.1 z₄
        · rw [decide_eq_false z₄]
          cases z₅ : ccCmp (fun i => M₂ 4 0 1 (6 * q + i)) (fun i => b (0 + i)) k 6 0
          · rfl
          · exact absurd (z₃.2 z₅) z₄
      rw [z₀, y₁, y₃]
    · refine ⟨I (-1), fun rs => ccE65z g₁ (by omega), fun rs => ?_⟩
      have y₃ : ccFst (fun q => decide (m 1 0 2 q = I (-1))) n 0 = I (-1) := by
        refine ccFst_none n 0 (fun q z₁ z₂ => ?_)
        obtain ⟨u, a, a₁, a₂, a₃, a₄, a₅⟩ := nms q (by omega)
        have z₃ := ccNum_27 (fun i z₄ => ⟨(a₃ i z₄).1, (a₃ i z₄).2.1⟩) a₂
        show decide (m 1 0 2 q = I (-1)) = false
        rw [a₅]
        exact decide_eq_false (ccNI1 (by omega))
      rw [y₃, z₀]
      exact ccE194z (s := 0) o₀ b₃ (by omega) g₁
  obtain ⟨v, v₁, v₂⟩ := val
  refine Or.inl ⟨ccFst (fun q => decide (m 1 0 2 q = v)) n 0, M, M₂, fun rs => ?_, fun rs => ?_, ?_, ccTop_in h₁ (fun f a j p y₁ y₂ => ?_) ⟨0, by omega, ?_, ?_, fun k y₁ => by omega⟩, fun a j p => ⟨f₁ 3 a j p (by omega), by rw [f₂ 3 a j p (by omega)]; exact f₁ 3 a j p (by omega), f₁ 4 a j p (by omega)⟩⟩
  · have y₁ : M 1 0 0 4 = N n := by rw [f₁ 1 0 0 4 (by omega)]; exact nc
    have y₂ := ccE79 (rs := rs) (v := v) y₁ b₃
    have y₃ : (fun q => decide (M 1 0 2 q = v)) = fun q => decide (m 1 0 2 q = v) := by
      funext q
      rw [f₁ 1 0 2 q (by omega)]
    rw [y₃] at y₂
    unfold F113 F105
    rw [t₁, ccBv, e₂, N_add, ccE106 (by omega) (by omega), if_pos x₂, ccBv, ccBv, v₁, ccBi, ← hM, y₂, ccBi]
  · have y₀ : M 4 0 0 1 = N 1 := by rw [f₁ 4 0 0 1 (by omega)]; exact h₂.2.1
    have y₁ : mset M 4 0 0 0 (N 0) 4 0 0 17 = N e := by
      rw [ccRd, if_neg (by omega), f₁ 4 0 0 17 (by omega)]
      exact e₃
    have y₂ := v₂ rs
    rw [hM₂] at y₂
    unfold F229
    rw [ccE230t y₀, ccBi, ccIf0, y₁, e₄, ccE177i x₂ (by omega), ccBi, ccIf1, ccE178f ccT0s, ccBi, ccIf0e, y₂, ccBi, ← hM₂]
  · rw [hM₂, ccRd, if_neg (by omega)]
    exact ccT0s
  · rw [f₂ f a j p (by unfold ccJk at y₁; omega), f₁ f a j p (by omega)]
  · rw [f₂ 2 1 0 1 (by omega), hM, ccRd, if_pos ⟨rfl, rfl, rfl, rfl⟩]
  · rw [hM₂, ccRd, if_pos ⟨rfl, rfl, rfl, rfl⟩]
