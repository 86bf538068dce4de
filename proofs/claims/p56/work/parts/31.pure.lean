/-! COUNTS, SUMS, and the tie between a castle of the class and a row of the reference. -/
def ccCnt (f : Nat → Bool) : Nat → Nat
  | 0 => 0
  | k + 1 => ccCnt f k + (if f k = true then 1 else 0)
theorem ccCnt_le {f : Nat → Bool} : ∀ n, ccCnt f n ≤ n := by
  intro n
  induction n with
  | zero => exact Nat.le_refl 0
  | succ k i₁ =>
    unfold ccCnt
    split <;> omega
theorem ccCnt_congr {f g : Nat → Bool} : ∀ n, (∀ k, k < n → f k = g k) → ccCnt f n = ccCnt g n := by
  intro n
  induction n with
  | zero => intro _; rfl
  | succ k i₁ =>
    intro h₁
    unfold ccCnt
    rw [i₁ (fun j h₂ => h₁ j (by omega)), h₁ k (by omega)]
theorem ccCnt_up {f g : Nat → Bool} {k : Nat} (h₁ : f k = false) (h₂ : g k = true) (h₃ : ∀ j, j ≠ k → f j = g j) : ∀ n, ccCnt g n = ccCnt f n + (if k < n then 1 else 0) := by
  intro n
  induction n with
  | zero => rfl
  | succ m i₁ =>
    unfold ccCnt
    rw [i₁]
    by_cases h₄ : m = k
    · subst h₄
      rw [h₁, h₂]
      simp
    · rw [h₃ m h₄]
      repeat' split
      all_goals omega
theorem ccCnt_lt {f : Nat → Bool} {k : Nat} (h₁ : f k = false) : ∀ n, k < n → ccCnt f n < n := by
  intro n
  induction n with
  | zero => intro h₂; omega
  | succ m i₁ =>
    intro h₂
    unfold ccCnt
    by_cases h₄ : m = k
    · subst h₄
      rw [h₁]
      have h₅ := ccCnt_le (f := f) m
      simp
      omega
    · have h₅ := i₁ (by omega)
      split <;> omega
theorem ccCnt_zero {f : Nat → Bool} : ∀ n, ccCnt f n = 0 → ∀ k, k < n → f k = false := by
  intro n
  induction n with
  | zero => intro _ k h₁; omega
  | succ m i₁ =>
    intro h₁ k h₂
    unfold ccCnt at h₁
    by_cases h₃ : f m = true
    · rw [if_pos h₃] at h₁; omega
    · by_cases h₄ : k = m
      · subst h₄; simpa using h₃
      · exact i₁ (by omega) k (by omega)
theorem ccCnt_pos {f : Nat → Bool} {k : Nat} (h₁ : f k = true) : ∀ n, k < n → 0 < ccCnt f n := by
  intro n h₂
  by_cases h₃ : ccCnt f n = 0
  · have h₄ := ccCnt_zero n h₃ k h₂
    rw [h₁] at h₄
    cases h₄
  · omega
def ccSum (f : Nat → Int32) : Nat → Int32
  | 0 => N 0
  | k + 1 => ccSum f k + f k
theorem ccSum_congr {f g : Nat → Int32} : ∀ n, (∀ k, k < n → f k = g k) → ccSum f n = ccSum g n := by
  intro n
  induction n with
  | zero => intro _; rfl
  | succ k i₁ =>
    intro h₁
    unfold ccSum
    rw [i₁ (fun j h₂ => h₁ j (by omega)), h₁ k (by omega)]
theorem ccSum_up {f g : Nat → Int32} {k : Nat} (h₃ : ∀ j, j ≠ k → f j = g j) : ∀ n, ccSum g n = ccSum f n + (if k < n then g k - f k else 0) := by
  intro n
  induction n with
  | zero => unfold ccSum; simp
  | succ m i₁ =>
    unfold ccSum
    rw [i₁]
    by_cases h₄ : m = k
    · subst h₄
      rw [if_neg (by omega), if_pos (by omega)]
      grind
    · rw [h₃ m h₄]
      by_cases h₅ : k < m
      · have e₁ : k < m + 1 := by omega
        rw [if_pos h₅, if_pos e₁]; grind
      · have e₁ : ¬ k < m + 1 := by omega
        rw [if_neg h₅, if_neg e₁]; grind
/-- a castle, a row, changed at one place -/
def ccU (C : Nat → Nat → Int32) (j p : Nat) (v : Int32) : Nat → Nat → Int32 := fun j₁ p₁ => if j₁ = j ∧ p₁ = p then v else C j₁ p₁
def ccV (s : Nat → Int32) (q : Nat) (v : Int32) : Nat → Int32 := fun q₁ => if q₁ = q then v else s q₁
theorem ccU_set {mi : mMi} {i j p : Nat} {v : Int32} : (mset mi 0 i j p v) 0 i = ccU (mi 0 i) j p v := by
  funext j₁ p₁
  rw [ccRd]
  unfold ccU
  simp only [true_and]
theorem ccV_set {mi : mMi} {q : Nat} {v : Int32} : (mset mi 4 0 3 q v) 4 0 3 = ccV (mi 4 0 3) q v := by
  funext q₁
  rw [ccRd]
  unfold ccV
  simp only [true_and]
/-- the grid -/
def ccRA (C : Nat → Nat → Int32) (s : Nat → Int32) : Prop := ∀ p, p < 96 → s (248 + 4 * p) = C 2 p ∧ s (632 + p) = C 6 p ∧ (C 2 p ≠ I (-1) → s (249 + 4 * p) = C 3 p ∧ s (250 + 4 * p) = C 4 p ∧ s (251 + 4 * p) = C 5 p)
/-- who stands where: cards of X have left the grid, and are not laid anywhere yet -/
def ccRB (X : Nat → Bool) (n : Nat) (C : Nat → Nat → Int32) (s : Nat → Int32) : Prop :=
  (∀ p, p < 96 → C 2 p ≠ I (-1) → ∃ a b, a < n ∧ b < n ∧ a ≠ b ∧ C 2 p = N a ∧ C 3 p = N b ∧ C 13 a = N p ∧ C 13 b = N p ∧ s (9 + 6 * a) = N 2 ∧ s (9 + 6 * b) = N 2 ∧ X a = false ∧ X b = false) ∧
  (∀ p, p < 96 → C 6 p ≠ I (-1) → ∃ a, a < n ∧ C 6 p = N a ∧ C 13 a = N p ∧ s (9 + 6 * a) = N 3 ∧ X a = false)
/-- the cards -/
def ccRC (X : Nat → Bool) (n : Nat) (b : Nat → Int32) (C : Nat → Nat → Int32) (s : Nat → Int32) : Prop := ∀ k, k < n →
  (s (8 + 6 * k) = C 11 k ∧ s (11 + 6 * k) = C 12 k ∧ ∃ z y, C 11 k = N z ∧ s (12 + 6 * k) = N y ∧ b k = N (z + y) ∧ 1 ≤ z ∧ z + y ≤ 9) ∧
  ((X k = true ∧ ∃ p, p < 96 ∧ C 13 k = N p) ∨ (X k = false ∧ C 13 k = I (-1) ∧ s (9 + 6 * k) = N 0) ∨ (X k = false ∧ C 13 k = I (-2) ∧ s (9 + 6 * k) = N 1) ∨
    (X k = false ∧ ∃ p, p < 96 ∧ C 13 k = N p ∧ s (10 + 6 * k) = N p ∧ ((s (9 + 6 * k) = N 2 ∧ C 2 p ≠ I (-1) ∧ (C 2 p = N k ∨ C 3 p = N k)) ∨ (s (9 + 6 * k) = N 3 ∧ C 6 p = N k))))
/-- the heap: h cards -/
def ccRD (h n : Nat) (C : Nat → Nat → Int32) (s : Nat → Int32) : Prop := h = ccCnt (fun k => decide (C 13 k = I (-2))) n ∧ C 10 5 = N h ∧ s 7 = N h ∧ (∀ u, u < h → s (728 + u) = C 14 u) ∧ (∀ k, k < n → ccCnt (fun u => decide (C 14 u = N k)) h = if C 13 k = I (-2) then 1 else 0)
/-- the log: t falls -/
def ccRE (t : Nat) (C : Nat → Nat → Int32) (s : Nat → Int32) : Prop := C 7 2 = N t ∧ s 1 = N t ∧ (∀ u, u < 30 → u < t → (∀ e, e < 5 → s (768 + 5 * u + e) = C 8 (5 * u + e)) ∧ ∃ x y z g, C 8 (5 * u + 1) = N x ∧ C 8 (5 * u + 2) = N y ∧ C 8 (5 * u + 3) = N z ∧ C 8 (5 * u + 4) = N g ∧ x < 8 ∧ y < 12 ∧ z < 2 ∧ g < 4) ∧
  (∀ u, u < 4 → s (2 + u) = C 9 u) ∧ s 0 = C 0 5 ∧ s 6 = C 0 6 ∧ ∃ z, C 0 5 = N z ∧ z ≤ 9999
def ccW1 (wt : Nat → Int32) (C : Nat → Nat → Int32) (p : Nat) : Int32 := (if C 2 p = I (-1) then N 0 else wt (mix (C 2 p)) + wt (mix (C 3 p))) + (if C 6 p = I (-1) then N 0 else wt (mix (C 6 p)))
def ccW2 (wt : Nat → Int32) (X : Nat → Bool) (s : Nat → Int32) (k : Nat) : Int32 := if X k = false ∧ N 2 ≤ s (9 + 6 * k) then wt k else N 0
/-- what is built, weighed by places and by cards -/
def ccRF (X : Nat → Bool) (n : Nat) (wt : Nat → Int32) (C : Nat → Nat → Int32) (s : Nat → Int32) : Prop := ccSum (ccW1 wt C) 96 = ccSum (ccW2 wt X s) n
def ccX0 : Nat → Bool := fun _ => false
