/-! CALLS: tremor. -/
def ccIsTr (w : Nat) (x y : Int32) : Prop := ∃ a c, x = N a ∧ y = N c ∧ 1 ≤ a ∧ a ≤ 99 ∧ c < w
theorem ccE117z {m : mMi} {rs : mRs} {x : Int32} {b n : Nat} (h₁ : ¬ ∃ a, x = N a ∧ b ≤ a ∧ a ≤ n) (h₂ : n < 1000000) (h₃ : b < 1000000) : F117 x (N b) (N n) m rs = rX 3 m (rsT rs) := by
  rcases ccAny x with ⟨a, e₁, e₂⟩ | ⟨e₁, _⟩
  · rw [e₁, ccE117 e₂ (by omega) (by omega), if_neg (fun y₁ => h₁ ⟨a, e₁, y₁⟩)]
  · exact ccE117n e₁ (by omega)
theorem ccE142t {m : mMi} {rs : mRs} {w l n a c : Nat} (h₁ : m 2 0 0 10 = N 1) (q₁ : ccRu m 0 w l n) (h₂ : 1 ≤ a) (h₃ : a ≤ 99) (h₄ : c < w) : F142 (N a) (N c) m rs = rV m rs := by
  have b₁ : w ≤ 12 := q₁.2.2.2.2.1
  unfold F142
  rw [ccE114t h₁, ccBv, ccE117 (by omega) (by omega) (by omega), if_pos ⟨h₂, h₃⟩, ccBv, q₁.1, N_sub (by omega), ccE117 (by omega) (by omega) (by omega), if_pos ⟨by omega, by omega⟩, ccBv]
theorem ccE142f {m : mMi} {rs : mRs} {w l n : Nat} {x y : Int32} (h₁ : m 2 0 0 10 = N 1) (q₁ : ccRu m 0 w l n) (h₂ : ¬ ccIsTr w x y) : F142 x y m rs = rX 3 m (rsT rs) := by
  have b₁ : w ≤ 12 := q₁.2.2.2.2.1
  have b₀ : 2 ≤ w := q₁.2.2.2.1
  unfold F142
  rw [ccE114t h₁, ccBv]
  rcases Classical.em (∃ a, x = N a ∧ 1 ≤ a ∧ a ≤ 99) with ⟨a, e₁, e₂, e₃⟩ | h₃
  · rw [e₁, ccE117 (by omega) (by omega) (by omega), if_pos ⟨e₂, e₃⟩, ccBv, q₁.1, N_sub (by omega), ccE117z (fun ⟨c, f₁, f₂, f₃⟩ => h₂ ⟨a, c, e₁, f₁, e₂, e₃, by omega⟩) (by omega) (by omega), ccBvX]
  · rw [ccE117z h₃ (by omega) (by omega), ccBvX]
theorem ccE267t {m : mMi} {rs : mRs} {w l n a c : Nat} (q₁ : ccMo m w l n) (h₂ : 1 ≤ a) (h₃ : a ≤ 99) (h₄ : c < w) : F267 (N a) (N c) m rs = rI (N 1) m rs := by
  have b₁ : w ≤ 12 := q₁.2.2.2.2.1
  unfold F267
  rw [ccE177' (by omega) (by omega) (by omega), decide_eq_true h₂, decide_eq_true h₃, ccBi, q₁.1, N_sub (by omega), ccE177' (by omega) (by omega) (by omega), decide_eq_true (Nat.zero_le c), decide_eq_true (by omega : c ≤ w - 1)]
  rfl
theorem ccE267f {m : mMi} {rs : mRs} {w l n : Nat} {x y : Int32} (q₁ : ccMo m w l n) (h₂ : ¬ ccIsTr w x y) : F267 x y m rs = rI (N 0) m rs := by
  have b₁ : w ≤ 12 := q₁.2.2.2.2.1
  have e₀ : N 99 = N 100 - N 1 := rfl
  unfold F267
  rcases Classical.em (∃ a, x = N a ∧ 1 ≤ a ∧ a < 100) with ⟨a, e₁, e₂, e₃⟩ | h₃
  · rw [e₁, ccE177' (by omega) (by omega) (by omega), decide_eq_true e₂, decide_eq_true (by omega : a ≤ 99), ccBi, q₁.1, ccE177z (fun ⟨c, f₁, f₂, f₃⟩ => h₂ ⟨a, c, e₁, f₁, e₂, by omega, f₃⟩) (by omega) (by omega)]
    rfl
  · rw [e₀, ccE177z h₃ (by omega) (by omega)]
    rfl
/-- a tremor is asked for -/
theorem ccOk_trem {B : Nat} {Fc Fm kc km : mMi → mRs → mRz} {ec : List (Nat × Nat)} {m : mMi} {x y b : Int32} (h₁ : ccTop B m) (h₀ : (1, 1) ∈ ec) (h₀' : (3, 2) ∈ ec) (hc : ∀ m rs, Fc m rs = bV (F142 x y m rs) kc) (hm₁ : ∀ m rs, F230 m rs = rI (N 1) (mset (ccM0 m) 4 0 0 0 (N 1)) rs → Fm m rs = rI b (mset (ccM0 m) 4 0 0 0 (N 1)) rs) (hm₂ : ∀ m rs, F230 m rs = rI (N 0) (ccM0 m) rs → F267 x y (ccM0 m) rs = rI (N 1) (ccM0 m) rs → Fm m rs = km (ccM0 m) rs) (hm₃ : ∀ m rs, F230 m rs = rI (N 0) (ccM0 m) rs → F267 x y (ccM0 m) rs = rI (N 0) (ccM0 m) rs → Fm m rs = rI b (mset (ccM0 m) 4 0 0 0 (N 2)) rs)
    (h₂ : ∀ w l n bd lm dp cl β W a c, ccLd B m w l n bd lm dp cl β W → x = N a → y = N c → 1 ≤ a → a ≤ 99 → c < w → ccOk B kc (fun m rs => km (ccM0 m) rs) ec m) : ccOk B Fc Fm ec m := by
  rcases h₁.2.2.2 with h₃ | ⟨w, l, n, bd, lm, dp, cl, β, W, h₃⟩
  · refine ccOk_x (E := 1) (c := 1) (b := b) (m₂ := mset (ccM0 m) 4 0 0 0 (N 1)) h₁ h₀ (fun rs => ?_) (fun rs => hm₁ m rs (ccE230f h₃.2.1)) ccT0s (ccEq_t (ccEq_t ccEq_rfl))
    have e₁ : F142 x y m rs = rX 1 m (rsT rs) := by
      unfold F142
      rw [ccE114f h₃.1, ccBvX]
    rw [hc, e₁, ccBvX]
  · rcases Classical.em (ccIsTr w x y) with ⟨a, c, e₁, e₂, e₃, e₄, e₅⟩ | h₄
    · refine ccOk_imp (h₂ w l n bd lm dp cl β W a c h₃ e₁ e₂ e₃ e₄ e₅) (fun rs => ?_) (fun m₁ rs y₁ => ?_)
      · rw [hc, e₁, e₂, ccE142t h₃.1 h₃.2.2.1.1 e₃ e₄ e₅, ccBv]
      · refine hm₂ m₁ rs (ccE230t (by rw [y₁]; exact h₃.2.1)) ?_
        rw [e₁, e₂]
        exact ccE267t (ccM0_mo (ccMo_4 y₁ h₃.2.2.1.2.1)) e₃ e₄ e₅
    · refine ccOk_x (E := 3) (c := 2) (b := b) (m₂ := mset (ccM0 m) 4 0 0 0 (N 2)) h₁ h₀' (fun rs => ?_) (fun rs => hm₃ m rs (ccE230t h₃.2.1) (ccE267f (ccM0_mo h₃.2.2.1.2.1) h₄)) ccT0s (ccEq_t (ccEq_t ccEq_rfl))
      rw [hc, ccE142f h₃.1 h₃.2.2.1.1 h₄, ccBvX]
/-! what a tremor adds is small -/
theorem ccWob_b {C : Nat → Nat → Int32} {a d c p z : Nat} (h₁ : a ≤ 99) (h₂ : d ≤ 9) (h₃ : c < 12) (h₄ : p < 96) (h₅ : ccStf C p = N z) (h₆ : 2 ≤ z) (h₇ : z ≤ 18) : ∃ u, ccWob (N a) (N d) (N c) C p = N u ∧ u ≤ 1000 := by
  obtain ⟨k, hk⟩ : ∃ k : Int, k = ((2 * (p % 12) + p / 12 : Nat) : Int) - ((2 * c : Nat) : Int) := ⟨_, rfl⟩
  have e₁ : N (2 * (p % 12) + p / 12) - N 2 * N c = I k := by rw [N_mul, ← I_N, ← I_N, I_sub, hk]
  have z₀ : (0 : Int32) = I 0 := rfl
  obtain ⟨K, e₂, e₃⟩ : ∃ K, (if 0 ≤ I k then I k else 0 - I k) = N K ∧ K ≤ 40 := by
    by_cases g₁ : 0 ≤ k
    · refine ⟨k.toNat, ?_, by omega⟩
      rw [if_pos (by rw [z₀, I_le (by omega) (by omega) (by omega) (by omega)]; exact g₁), ← I_N]
      congr 1
      omega
    · refine ⟨(-k).toNat, ?_, by omega⟩
      rw [if_neg (by rw [z₀, I_le (by omega) (by omega) (by omega) (by omega)]; exact g₁), z₀, I_sub, ← I_N]
      congr 1
      omega
  obtain ⟨M, hM⟩ : ∃ M, M = d * K := ⟨_, rfl⟩
  have b₁ : M ≤ 360 := by
    have y₁ := Nat.mul_le_mul h₂ e₃
    omega
  obtain ⟨S, hS⟩ : ∃ S : Int, S = ((a : Int) - (M : Int)) * ((p / 12 + 1 : Nat) : Int) := ⟨_, rfl⟩
  have e₄ : ccShk (N a) (N d) (N c) (p / 12) (p % 12) = I S := by
    unfold ccShk
    rw [e₁, e₂, N_mul, ← hM, ← I_N, ← I_N, I_sub, ← I_N, I_mul, hS]
  have b₂ : -100000 < S ∧ S ≤ 792 := by
    have y₁ : p / 12 = 0 ∨ p / 12 = 1 ∨ p / 12 = 2 ∨ p / 12 = 3 ∨ p / 12 = 4 ∨ p / 12 = 5 ∨ p / 12 = 6 ∨ p / 12 = 7 := by omega
    rcases y₁ with y₁ | y₁ | y₁ | y₁ | y₁ | y₁ | y₁ | y₁ <;> rw [y₁] at hS <;> omega
  unfold ccWob
  rw [e₄, h₅]
  by_cases g₁ : S ≤ 0
  · refine ⟨0, ?_, by omega⟩
    rw [if_pos (by rw [← I_N, I_le (by omega) (by omega) (by omega) (by omega)]; omega)]
  · have e₅ : I S = N S.toNat := by
      rw [← I_N]
      congr 1
      omega
    refine ⟨S.toNat / z, ?_, ?_⟩
    · rw [if_neg (by rw [← I_N, I_le (by omega) (by omega) (by omega) (by omega)]; omega), e₅, N_div (by omega) (by omega) (by omega)]
    · have y₁ := Nat.div_le_self S.toNat z
      omega
theorem ccWbl {C : Nat → Nat → Int32} {lm p : Nat} (h₁ : ccQn (N lm) C) (h₂ : lm ≤ 99) (h₃ : p < 96) (h₄ : C 2 p ≠ I (-1)) : ∃ z, C 5 p = N z ∧ z ≤ lm := by
  obtain ⟨_, z, e₁, e₂⟩ := h₁.2 p h₃ h₄
  have e₃ := h₁.1 p h₃
  unfold ccBdw ccP at e₃
  rw [decide_eq_false h₄, e₁] at e₃
  refine ⟨z, e₁, ?_⟩
  rcases Classical.em (z ≤ lm) with y₁ | y₁
  · exact y₁
  · rw [decide_eq_true (by rw [N_lt (by omega) (by omega)]; omega : N lm < N z)] at e₃
    cases e₃
theorem ccNn_sh {C D : Nat → Nat → Int32} {a d c lm : Nat} (q : ccShaken C D (ccWob (N a) (N d) (N c) C) 96) (h₁ : a ≤ 99) (h₂ : d ≤ 9) (h₃ : c < 12) (h₄ : lm ≤ 99) (h₅ : ∀ p, p < 96 → C 2 p ≠ I (-1) → ∃ z, ccStf C p = N z ∧ 2 ≤ z ∧ z ≤ 18) (h₆ : ccQn (N lm) C) : ccNn D := fun p y₁ y₂ => by
  rw [q.1 2 p (by omega) (by omega)] at y₂
  obtain ⟨z, z₁, z₂, z₃⟩ := h₅ p y₁ y₂
  obtain ⟨u, u₁, u₂⟩ := ccWob_b h₁ h₂ h₃ y₁ z₁ z₂ z₃
  obtain ⟨x, x₁, x₂⟩ := ccWbl h₆ h₄ y₁ y₂
  have y₃ : ccP C p = true := by unfold ccP; rw [decide_eq_false y₂]; rfl
  rw [q.1 4 p (by omega) (by omega)]
  refine ⟨(h₆.2 p y₁ y₂).1, x + u, ?_, by omega⟩
  rw [q.2.2 p y₁, if_pos ⟨y₁, y₃⟩, x₁, u₁, N_add]
