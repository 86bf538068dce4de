/-! THE CLASS READS WHAT THE WORLD TOLD: tokens. -/
theorem kwGl : ∀ (u t : List Nat) (i : Nat), i < u.length → (u ++ t).getD i 0 = u.getD i 0 := by
  intro u
  induction u with
  | nil => intro t i y; exact absurd y (by show ¬ i < 0; omega)
  | cons x u h =>
    intro t i y
    cases i with
    | zero => rfl
    | succ j =>
      have y₁ : (x :: u).length = u.length + 1 := rfl
      exact h t j (by omega)
theorem kwGr : ∀ (u t : List Nat) (i : Nat), (u ++ t).getD (u.length + i) 0 = t.getD i 0 := by
  intro u
  induction u with
  | nil =>
    intro t i
    have y : ([] : List Nat).length + i = i := by show 0 + i = i; omega
    rw [y]
    rfl
  | cons x u h =>
    intro t i
    have y : (x :: u).length + i = u.length + i + 1 := by
      have y₁ : (x :: u).length = u.length + 1 := rfl
      omega
    rw [y]
    exact h t i
/-- the text from p on, up to its end -/
def kwTl (b : Nat → Nat) (L p : Nat) (t : List Nat) : Prop := p + t.length = L ∧ ∀ i, i < t.length → b (p + i) = t.getD i 0
/-- behind a word or a number -/
def kwSep : List Nat → Prop
  | [] => True
  | x :: _ => x = 32 ∨ x = 59
theorem kwTl_r {b : Nat → Nat} {L p : Nat} {u t : List Nat} (h : kwTl b L p (u ++ t)) : kwTl b L (p + u.length) t := by
  have y := h.1
  rw [List.length_append] at y
  refine ⟨by omega, fun i z => ?_⟩
  have y₁ := h.2 (u.length + i) (by rw [List.length_append]; omega)
  rw [kwGr] at y₁
  rw [← y₁]
  congr 1
  omega
theorem kwTl_u {b : Nat → Nat} {L p : Nat} {u t : List Nat} (h : kwTl b L p (u ++ t)) : ∀ i, i < u.length → b (p + i) = u.getD i 0 := fun i z => by
  rw [h.2 i (by rw [List.length_append]; omega), kwGl u t i z]
theorem kwTl_s {b : Nat → Nat} {L p : Nat} {t : List Nat} (h : kwTl b L p ([32] ++ t)) : b p = 32 ∧ p < L ∧ kwTl b L (p + 1) t := by
  have y := h.1
  have y₂ : ([32] ++ t).length = t.length + 1 := rfl
  exact ⟨h.2 0 (by omega), by omega, kwTl_r (u := [32]) h⟩
theorem kwTokS {b : Nat → Nat} {L p s r kd : Nat} (h₁ : b p = 32) (h : ccTok b L (p + 1) s r kd) : ccTok b L p s r kd := by
  obtain ⟨a₁, a₂, a₃, a₄⟩ := h
  refine ⟨by omega, a₂, fun i y₁ y₂ => ?_, a₄⟩
  by_cases g : i = p
  · rw [g]
    exact h₁
  · exact a₃ i (by omega) y₂
theorem kwSep_b {b : Nat → Nat} {L p : Nat} {t : List Nat} (h : kwTl b L p t) (k : kwSep t) : p < L → b p = 32 ∨ b p = 59 := fun y => by
  cases t with
  | nil =>
    have y₁ : p + 0 = L := h.1
    omega
  | cons x t =>
    have y₂ := h.2 0 (by show 0 < t.length + 1; omega)
    have y₃ : b p = x := y₂
    rw [y₃]
    exact k
theorem kwTokW {b : Nat → Nat} {L p : Nat} {u t : List Nat} (h : kwTl b L p (u ++ t)) (k : kwSep t) (n₁ : 1 ≤ u.length) (n₂ : u.length ≤ 6) (hu : ∀ i, i < u.length → 97 ≤ u.getD i 0 ∧ u.getD i 0 ≤ 122) : ccTok b L p p (p + u.length) 1 := by
  have y₁ := kwTl_u h
  have y₂ := kwSep_b (kwTl_r h) k
  have y₃ := h.1
  rw [List.length_append] at y₃
  have y₄ := y₁ 0 (by omega)
  have y₅ := hu 0 (by omega)
  rw [← y₄] at y₅
  have y₆ : p + 0 = p := rfl
  rw [y₆] at y₅
  refine ⟨by omega, by omega, fun i z₁ z₂ => by omega, Or.inr ⟨by omega, by omega, by omega, by omega, Or.inl ⟨fun i z₁ z₂ => ?_, fun z₁ => ?_, ?_⟩⟩⟩
  · have z₃ := y₁ (i - p) (by omega)
    have z₄ := hu (i - p) (by omega)
    have z₅ : p + (i - p) = i := by omega
    rw [← z₃, z₅] at z₄
    exact z₄
  · have z₂ := y₂ z₁
    omega
  · rw [if_pos (by omega)]
theorem kwTokN {b : Nat → Nat} {L p : Nat} {u t : List Nat} (h : kwTl b L p (u ++ t)) (k : kwSep t) (n₁ : 1 ≤ u.length) (n₂ : u.length ≤ 3) (hu : ∀ i, i < u.length → 48 ≤ u.getD i 0 ∧ u.getD i 0 ≤ 57) : ccTok b L p p (p + u.length) 2 := by
  have y₁ := kwTl_u h
  have y₂ := kwSep_b (kwTl_r h) k
  have y₃ := h.1
  rw [List.length_append] at y₃
  have y₄ := y₁ 0 (by omega)
  have y₅ := hu 0 (by omega)
  rw [← y₄] at y₅
  have y₆ : p + 0 = p := rfl
  rw [y₆] at y₅
  refine ⟨by omega, by omega, fun i z₁ z₂ => by omega, Or.inr ⟨by omega, by omega, by omega, by omega, Or.inr (Or.inl ⟨fun i z₁ z₂ => ?_, fun z₁ => ?_, ?_⟩)⟩⟩
  · have z₃ := y₁ (i - p) (by omega)
    have z₄ := hu (i - p) (by omega)
    have z₅ : p + (i - p) = i := by omega
    rw [← z₃, z₅] at z₄
    exact z₄
  · have z₂ := y₂ z₁
    omega
  · rw [if_pos (by omega)]
theorem kwTokC {b : Nat → Nat} {L p : Nat} {t : List Nat} (h : kwTl b L p ([59] ++ t)) : ccTok b L p p (p + 1) 3 := by
  have y₁ : b p = 59 := kwTl_u h 0 (by show 0 < 1; omega)
  have y₂ := h.1
  have y₃ : ([59] ++ t).length = t.length + 1 := rfl
  exact ⟨by omega, by omega, fun i z₁ z₂ => by omega, Or.inr ⟨by omega, by omega, by omega, by omega, Or.inr (Or.inr ⟨by omega, by omega, rfl, by rw [if_pos y₁]⟩)⟩⟩
theorem kwTokE {b : Nat → Nat} {L p : Nat} (h : kwTl b L p []) : ccTok b L p L L 0 := by
  have y : p + 0 = L := h.1
  exact ⟨by omega, by omega, fun i z₁ z₂ => by omega, Or.inl ⟨rfl, rfl, rfl⟩⟩
/-- the digits of a number -/
theorem kwNl {x : Nat} (h₁ : x < 1000) : 1 ≤ (ccNl x).length ∧ (ccNl x).length ≤ 3 ∧ (∀ i, i < (ccNl x).length → 48 ≤ (ccNl x).getD i 0 ∧ (ccNl x).getD i 0 ≤ 57) ∧ ccDcm (fun i => (ccNl x).getD i 0) (ccNl x).length = x := by
  have z₀ : ∀ y : Nat, y / 10 ^ 0 = y := fun y => by rw [show 10 ^ 0 = 1 from rfl, Nat.div_one]
  by_cases g₁ : x < 10
  · have y₁ : ccNl x = [48 + x] := by
      unfold ccNl ccDk
      rw [if_pos g₁]
      show [48 + x / 10 ^ 0 % 10] = _
      rw [z₀, Nat.mod_eq_of_lt g₁]
    rw [y₁]
    refine ⟨by show 1 ≤ 1; omega, by show 1 ≤ 3; omega, fun i y₂ => ?_, ?_⟩
    · have y₃ : i < 1 := y₂
      have y₄ : i = 0 := by omega
      subst y₄
      show 48 ≤ 48 + x ∧ 48 + x ≤ 57
      omega
    · show 10 * 0 + (48 + x - 48) = x
      omega
  · by_cases g₂ : x < 100
    · have y₁ : ccNl x = [48 + x / 10, 48 + x % 10] := by
        unfold ccNl ccDk
        rw [if_neg g₁, if_pos g₂]
        show [48 + x / 10 ^ 1 % 10, 48 + x / 10 ^ 0 % 10] = _
        rw [z₀, show 10 ^ 1 = 10 from rfl, Nat.mod_eq_of_lt (show x / 10 < 10 by omega)]
      rw [y₁]
      refine ⟨by show 1 ≤ 2; omega, by show 2 ≤ 3; omega, fun i y₂ => ?_, ?_⟩
      · have y₃ : i < 2 := y₂
        have y₄ : i = 0 ∨ i = 1 := by omega
        rcases y₄ with y₄ | y₄ <;> subst y₄
        · show 48 ≤ 48 + x / 10 ∧ 48 + x / 10 ≤ 57
          omega
        · show 48 ≤ 48 + x % 10 ∧ 48 + x % 10 ≤ 57
          omega
      · show 10 * (10 * 0 + (48 + x / 10 - 48)) + (48 + x % 10 - 48) = x
        omega
    · have y₁ : ccNl x = [48 + x / 100, 48 + x / 10 % 10, 48 + x % 10] := by
        unfold ccNl ccDk
        rw [if_neg g₁, if_neg g₂, if_pos h₁]
        show [48 + x / 10 ^ 2 % 10, 48 + x / 10 ^ 1 % 10, 48 + x / 10 ^ 0 % 10] = _
        rw [z₀, show 10 ^ 1 = 10 from rfl, show 10 ^ 2 = 100 from rfl, Nat.mod_eq_of_lt (show x / 100 < 10 by omega)]
      rw [y₁]
      refine ⟨by show 1 ≤ 3; omega, by show 3 ≤ 3; omega, fun i y₂ => ?_, ?_⟩
      · have y₃ : i < 3 := y₂
        have y₄ : i = 0 ∨ i = 1 ∨ i = 2 := by omega
        rcases y₄ with y₄ | y₄ | y₄ <;> subst y₄
        · show 48 ≤ 48 + x / 100 ∧ 48 + x / 100 ≤ 57
          omega
        · show 48 ≤ 48 + x / 10 % 10 ∧ 48 + x / 10 % 10 ≤ 57
          omega
        · show 48 ≤ 48 + x % 10 ∧ 48 + x % 10 ≤ 57
          omega
      · show 10 * (10 * (10 * 0 + (48 + x / 100 - 48)) + (48 + x / 10 % 10 - 48)) + (48 + x % 10 - 48) = x
        omega
theorem kwDcm_c {g u : Nat → Nat} : ∀ k, (∀ i, i < k → g i = u i) → ccDcm g k = ccDcm u k := by
  intro k
  induction k with
  | zero => intro _; rfl
  | succ k h =>
    intro y
    rw [ccDcm_s, ccDcm_s, h (fun i z => y i (by omega)), y k (by omega)]
/-- the class reads a number -/
theorem kwRdN {m : mMi} {b : Nat → Nat} {L e p lo v : Nat} {hC : Int32} {t : List Nat} (c : ccCx m b L e p) (x : kwTl b L p ([32] ++ (ccNl v ++ t))) (k : kwSep t) (hv : v < 1000) (h₁ : lo ≤ v) (h₂ : N v ≤ hC) : ∃ m₁ p₁ s, (∀ rs, F70 (N lo) hC m rs = rI (N 1) m₁ rs) ∧ m₁ 2 4 0 5 = N v ∧ ccCx m₁ b L e p₁ ∧ kwTl b L p₁ t ∧ m₁ 2 4 0 3 = N s ∧ ccFc0 m m₁ := by
  obtain ⟨x₁, x₂, x₃⟩ := kwTl_s x
  obtain ⟨d₁, d₂, d₃, d₄⟩ := kwNl hv
  have tk := kwTokS x₁ (kwTokN x₃ k d₁ d₂ d₃)
  obtain ⟨m₁, a₁, a₂, a₃, a₄⟩ := ccE94x c tk
  have e₁ := a₂.2.2.2.2.1 rfl
  have e₂ : p + 1 + (ccNl v).length - (p + 1) = (ccNl v).length := by omega
  have e₃ : ccDcm (fun i => b (p + 1 + i)) (ccNl v).length = v := by
    rw [kwDcm_c _ (kwTl_u x₃), d₄]
  rw [e₂, e₃] at e₁
  refine ⟨m₁, _, _, fun rs => ?_, e₁, a₃, kwTl_r x₃, a₂.2.1, a₄⟩
  have y₂ : ¬ N v < N lo := by rw [N_lt (by omega) (by omega)]; omega
  unfold F70
  rw [a₁, ccBv, a₂.2.2.1, ccIte, if_pos rfl, e₁, ccIte, if_neg y₂, ccIte, if_pos h₂]
/-- the class reads a card's letter -/
theorem kwRdL {m : mMi} {b : Nat → Nat} {L e p a : Nat} {t : List Nat} (c : ccCx m b L e p) (x : kwTl b L p ([32] ++ ([97 + a] ++ t))) (k : kwSep t) (ha : a < 26) : ∃ m₁ p₁ s, (∀ rs, F94 m rs = rV m₁ rs) ∧ m₁ 2 4 0 4 = N 1 ∧ m₁ 2 4 0 5 = N (a + 1) ∧ ccCx m₁ b L e p₁ ∧ kwTl b L p₁ t ∧ m₁ 2 4 0 3 = N s ∧ ccFc0 m m₁ := by
  obtain ⟨x₁, x₂, x₃⟩ := kwTl_s x
  have y₁ : b (p + 1) = 97 + a := kwTl_u x₃ 0 (by show 0 < 1; omega)
  have tk := kwTokS x₁ (kwTokW x₃ k (by show 1 ≤ 1; omega) (by show 1 ≤ 6; omega) (fun i y => by
    have y₂ : i < 1 := y
    have y₃ : i = 0 := by omega
    subst y₃
    show 97 ≤ 97 + a ∧ 97 + a ≤ 122
    omega))
  obtain ⟨m₁, a₁, a₂, a₃, a₄⟩ := ccE94x c tk
  have e₁ := a₂.2.2.2.1 rfl
  have e₂ : p + 1 + ([97 + a] : List Nat).length - (p + 1) = 1 := by show p + 1 + 1 - (p + 1) = 1; omega
  have e₃ : ccNum (fun i => b (p + 1 + i)) 1 = a + 1 := by
    show 32 * 0 + (b (p + 1 + 0) - 96) = a + 1
    have y₂ : p + 1 + 0 = p + 1 := rfl
    rw [y₂, y₁]
    omega
  rw [e₂, e₃] at e₁
  exact ⟨m₁, _, _, a₁, a₂.2.2.1, e₁, a₃, kwTl_r x₃, a₂.2.1, a₄⟩
/-- the class reads a semicolon -/
theorem kwRdC {m : mMi} {b : Nat → Nat} {L e p : Nat} {t : List Nat} (c : ccCx m b L e p) (x : kwTl b L p ([59] ++ t)) : ∃ m₁ p₁, (∀ rs, F94 m rs = rV m₁ rs) ∧ m₁ 2 4 0 4 = N 3 ∧ ccCx m₁ b L e p₁ ∧ kwTl b L p₁ t ∧ ccFc0 m m₁ := by
  obtain ⟨m₁, a₁, a₂, a₃, a₄⟩ := ccE94x c (kwTokC x)
  exact ⟨m₁, _, a₁, a₂.2.2.1, a₃, kwTl_r x, a₄⟩
theorem kwRdE {m : mMi} {b : Nat → Nat} {L e p : Nat} (c : ccCx m b L e p) (x : kwTl b L p []) : ∃ m₁, (∀ rs, F94 m rs = rV m₁ rs) ∧ m₁ 2 4 0 4 = N 0 ∧ ccCx m₁ b L e L ∧ ccFc0 m m₁ := by
  obtain ⟨m₁, a₁, a₂, a₃, a₄⟩ := ccE94x c (kwTokE x)
  exact ⟨m₁, a₁, a₂.2.2.1, a₃, a₄⟩
/-- the class reads a word: which of the four it is -/
theorem kwRdW {m : mMi} {b : Nat → Nat} {L e p : Nat} {u t : List Nat} (c : ccCx m b L e p) (x : kwTl b L p (u ++ t)) (k : kwSep t) (n₁ : 1 ≤ u.length) (n₂ : u.length ≤ 6) (hu : ∀ i, i < u.length → 97 ≤ u.getD i 0 ∧ u.getD i 0 ≤ 122) : ∃ m₁ p₁, (∀ rs, F94 m rs = rV m₁ rs) ∧ (∀ j, 1 ≤ j ∧ j ≤ 4 → ∀ rs, F97 j m₁ rs = rI (ccT (decide (u.length = (mTxt j).length) && ccWq (mTxt j) (fun i => u.getD i 0) (mTxt j).length 0)) m₁ rs) ∧ ccCx m₁ b L e p₁ ∧ kwTl b L p₁ t ∧ ccFc0 m m₁ := by
  have tk := kwTokW x k n₁ n₂ hu
  obtain ⟨m₁, a₁, a₂, a₃, a₄⟩ := ccE94x c tk
  refine ⟨m₁, _, a₁, fun j y rs => ?_, a₃, kwTl_r x, a₄⟩
  rw [ccE97 y a₃ a₂ tk]
  have e₂ : p + u.length - p = u.length := by omega
  have q : ∀ d i, i + d ≤ u.length → ccWq (mTxt j) (fun i => b (p + i)) d i = ccWq (mTxt j) (fun i => u.getD i 0) d i := by
    intro d
    induction d with
    | zero => intro i _; rfl
    | succ d h =>
      intro i z
      show (decide (N (b (p + i)) = (mTxt j).getD i 0) && ccWq (mTxt j) (fun i => b (p + i)) d (i + 1)) = (decide (N (u.getD i 0) = (mTxt j).getD i 0) && ccWq (mTxt j) (fun i => u.getD i 0) d (i + 1))
      rw [kwTl_u x i (by omega), h (i + 1) (by omega)]
  unfold ccWrd
  rw [e₂]
  by_cases g : u.length = (mTxt j).length
  · rw [q _ 0 (by omega)]
    rfl
  · rw [decide_eq_false g]
    rfl
