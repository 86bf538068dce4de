/-! GROUND: what the functions of the methods come to, over natural numbers. -/
theorem ccIte {α : Type} {c : Prop} {i₁ : Decidable c} {x y : Option α} : mifO (decide c) x y = if c then x else y := by
  by_cases h₁ : c
  · rw [if_pos h₁, decide_eq_true h₁]; rfl
  · rw [if_neg h₁, decide_eq_false h₁]; rfl
theorem ccMck {α : Type} {x : Option α} {b : Bool} (h₁ : b = true) : mckO b x = x := by rw [h₁]; rfl
theorem ccMckT {α : Type} {x : Option α} : mckO true x = x := rfl
theorem ccMckIn {α : Type} {x : Option α} {a n : Nat} (h₁ : a < n) (h₂ : n ≤ 2147483648) : mckO (mIn (N a) n) x = x := ccMck (mIn_N h₁ h₂)
theorem ccBi {v : Int32} {mi : mMi} {rs : mRs} {k : Int32 → mMi → mRs → mRz} : bI (some (.inl (some (mI v)), mi, rs)) k = k v mi rs := rfl
theorem ccBiX {E : Nat} {mi : mMi} {rs : mRs} {k : Int32 → mMi → mRs → mRz} : bI (some (.inr E, mi, rs)) k = some (.inr E, mi, rs) := rfl
theorem ccBv {mi : mMi} {rs : mRs} {k : mMi → mRs → mRz} : bV (some (.inl none, mi, rs)) k = k mi rs := rfl
theorem ccBvX {E : Nat} {mi : mMi} {rs : mRs} {k : mMi → mRs → mRz} : bV (some (.inr E, mi, rs)) k = some (.inr E, mi, rs) := rfl
theorem ccZ0 : mZ (N 0) = true := rfl
theorem ccZ1 : mZ (N 1) = true := rfl
/-- a truth as a number -/
def ccT (b : Bool) : Int32 := match b with
  | true => N 1
  | false => N 0
theorem ccT0 {b : Bool} : (ccT b = N 0) = (b = false) := by
  cases b
  · exact propext ⟨fun _ => rfl, fun _ => rfl⟩
  · exact propext ⟨fun h₁ => absurd h₁ (by decide), fun h₁ => by cases h₁⟩
theorem ccT1 {b : Bool} : (ccT b = N 1) = (b = true) := by
  cases b
  · exact propext ⟨fun h₁ => absurd h₁ (by decide), fun h₁ => by cases h₁⟩
  · exact propext ⟨fun _ => rfl, fun _ => rfl⟩
theorem ccTZ {b : Bool} : mZ (ccT b) = true := by cases b <;> rfl
theorem ccNm {a : Nat} (h₁ : a < 2147483648) : (N a = I (-1)) = False := by
  refine propext ⟨fun e₁ => ?_, False.elim⟩
  rw [← I_N, I_eq (by omega) (by omega) (by omega) (by omega)] at e₁
  omega
theorem ccNm2 {a : Nat} (h₁ : a < 2147483648) : (N a = I (-2)) = False := by
  refine propext ⟨fun e₁ => ?_, False.elim⟩
  rw [← I_N, I_eq (by omega) (by omega) (by omega) (by omega)] at e₁
  omega
theorem ccMN {a : Nat} (h₁ : a < 2147483648) : (I (-1) = N a) = False := propext ⟨fun e₁ => (ccNm h₁).mp (Eq.symm e₁), False.elim⟩
theorem ccM2N {a : Nat} (h₁ : a < 2147483648) : (I (-2) = N a) = False := propext ⟨fun e₁ => (ccNm2 h₁).mp (Eq.symm e₁), False.elim⟩
theorem ccMM2 : (I (-1) = I (-2)) = False := propext ⟨fun e₁ => absurd e₁ (by decide), False.elim⟩
theorem ccM2M : (I (-2) = I (-1)) = False := propext ⟨fun e₁ => absurd e₁ (by decide), False.elim⟩
theorem ccMlt {a : Nat} (h₁ : a < 2147483648) : (I (-1) < N a) = True := by
  rw [← I_N, I_lt (by omega) (by omega) (by omega) (by omega)]
  exact propext ⟨fun _ => trivial, fun _ => by omega⟩
theorem ccMle {a : Nat} (h₁ : a < 2147483648) : (I (-1) ≤ N a) = True := by
  rw [← I_N, I_le (by omega) (by omega) (by omega) (by omega)]
  exact propext ⟨fun _ => trivial, fun _ => by omega⟩
theorem ccNltM {a : Nat} (h₁ : a < 2147483648) : (N a < I (-1)) = False := by
  rw [← I_N, I_lt (by omega) (by omega) (by omega) (by omega)]
  exact propext ⟨fun _ => by omega, False.elim⟩
theorem ccNleM {a : Nat} (h₁ : a < 2147483648) : (N a ≤ I (-1)) = False := by
  rw [← I_N, I_le (by omega) (by omega) (by omega) (by omega)]
  exact propext ⟨fun _ => by omega, False.elim⟩
theorem ccM2lt {a : Nat} (h₁ : a < 2147483648) : (I (-2) < N a) = True := by
  rw [← I_N, I_lt (by omega) (by omega) (by omega) (by omega)]
  exact propext ⟨fun _ => trivial, fun _ => by omega⟩
theorem ccM2le {a : Nat} (h₁ : a < 2147483648) : (I (-2) ≤ N a) = True := by
  rw [← I_N, I_le (by omega) (by omega) (by omega) (by omega)]
  exact propext ⟨fun _ => trivial, fun _ => by omega⟩
theorem ccNlt2 {a : Nat} (h₁ : a < 2147483648) : (N a < I (-2)) = False := by
  rw [← I_N, I_lt (by omega) (by omega) (by omega) (by omega)]
  exact propext ⟨fun _ => by omega, False.elim⟩
theorem ccNle2 {a : Nat} (h₁ : a < 2147483648) : (N a ≤ I (-2)) = False := by
  rw [← I_N, I_le (by omega) (by omega) (by omega) (by omega)]
  exact propext ⟨fun _ => by omega, False.elim⟩
theorem ccMod {a b : Nat} : a - a / b * b = a % b := by
  have h₁ := Nat.div_add_mod a b
  rw [Nat.mul_comm] at h₁
  omega
theorem ccRI {a b : Nat} {mi : mMi} {rs : mRs} (h₁ : a = b) : rI (N a) mi rs = rI (N b) mi rs := by rw [h₁]
theorem ccRJ {a b : Int32} {mi : mMi} {rs : mRs} (h₁ : a = b) : rI a mi rs = rI b mi rs := by rw [h₁]
/-- a place of the memory, read behind a writing -/
theorem ccRd {mi : mMi} {f i j p f₁ i₁ j₁ p₁ : Nat} {v : Int32} : mset mi f i j p v f₁ i₁ j₁ p₁ = if f₁ = f ∧ i₁ = i ∧ j₁ = j ∧ p₁ = p then v else mi f₁ i₁ j₁ p₁ := by
  by_cases h₁ : f₁ = f ∧ i₁ = i ∧ j₁ = j ∧ p₁ = p
  · rw [if_pos h₁]
    obtain ⟨e₁, e₂, e₃, e₄⟩ := h₁
    subst e₁ e₂ e₃ e₄
    exact mset_same
  · rw [if_neg h₁, mset_np h₁]
theorem ccFill {mi : mMi} {f i j n f₁ i₁ j₁ p₁ : Nat} {v : Int32} : mfill mi f i j n v f₁ i₁ j₁ p₁ = if f₁ = f ∧ i₁ = i ∧ j₁ = j ∧ p₁ < n then v else mi f₁ i₁ j₁ p₁ := by
  unfold mfill
  by_cases h₁ : f₁ = f ∧ i₁ = i ∧ j₁ = j ∧ p₁ < n
  · rw [if_pos h₁]
    obtain ⟨e₁, e₂, e₃, e₄⟩ := h₁
    subst e₁ e₂ e₃
    have e₅ : Nat.blt p₁ n = true := Nat.ble_eq_true_of_le e₄
    rw [Nat.beq_refl, Nat.beq_refl, Nat.beq_refl, e₅]
    rfl
  · rw [if_neg h₁]
    have e₁ : (Nat.beq f f₁ && Nat.beq i i₁ && Nat.beq j j₁ && Nat.blt p₁ n) = false := by
      rw [Bool.eq_false_iff]
      intro e₂
      simp only [Bool.and_eq_true] at e₂
      exact h₁ ⟨Eq.symm (Nat.eq_of_beq_eq_true e₂.1.1.1), Eq.symm (Nat.eq_of_beq_eq_true e₂.1.1.2), Eq.symm (Nat.eq_of_beq_eq_true e₂.1.2), Nat.le_of_ble_eq_true e₂.2⟩
    rw [e₁]
theorem ccCopy {mi : mMi} {f i j n f₂ i₂ j₂ f₁ i₁ j₁ p₁ : Nat} : mcopy mi f i j 0 f₂ i₂ j₂ 0 n f₁ i₁ j₁ p₁ = if f₁ = f₂ ∧ i₁ = i₂ ∧ j₁ = j₂ ∧ p₁ < n then mi f i j p₁ else mi f₁ i₁ j₁ p₁ := by
  unfold mcopy
  by_cases h₁ : f₁ = f₂ ∧ i₁ = i₂ ∧ j₁ = j₂ ∧ p₁ < n
  · rw [if_pos h₁]
    obtain ⟨e₁, e₂, e₃, e₄⟩ := h₁
    subst e₁ e₂ e₃
    have e₅ : Nat.blt p₁ (0 + n) = true := Nat.ble_eq_true_of_le (by omega)
    have e₆ : Nat.ble 0 p₁ = true := Nat.ble_eq_true_of_le (by omega)
    rw [Nat.beq_refl, Nat.beq_refl, Nat.beq_refl, e₅, e₆]
    show mi f i j (0 + (p₁ - 0)) = mi f i j p₁
    rw [Nat.zero_add, Nat.sub_zero]
  · rw [if_neg h₁]
    have e₁ : (Nat.beq f₂ f₁ && Nat.beq i₂ i₁ && Nat.beq j₂ j₁ && Nat.ble 0 p₁ && Nat.blt p₁ (0 + n)) = false := by
      rw [Bool.eq_false_iff]
      intro e₂
      simp only [Bool.and_eq_true] at e₂
      have e₃ := Nat.le_of_ble_eq_true e₂.2
      exact h₁ ⟨Eq.symm (Nat.eq_of_beq_eq_true e₂.1.1.1.1), Eq.symm (Nat.eq_of_beq_eq_true e₂.1.1.1.2), Eq.symm (Nat.eq_of_beq_eq_true e₂.1.1.2), by omega⟩
    rw [e₁]
/-! places, pairs, flat cards: the class's, the reference's -/
def ccRu (mi : mMi) (r w l n : Nat) : Prop := mi 1 r 1 0 = N w ∧ mi 1 r 1 1 = N l ∧ mi 1 r 0 4 = N n ∧ 2 ≤ w ∧ w ≤ 12 ∧ 1 ≤ l ∧ l ≤ 8 ∧ n ≤ 40
def ccMo (mi : mMi) (w l n : Nat) : Prop := mi 4 0 0 2 = N w ∧ mi 4 0 0 3 = N l ∧ mi 4 0 0 8 = N n ∧ 2 ≤ w ∧ w ≤ 12 ∧ 1 ≤ l ∧ l ≤ 8 ∧ n ≤ 40
def ccPl (w l L c : Nat) : Bool := decide (L < l) && decide (L + c < w)
def ccSp (w l L c : Nat) : Int32 := if L < l ∧ L + c < w then N (12 * L + c) else I (-1)
def ccP (C : Nat → Nat → Int32) (p : Nat) : Bool := !(decide (C 2 p = I (-1)))
def ccF (C : Nat → Nat → Int32) (p : Nat) : Bool := !(decide (C 6 p = I (-1)))
def ccHP (C : Nat → Nat → Int32) (w l L c : Nat) : Bool := ccPl w l L c && ccP C (12 * L + c)
def ccHF (C : Nat → Nat → Int32) (w l L c : Nat) : Bool := ccPl w l L c && ccF C (12 * L + c)
/-- the same of the reference's row -/
def ccPm (s : Nat → Int32) (p : Nat) : Bool := !(decide (s (248 + 4 * p) = I (-1)))
def ccFm (s : Nat → Int32) (p : Nat) : Bool := !(decide (s (632 + p) = I (-1)))
def ccHPm (s : Nat → Int32) (w l L c : Nat) : Bool := ccPl w l L c && ccPm s (12 * L + c)
def ccHFm (s : Nat → Int32) (w l L c : Nat) : Bool := ccPl w l L c && ccFm s (12 * L + c)
theorem ccE80 {mi : mMi} {rs : mRs} {r w l n L : Nat} (q₁ : ccRu mi r w l n) (h₁ : L < 1000) : F80 r (N L) mi rs = rI (N (if L < l then w - L else 0)) mi rs := by
  obtain ⟨g₁, g₂, g₃, b₁, b₂, b₃, b₄, b₅⟩ := q₁
  unfold F80
  rw [g₁, g₂]
  by_cases h₂ : L < l <;> by_cases h₃ : L < w <;> simp (disch := omega) only [true_and, and_true, false_and, and_false, if_true, if_false, ccIte, ccBi, ccBiX, ccBv, ccBvX, ccZ0, ccZ1, ccTZ, ccT0, ccT1, Bool.or_false, ccMckT, ccMckIn, ne_eq, not_true_eq_false, not_false_eq_true, if_pos, if_neg, reduceIte, eq_self, Bool.false_eq_true, Bool.true_eq_false, mix_N, N_add, N_mul, N_sub, N_div, ccMod, N_lt, N_le, N_eq, ccNm, ccMN, ccNm2, ccM2N, ccMM2, ccM2M, ccMlt, ccMle, ccNltM, ccNleM, ccM2lt, ccM2le, ccNlt2, ccNle2, Nat.reduceAdd, Nat.reduceMul, Nat.reduceSub, Nat.reduceLT, Nat.reduceLeDiff, Nat.reduceEqDiff, Nat.reduceDiv, Nat.reduceMod] <;> exact ccRI (by omega)
theorem ccE81 {mi : mMi} {rs : mRs} {r w l n L c : Nat} (q₁ : ccRu mi r w l n) (h₁ : L < 1000) (h₂ : c < 1000) : F81 r (N L) (N c) mi rs = rI (ccSp w l L c) mi rs := by
  have q₂ := q₁
  obtain ⟨g₁, g₂, g₃, b₁, b₂, b₃, b₄, b₅⟩ := q₁
  unfold F81 ccSp
  by_cases h₃ : L < l <;> by_cases h₄ : L + c < w <;> simp (disch := omega) only [ccE80 q₂ h₁, true_and, and_true, false_and, and_false, if_true, if_false, ccIte, ccBi, ccBiX, ccBv, ccBvX, ccZ0, ccZ1, ccTZ, ccT0, ccT1, Bool.or_false, ccMckT, ccMckIn, ne_eq, not_true_eq_false, not_false_eq_true, if_pos, if_neg, reduceIte, eq_self, Bool.false_eq_true, Bool.true_eq_false, mix_N, N_add, N_mul, N_sub, N_div, ccMod, N_lt, N_le, N_eq, ccNm, ccMN, ccNm2, ccM2N, ccMM2, ccM2M, ccMlt, ccMle, ccNltM, ccNleM, ccM2lt, ccM2le, ccNlt2, ccNle2, Nat.reduceAdd, Nat.reduceMul, Nat.reduceSub, Nat.reduceLT, Nat.reduceLeDiff, Nat.reduceEqDiff, Nat.reduceDiv, Nat.reduceMod, true_and, false_and, and_false, and_true] <;> exact ccRI (by omega)
theorem ccE81m {mi : mMi} {rs : mRs} {r : Nat} {x : Int32} : F81 r x (I (-1)) mi rs = rI (I (-1)) mi rs := by
  unfold F81
  simp (disch := omega) only [true_and, and_true, false_and, and_false, if_true, if_false, ccIte, ccBi, ccBiX, ccBv, ccBvX, ccZ0, ccZ1, ccTZ, ccT0, ccT1, Bool.or_false, ccMckT, ccMckIn, ne_eq, not_true_eq_false, not_false_eq_true, if_pos, if_neg, reduceIte, eq_self, Bool.false_eq_true, Bool.true_eq_false, mix_N, N_add, N_mul, N_sub, N_div, ccMod, N_lt, N_le, N_eq, ccNm, ccMN, ccNm2, ccM2N, ccMM2, ccM2M, ccMlt, ccMle, ccNltM, ccNleM, ccM2lt, ccM2le, ccNlt2, ccNle2, Nat.reduceAdd, Nat.reduceMul, Nat.reduceSub, Nat.reduceLT, Nat.reduceLeDiff, Nat.reduceEqDiff, Nat.reduceDiv, Nat.reduceMod]
theorem ccE51 {mi : mMi} {rs : mRs} {i p : Nat} (h₁ : p < 96) : F51 i (N p) mi rs = rI (ccT (ccP (mi 0 i) p)) mi rs := by
  unfold F51 ccP
  by_cases h₂ : mi 0 i 2 p = I (-1) <;> simp (disch := omega) only [true_and, and_true, false_and, and_false, if_true, if_false, ccIte, ccBi, ccBiX, ccBv, ccBvX, ccZ0, ccZ1, ccTZ, ccT0, ccT1, Bool.or_false, ccMckT, ccMckIn, ne_eq, not_true_eq_false, not_false_eq_true, if_pos, if_neg, reduceIte, eq_self, Bool.false_eq_true, Bool.true_eq_false, mix_N, N_add, N_mul, N_sub, N_div, ccMod, N_lt, N_le, N_eq, ccNm, ccMN, ccNm2, ccM2N, ccMM2, ccM2M, ccMlt, ccMle, ccNltM, ccNleM, ccM2lt, ccM2le, ccNlt2, ccNle2, Nat.reduceAdd, Nat.reduceMul, Nat.reduceSub, Nat.reduceLT, Nat.reduceLeDiff, Nat.reduceEqDiff, Nat.reduceDiv, Nat.reduceMod, h₂] <;> rfl
theorem ccE51m {mi : mMi} {rs : mRs} {i : Nat} : F51 i (I (-1)) mi rs = rI (ccT false) mi rs := by
  unfold F51
  simp (disch := omega) only [true_and, and_true, false_and, and_false, if_true, if_false, ccIte, ccBi, ccBiX, ccBv, ccBvX, ccZ0, ccZ1, ccTZ, ccT0, ccT1, Bool.or_false, ccMckT, ccMckIn, ne_eq, not_true_eq_false, not_false_eq_true, if_pos, if_neg, reduceIte, eq_self, Bool.false_eq_true, Bool.true_eq_false, mix_N, N_add, N_mul, N_sub, N_div, ccMod, N_lt, N_le, N_eq, ccNm, ccMN, ccNm2, ccM2N, ccMM2, ccM2M, ccMlt, ccMle, ccNltM, ccNleM, ccM2lt, ccM2le, ccNlt2, ccNle2, Nat.reduceAdd, Nat.reduceMul, Nat.reduceSub, Nat.reduceLT, Nat.reduceLeDiff, Nat.reduceEqDiff, Nat.reduceDiv, Nat.reduceMod]
  rfl
theorem ccE52 {mi : mMi} {rs : mRs} {i p : Nat} (h₁ : p < 96) : F52 i (N p) mi rs = rI (ccT (ccF (mi 0 i) p)) mi rs := by
  unfold F52 ccF
  by_cases h₂ : mi 0 i 6 p = I (-1) <;> simp (disch := omega) only [true_and, and_true, false_and, and_false, if_true, if_false, ccIte, ccBi, ccBiX, ccBv, ccBvX, ccZ0, ccZ1, ccTZ, ccT0, ccT1, Bool.or_false, ccMckT, ccMckIn, ne_eq, not_true_eq_false, not_false_eq_true, if_pos, if_neg, reduceIte, eq_self, Bool.false_eq_true, Bool.true_eq_false, mix_N, N_add, N_mul, N_sub, N_div, ccMod, N_lt, N_le, N_eq, ccNm, ccMN, ccNm2, ccM2N, ccMM2, ccM2M, ccMlt, ccMle, ccNltM, ccNleM, ccM2lt, ccM2le, ccNlt2, ccNle2, Nat.reduceAdd, Nat.reduceMul, Nat.reduceSub, Nat.reduceLT, Nat.reduceLeDiff, Nat.reduceEqDiff, Nat.reduceDiv, Nat.reduceMod, h₂] <;> rfl
theorem ccE52m {mi : mMi} {rs : mRs} {i : Nat} : F52 i (I (-1)) mi rs = rI (ccT false) mi rs := by
  unfold F52
  simp (disch := omega) only [true_and, and_true, false_and, and_false, if_true, if_false, ccIte, ccBi, ccBiX, ccBv, ccBvX, ccZ0, ccZ1, ccTZ, ccT0, ccT1, Bool.or_false, ccMckT, ccMckIn, ne_eq, not_true_eq_false, not_false_eq_true, if_pos, if_neg, reduceIte, eq_self, Bool.false_eq_true, Bool.true_eq_false, mix_N, N_add, N_mul, N_sub, N_div, ccMod, N_lt, N_le, N_eq, ccNm, ccMN, ccNm2, ccM2N, ccMM2, ccM2M, ccMlt, ccMle, ccNltM, ccNleM, ccM2lt, ccM2le, ccNlt2, ccNle2, Nat.reduceAdd, Nat.reduceMul, Nat.reduceSub, Nat.reduceLT, Nat.reduceLeDiff, Nat.reduceEqDiff, Nat.reduceDiv, Nat.reduceMod]
  rfl
theorem ccE51s {mi : mMi} {rs : mRs} {i w l L c : Nat} (h₁ : w ≤ 12) (h₂ : l ≤ 8) : F51 i (ccSp w l L c) mi rs = rI (ccT (ccHP (mi 0 i) w l L c)) mi rs := by
  unfold ccSp ccHP ccPl
  by_cases h₃ : L < l ∧ L + c < w
  · rw [if_pos h₃, ccE51 (by omega), decide_eq_true h₃.1, decide_eq_true h₃.2]; rfl
  · rw [if_neg h₃, ccE51m]
    have e₁ : (decide (L < l) && decide (L + c < w)) = false := by
      rw [Bool.eq_false_iff]
      intro e₂
      simp only [Bool.and_eq_true, decide_eq_true_eq] at e₂
      exact h₃ e₂
    rw [e₁]; rfl
theorem ccE52s {mi : mMi} {rs : mRs} {i w l L c : Nat} (h₁ : w ≤ 12) (h₂ : l ≤ 8) : F52 i (ccSp w l L c) mi rs = rI (ccT (ccHF (mi 0 i) w l L c)) mi rs := by
  unfold ccSp ccHF ccPl
  by_cases h₃ : L < l ∧ L + c < w
  · rw [if_pos h₃, ccE52 (by omega), decide_eq_true h₃.1, decide_eq_true h₃.2]; rfl
  · rw [if_neg h₃, ccE52m]
    have e₁ : (decide (L < l) && decide (L + c < w)) = false := by
      rw [Bool.eq_false_iff]
      intro e₂
      simp only [Bool.and_eq_true, decide_eq_true_eq] at e₂
      exact h₃ e₂
    rw [e₁]; rfl
theorem ccE13 {mi : mMi} {rs : mRs} {i w l n L c : Nat} (q₁ : ccRu mi (RO i) w l n) (h₁ : L < 1000) (h₂ : c < 1000) : F13 i (N L) (N c) mi rs = rI (ccT (ccHP (mi 0 i) w l L c)) mi rs := by
  have b₁ : w ≤ 12 := q₁.2.2.2.2.1
  have b₂ : l ≤ 8 := q₁.2.2.2.2.2.2.1
  unfold F13
  simp (disch := omega) only [ccE81 q₁ h₁ h₂, ccE51s b₁ b₂, true_and, and_true, false_and, and_false, if_true, if_false, ccIte, ccBi, ccBiX, ccBv, ccBvX, ccZ0, ccZ1, ccTZ, ccT0, ccT1, Bool.or_false, ccMckT, ccMckIn, ne_eq, not_true_eq_false, not_false_eq_true, if_pos, if_neg, reduceIte, eq_self, Bool.false_eq_true, Bool.true_eq_false, mix_N, N_add, N_mul, N_sub, N_div, ccMod, N_lt, N_le, N_eq, ccNm, ccMN, ccNm2, ccM2N, ccMM2, ccM2M, ccMlt, ccMle, ccNltM, ccNleM, ccM2lt, ccM2le, ccNlt2, ccNle2, Nat.reduceAdd, Nat.reduceMul, Nat.reduceSub, Nat.reduceLT, Nat.reduceLeDiff, Nat.reduceEqDiff, Nat.reduceDiv, Nat.reduceMod]
theorem ccE14 {mi : mMi} {rs : mRs} {i w l n L c : Nat} (q₁ : ccRu mi (RO i) w l n) (h₁ : L < 1000) (h₂ : c < 1000) : F14 i (N L) (N c) mi rs = rI (ccT (ccHF (mi 0 i) w l L c)) mi rs := by
  have b₁ : w ≤ 12 := q₁.2.2.2.2.1
  have b₂ : l ≤ 8 := q₁.2.2.2.2.2.2.1
  unfold F14
  simp (disch := omega) only [ccE81 q₁ h₁ h₂, ccE52s b₁ b₂, true_and, and_true, false_and, and_false, if_true, if_false, ccIte, ccBi, ccBiX, ccBv, ccBvX, ccZ0, ccZ1, ccTZ, ccT0, ccT1, Bool.or_false, ccMckT, ccMckIn, ne_eq, not_true_eq_false, not_false_eq_true, if_pos, if_neg, reduceIte, eq_self, Bool.false_eq_true, Bool.true_eq_false, mix_N, N_add, N_mul, N_sub, N_div, ccMod, N_lt, N_le, N_eq, ccNm, ccMN, ccNm2, ccM2N, ccMM2, ccM2M, ccMlt, ccMle, ccNltM, ccNleM, ccM2lt, ccM2le, ccNlt2, ccNle2, Nat.reduceAdd, Nat.reduceMul, Nat.reduceSub, Nat.reduceLT, Nat.reduceLeDiff, Nat.reduceEqDiff, Nat.reduceDiv, Nat.reduceMod]
theorem ccE14m {mi : mMi} {rs : mRs} {i : Nat} {x : Int32} : F14 i x (I (-1)) mi rs = rI (ccT false) mi rs := by
  unfold F14
  simp (disch := omega) only [ccE81m, ccE52m, true_and, and_true, false_and, and_false, if_true, if_false, ccIte, ccBi, ccBiX, ccBv, ccBvX, ccZ0, ccZ1, ccTZ, ccT0, ccT1, Bool.or_false, ccMckT, ccMckIn, ne_eq, not_true_eq_false, not_false_eq_true, if_pos, if_neg, reduceIte, eq_self, Bool.false_eq_true, Bool.true_eq_false, mix_N, N_add, N_mul, N_sub, N_div, ccMod, N_lt, N_le, N_eq, ccNm, ccMN, ccNm2, ccM2N, ccMM2, ccM2M, ccMlt, ccMle, ccNltM, ccNleM, ccM2lt, ccM2le, ccNlt2, ccNle2, Nat.reduceAdd, Nat.reduceMul, Nat.reduceSub, Nat.reduceLT, Nat.reduceLeDiff, Nat.reduceEqDiff, Nat.reduceDiv, Nat.reduceMod]
def ccMayLean (C : Nat → Nat → Int32) (w l L c : Nat) : Bool := !(ccHP C w l L c) && (decide (L = 0) || ccHF C w l L c)
theorem ccE12 {mi : mMi} {rs : mRs} {i w l n L c : Nat} (q₁ : ccRu mi (RO i) w l n) (h₁ : L < 1000) (h₂ : c < 1000) : F12 i (N L) (N c) mi rs = rI (ccT (ccMayLean (mi 0 i) w l L c)) mi rs := by
  unfold F12 ccMayLean
  by_cases h₃ : L = 0
  · subst h₃
    cases h₄ : ccHP (mi 0 i) w l 0 c <;> simp (disch := omega) only [ccE13 q₁ h₁ h₂, true_and, and_true, false_and, and_false, if_true, if_false, ccIte, ccBi, ccBiX, ccBv, ccBvX, ccZ0, ccZ1, ccTZ, ccT0, ccT1, Bool.or_false, ccMckT, ccMckIn, ne_eq, not_true_eq_false, not_false_eq_true, if_pos, if_neg, reduceIte, eq_self, Bool.false_eq_true, Bool.true_eq_false, mix_N, N_add, N_mul, N_sub, N_div, ccMod, N_lt, N_le, N_eq, ccNm, ccMN, ccNm2, ccM2N, ccMM2, ccM2M, ccMlt, ccMle, ccNltM, ccNleM, ccM2lt, ccM2le, ccNlt2, ccNle2, Nat.reduceAdd, Nat.reduceMul, Nat.reduceSub, Nat.reduceLT, Nat.reduceLeDiff, Nat.reduceEqDiff, Nat.reduceDiv, Nat.reduceMod, h₄] <;> rfl
  · cases h₄ : ccHP (mi 0 i) w l L c <;> cases h₅ : ccHF (mi 0 i) w l L c <;> simp (disch := omega) only [ccE13 q₁ h₁ h₂, ccE14 q₁ h₁ h₂, true_and, and_true, false_and, and_false, if_true, if_false, ccIte, ccBi, ccBiX, ccBv, ccBvX, ccZ0, ccZ1, ccTZ, ccT0, ccT1, Bool.or_false, ccMckT, ccMckIn, ne_eq, not_true_eq_false, not_false_eq_true, if_pos, if_neg, reduceIte, eq_self, Bool.false_eq_true, Bool.true_eq_false, mix_N, N_add, N_mul, N_sub, N_div, ccMod, N_lt, N_le, N_eq, ccNm, ccMN, ccNm2, ccM2N, ccMM2, ccM2M, ccMlt, ccMle, ccNltM, ccNleM, ccM2lt, ccM2le, ccNlt2, ccNle2, Nat.reduceAdd, Nat.reduceMul, Nat.reduceSub, Nat.reduceLT, Nat.reduceLeDiff, Nat.reduceEqDiff, Nat.reduceDiv, Nat.reduceMod, h₃, h₄, h₅] <;> rfl
def ccMayLay (C : Nat → Nat → Int32) (w l L c : Nat) : Bool := match L with
  | 0 => false
  | K + 1 => ccPl w l (K + 1) c && !(ccHF C w l (K + 1) c) && ccHP C w l K c && ccHP C w l K (c + 1)
