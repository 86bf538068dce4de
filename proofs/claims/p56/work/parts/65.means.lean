/-! CALLS: meanReserve, builtShare. -/
def ccGd64 (d : FP.Core.Datum) : Prop := match d with
  | .nan => False
  | .inf _ => True
  | .fin _ c q => c < 9007199254740992 ∧ q ≤ 971
def ccGd32 (d : FP.Core.Datum) : Prop := match d with
  | .nan => False
  | .inf _ => True
  | .fin _ c q => c < 16777216 ∧ q ≤ 104
theorem ccRr64 {s : Bool} {a b : Nat} {e : Int} : ccGd64 (FP.Core.roundRatio FP.Core.b64 s a b e) := by
  have t₁ : (2 : Nat) ^ FP.Core.b64.p = 9007199254740992 := rfl
  have t₂ : FP.Core.Fmt.qmax FP.Core.b64 = 971 := rfl
  have t₃ : FP.Core.Fmt.tails FP.Core.b64 = 4503599627370496 := rfl
  have t₄ : FP.Core.Fmt.qmin FP.Core.b64 = -1074 := rfl
  have bd : ∀ (c : Nat) (q : Int), c < 9007199254740992 → ccGd64 (FP.Core.bound FP.Core.b64 s c q) := fun c q h₁ => by
    unfold FP.Core.bound
    rw [t₂]
    by_cases h₂ : q ≤ 971
    · rw [if_pos h₂]
      exact ⟨h₁, h₂⟩
    · rw [if_neg h₂]
      exact trivial
  unfold FP.Core.roundRatio
  by_cases h₁ : a = 0
  · rw [if_pos h₁, t₄]
    exact ⟨by omega, by omega⟩
  · rw [if_neg h₁]
    unfold FP.Core.roundAt FP.Core.settle
    rw [t₁, t₃]
    split
    · exact bd _ _ (by assumption)
    · exact bd _ _ (by omega)
theorem ccRr32 {s : Bool} {a b : Nat} {e : Int} : ccGd32 (FP.Core.roundRatio FP.Core.b32 s a b e) := by
  have t₁ : (2 : Nat) ^ FP.Core.b32.p = 16777216 := rfl
  have t₂ : FP.Core.Fmt.qmax FP.Core.b32 = 104 := rfl
  have t₃ : FP.Core.Fmt.tails FP.Core.b32 = 8388608 := rfl
  have t₄ : FP.Core.Fmt.qmin FP.Core.b32 = -149 := rfl
  have bd : ∀ (c : Nat) (q : Int), c < 16777216 → ccGd32 (FP.Core.bound FP.Core.b32 s c q) := fun c q h₁ => by
    unfold FP.Core.bound
    rw [t₂]
    by_cases h₂ : q ≤ 104
    · rw [if_pos h₂]
      exact ⟨h₁, h₂⟩
    · rw [if_neg h₂]
      exact trivial
  unfold FP.Core.roundRatio
  by_cases h₁ : a = 0
  · rw [if_pos h₁, t₄]
    exact ⟨by omega, by omega⟩
  · rw [if_neg h₁]
    unfold FP.Core.roundAt FP.Core.settle
    rw [t₁, t₃]
    split
    · exact bd _ _ (by assumption)
    · exact bd _ _ (by omega)
theorem ccEn64 {d : FP.Core.Datum} (h₁ : ccGd64 d) : FP.Core.encode FP.Core.b64 d % 9223372036854775808 ≤ 9218868437227405312 := by
  have t₂ : FP.Core.Fmt.qmin FP.Core.b64 = -1074 := rfl
  have t₃ : FP.Core.Fmt.tails FP.Core.b64 = 4503599627370496 := rfl
  have t₄ : FP.Core.Fmt.exps FP.Core.b64 = 2048 := rfl
  cases d with
  | nan => exact h₁.elim
  | inf s =>
    show FP.Core.assemble FP.Core.b64 s (FP.Core.Fmt.exps FP.Core.b64 - 1) 0 % 9223372036854775808 ≤ 9218868437227405312
    unfold FP.Core.assemble
    rw [t₃, t₄]
    cases s
    · show (0 * 2048 + (2048 - 1)) * 4503599627370496 + 0 ≤ _
      omega
    · show ((1 * 2048 + (2048 - 1)) * 4503599627370496 + 0) % 9223372036854775808 ≤ _
      omega
  | fin s c q =>
    obtain ⟨g₁, g₂⟩ := h₁
    show (if c < FP.Core.Fmt.tails FP.Core.b64 then FP.Core.assemble FP.Core.b64 s 0 c else FP.Core.assemble FP.Core.b64 s ((q - FP.Core.Fmt.qmin FP.Core.b64).toNat + 1) (c - FP.Core.Fmt.tails FP.Core.b64)) % 9223372036854775808 ≤ 9218868437227405312
    unfold FP.Core.assemble
    rw [t₂, t₃, t₄]
    by_cases g₃ : c < 4503599627370496
    · rw [if_pos g₃]
      cases s
      · show ((0 * 2048 + 0) * 4503599627370496 + c) % 9223372036854775808 ≤ _
        omega
      · show ((1 * 2048 + 0) * 4503599627370496 + c) % 9223372036854775808 ≤ _
        omega
    · rw [if_neg g₃]
      cases s
      · show ((0 * 2048 + ((q - -1074).toNat + 1)) * 4503599627370496 + (c - 4503599627370496)) % 9223372036854775808 ≤ _
        omega
      · show ((1 * 2048 + ((q - -1074).toNat + 1)) * 4503599627370496 + (c - 4503599627370496)) % 9223372036854775808 ≤ _
        omega
theorem ccEn32 {d : FP.Core.Datum} (h₁ : ccGd32 d) : FP.Core.encode FP.Core.b32 d % 2147483648 ≤ 2139095040 := by
  have t₂ : FP.Core.Fmt.qmin FP.Core.b32 = -149 := rfl
  have t₃ : FP.Core.Fmt.tails FP.Core.b32 = 8388608 := rfl
  have t₄ : FP.Core.Fmt.exps FP.Core.b32 = 256 := rfl
  cases d with
  | nan => exact h₁.elim
  | inf s =>
    show FP.Core.assemble FP.Core.b32 s (FP.Core.Fmt.exps FP.Core.b32 - 1) 0 % 2147483648 ≤ 2139095040
    unfold FP.Core.assemble
    rw [t₃, t₄]
    cases s
    · show ((0 * 256 + (256 - 1)) * 8388608 + 0) % 2147483648 ≤ _
      omega
    · show ((1 * 256 + (256 - 1)) * 8388608 + 0) % 2147483648 ≤ _
      omega
  | fin s c q =>
    obtain ⟨g₁, g₂⟩ := h₁
    show (if c < FP.Core.Fmt.tails FP.Core.b32 then FP.Core.assemble FP.Core.b32 s 0 c else FP.Core.assemble FP.Core.b32 s ((q - FP.Core.Fmt.qmin FP.Core.b32).toNat + 1) (c - FP.Core.Fmt.tails FP.Core.b32)) % 2147483648 ≤ 2139095040
    unfold FP.Core.assemble
    rw [t₂, t₃, t₄]
    by_cases g₃ : c < 8388608
    · rw [if_pos g₃]
      cases s
      · show ((0 * 256 + 0) * 8388608 + c) % 2147483648 ≤ _
        omega
      · show ((1 * 256 + 0) * 8388608 + c) % 2147483648 ≤ _
        omega
    · rw [if_neg g₃]
      cases s
      · show ((0 * 256 + ((q - -149).toNat + 1)) * 8388608 + (c - 8388608)) % 2147483648 ≤ _
        omega
      · show ((1 * 256 + ((q - -149).toNat + 1)) * 8388608 + (c - 8388608)) % 2147483648 ≤ _
        omega
theorem ccDe64 {n : Nat} (h₁ : n % 9223372036854775808 ≤ 9218868437227405312) : FP.Core.decode FP.Core.b64 n ≠ .nan := by
  have t₃ : FP.Core.Fmt.tails FP.Core.b64 = 4503599627370496 := rfl
  have t₄ : FP.Core.Fmt.exps FP.Core.b64 = 2048 := rfl
  intro g₁
  unfold FP.Core.decode FP.Core.fieldE FP.Core.fieldT at g₁
  rw [t₃, t₄] at g₁
  by_cases g₂ : n / 4503599627370496 % 2048 = 2048 - 1
  · rw [if_pos g₂] at g₁
    by_cases g₃ : n % 4503599627370496 = 0
    · rw [if_pos g₃] at g₁
      cases g₁
    · omega
  · rw [if_neg g₂] at g₁
    split at g₁ <;> cases g₁
theorem ccDe32 {n : Nat} (h₁ : n % 2147483648 ≤ 2139095040) : FP.Core.decode FP.Core.b32 n ≠ .nan := by
  have t₃ : FP.Core.Fmt.tails FP.Core.b32 = 8388608 := rfl
  have t₄ : FP.Core.Fmt.exps FP.Core.b32 = 256 := rfl
  intro g₁
  unfold FP.Core.decode FP.Core.fieldE FP.Core.fieldT at g₁
  rw [t₃, t₄] at g₁
  by_cases g₂ : n / 8388608 % 256 = 256 - 1
  · rw [if_pos g₂] at g₁
    by_cases g₃ : n % 8388608 = 0
    · rw [if_pos g₃] at g₁
      cases g₁
    · omega
  · rw [if_neg g₂] at g₁
    split at g₁ <;> cases g₁
theorem ccNan64 {x : UInt64} (h₁ : x.toNat % 9223372036854775808 ≤ 9218868437227405312) : isNaN64 x = false := by
  have e₁ : (x &&& 0x7fffffffffffffff).toNat = x.toNat % 9223372036854775808 := by
    rw [UInt64.toNat_and]
    exact Nat.and_two_pow_sub_one_eq_mod x.toNat 63
  have e₂ : (0x7ff0000000000000 : UInt64).toNat = 9218868437227405312 := rfl
  unfold isNaN64
  refine decide_eq_false (fun g₁ => ?_)
  rw [gt_iff_lt, UInt64.lt_iff_toNat_lt, e₁, e₂] at g₁
  omega
theorem ccNan32 {x : UInt32} (h₁ : x.toNat % 2147483648 ≤ 2139095040) : isNaN32 x = false := by
  have e₁ : (x &&& 0x7fffffff).toNat = x.toNat % 2147483648 := by
    rw [UInt32.toNat_and]
    exact Nat.and_two_pow_sub_one_eq_mod x.toNat 31
  have e₂ : (0x7f800000 : UInt32).toNat = 2139095040 := rfl
  unfold isNaN32
  refine decide_eq_false (fun g₁ => ?_)
  rw [gt_iff_lt, UInt32.lt_iff_toNat_lt, e₁, e₂] at g₁
  omega
theorem ccOf64 {d : FP.Core.Datum} (h₁ : ccGd64 d) : (UInt64.ofNat (FP.Core.encode FP.Core.b64 d)).toNat % 9223372036854775808 ≤ 9218868437227405312 := by
  have e₁ := ccEn64 h₁
  rw [UInt64.toNat_ofNat']
  omega
theorem ccOf32 {d : FP.Core.Datum} (h₁ : ccGd32 d) : (UInt32.ofNat (FP.Core.encode FP.Core.b32 d)).toNat % 2147483648 ≤ 2139095040 := by
  have e₁ := ccEn32 h₁
  rw [UInt32.toNat_ofNat']
  omega
def ccFz (d : FP.Core.Datum) : Bool := match d with
  | .fin _ c _ => decide (c ≠ 0)
  | _ => false
theorem ccQu64 {x y : FP.Core.Datum} (h₁ : x ≠ .nan) (h₂ : ccFz y = true) : ccGd64 (FP.Core.quotient FP.Core.b64 x y) := by
  cases y with
  | nan => cases h₂
  | inf t => cases h₂
  | fin t d r =>
    have h₃ : d ≠ 0 := of_decide_eq_true h₂
    cases x with
    | nan => exact absurd rfl h₁
    | inf s => exact trivial
    | fin s c q =>
      show ccGd64 (if d = 0 then (if c = 0 then .nan else .inf (s != t)) else FP.Core.roundRatio FP.Core.b64 (s != t) c d (q - r))
      rw [if_neg h₃]
      exact ccRr64
theorem ccQu32 {x y : FP.Core.Datum} (h₁ : x ≠ .nan) (h₂ : ccFz y = true) : ccGd32 (FP.Core.quotient FP.Core.b32 x y) := by
  cases y with
  | nan => cases h₂
  | inf t => cases h₂
  | fin t d r =>
    have h₃ : d ≠ 0 := of_decide_eq_true h₂
    cases x with
    | nan => exact absurd rfl h₁
    | inf s => exact trivial
    | fin s c q =>
      show ccGd32 (if d = 0 then (if c = 0 then .nan else .inf (s != t)) else FP.Core.roundRatio FP.Core.b32 (s != t) c d (q - r))
      rw [if_neg h₃]
      exact ccRr32
theorem ccSm64 : ∀ b : Fin 96, ccFz (FP.Core.decode FP.Core.b64 (FP.i2d (N (b.val + 1))).toNat) = true := by decide +kernel
theorem ccSm32 : ∀ b : Fin 96, ccFz (FP.Core.decode FP.Core.b32 (FP.i2f (N (b.val + 1))).toNat) = true := by decide +kernel
theorem ccDiv64 {x : Int32} {b : Nat} (h₁ : 1 ≤ b) (h₂ : b ≤ 96) : isNaN64 (FP.ddiv (FP.i2d x) (FP.i2d (N b))) = false := by
  have e₁ := ccSm64 ⟨b - 1, by omega⟩
  have e₂ : b - 1 + 1 = b := by omega
  have e₃ : ccFz (FP.Core.decode FP.Core.b64 (FP.i2d (N b)).toNat) = true := by
    rw [← e₂]
    exact e₁
  have e₄ : (FP.i2d x).toNat % 9223372036854775808 ≤ 9218868437227405312 := ccOf64 ccRr64
  exact ccNan64 (ccOf64 (ccQu64 (ccDe64 e₄) e₃))
theorem ccDiv32 {x : Int32} {b : Nat} (h₁ : 1 ≤ b) (h₂ : b ≤ 96) : isNaN32 (FP.fdiv (FP.i2f x) (FP.i2f (N b))) = false ∧ isNaN64 (FP.f2d (FP.fdiv (FP.i2f x) (FP.i2f (N b)))) = false := by
  have e₁ := ccSm32 ⟨b - 1, by omega⟩
  have e₂ : b - 1 + 1 = b := by omega
  have e₃ : ccFz (FP.Core.decode FP.Core.b32 (FP.i2f (N b)).toNat) = true := by
    rw [← e₂]
    exact e₁
  have e₄ : (FP.i2f x).toNat % 2147483648 ≤ 2139095040 := ccOf32 ccRr32
  have e₅ : (FP.fdiv (FP.i2f x) (FP.i2f (N b))).toNat % 2147483648 ≤ 2139095040 := ccOf32 (ccQu32 (ccDe32 e₄) e₃)
  have e₆ := ccDe32 e₅
  refine ⟨ccNan32 e₅, ?_⟩
  obtain ⟨d, hd⟩ : ∃ d, d = FP.Core.decode FP.Core.b32 (FP.fdiv (FP.i2f x) (FP.i2f (N b))).toNat := ⟨_, rfl⟩
  rw [← hd] at e₆
  have e₇ : FP.f2d (FP.fdiv (FP.i2f x) (FP.i2f (N b))) = UInt64.ofNat (FP.Core.encode FP.Core.b64 (FP.Core.round FP.Core.b64 d)) := by
    have e₈ : FP.Core.fIsNaN (FP.fdiv (FP.i2f x) (FP.i2f (N b))) = false := by
      rw [hd] at e₆
      exact decide_eq_false e₆
    rw [hd]
    unfold FP.f2d
    rw [e₈]
    rfl
  rw [e₇]
  refine ccNan64 (ccOf64 ?_)
  cases d with
  | nan => exact absurd rfl e₆
  | inf s => exact trivial
  | fin s c q => exact ccRr64
/-- what comes back is a number of the other kinds -/
def ccOkD (B : Nat) (Fc Fm : mMi → mRs → mRz) (ec : List (Nat × Nat)) (m : mMi) : Prop :=
  (∃ v m₁ m₂, isNaN64 v = false ∧ (∀ rs, Fc m rs = some (Sum.inl (some (mD v)), m₁, rs)) ∧ (∀ rs, Fm m₁ rs = some (Sum.inl (some (mD v)), m₂, rs)) ∧ m₂ 4 0 0 0 = N 0 ∧ ccTop (B + 192) m₂ ∧ ∀ a j p, m₁ 3 a j p = m 3 a j p ∧ m₂ 3 a j p = m 3 a j p ∧ m₁ 4 a j p = m 4 a j p) ∨
  (∃ E c m₁ m₂, (E, c) ∈ ec ∧ (∀ rs, Fc m rs = rX E m₁ (rsT rs)) ∧ (∀ rs, Fm m₁ rs = some (Sum.inl (some (mD 0)), m₂, rs)) ∧ m₂ 4 0 0 0 = N c ∧ ccTop (B + 192) m₂ ∧ ∀ a j p, m₁ 3 a j p = m 3 a j p ∧ m₂ 3 a j p = m 3 a j p ∧ m₁ 4 a j p = m 4 a j p)
def ccOkF (B : Nat) (Fc Fm : mMi → mRs → mRz) (ec : List (Nat × Nat)) (m : mMi) : Prop :=
  (∃ v m₁ m₂, isNaN64 (FP.f2d v) = false ∧ (∀ rs, Fc m rs = some (Sum.inl (some (mF v)), m₁, rs)) ∧ (∀ rs, Fm m₁ rs = some (Sum.inl (some (mF v)), m₂, rs)) ∧ m₂ 4 0 0 0 = N 0 ∧ ccTop (B + 192) m₂ ∧ ∀ a j p, m₁ 3 a j p = m 3 a j p ∧ m₂ 3 a j p = m 3 a j p ∧ m₁ 4 a j p = m 4 a j p) ∨
  (∃ E c m₁ m₂, (E, c) ∈ ec ∧ (∀ rs, Fc m rs = rX E m₁ (rsT rs)) ∧ (∀ rs, Fm m₁ rs = some (Sum.inl (some (mF 0)), m₂, rs)) ∧ m₂ 4 0 0 0 = N c ∧ ccTop (B + 192) m₂ ∧ ∀ a j p, m₁ 3 a j p = m 3 a j p ∧ m₂ 3 a j p = m 3 a j p ∧ m₁ 4 a j p = m 4 a j p)
def ccSmr (P : Nat → Bool) (v : Nat → Int32) : Nat → Nat → Int32 → Int32
  | 0, _, x => x
  | d + 1, p, x => ccSmr P v d (p + 1) (if P p = true then x + v p else x + N 0)
theorem ccL34 {m : mMi} {i n w l : Nat} {W : Nat → Nat} {C : Nat → Nat → Int32} (h₀ : m 0 i = C) (h₁ : ccCd n C) (h₂ : n ≤ 40) (h₅ : ccDone m W C w l 0) (h₆ : ccPlc w l C) : ∀ d p f x rs, p + d = 96 → F34_12 i (f + d + 1) x (N p) m rs = rI (ccSmr (ccP C) (ccRv W C w l) d p x) m rs := by
  intro d
  induction d with
  | zero =>
    intro p f x rs g₁
    have e₀ : N 96 ≤ N p := by rw [N_le (by omega) (by omega)]; omega
    rw [ccL34_12, ccIte, if_pos e₀]
    rfl
  | succ d i₁ =>
    intro p f x rs g₁
    have e₀ : ¬ N 96 ≤ N p := by rw [N_le (by omega) (by omega)]; omega
    have e₁ : f + (d + 1) + 1 = f + d + 1 + 1 := by omega
    have e₂ := i₁ (p + 1) f (if ccP C p = true then x + ccRv W C w l p else x + N 0) rs (by omega)
    rw [e₁, ccL34_12, ccIte, if_neg e₀, ccE51 (by omega), ccBi, h₀, N_add]
    show _ = rI (ccSmr (ccP C) (ccRv W C w l) d (p + 1) (if ccP C p = true then x + ccRv W C w l p else x + N 0)) m rs
    cases g₂ : ccP C p
    · rw [g₂, if_neg (by decide)] at e₂
      rw [ccT_f, ccIf0e, if_neg (by decide)]
      exact e₂
    · rw [g₂, if_pos rfl] at e₂
      rw [ccT_t, ccIf1e, ccE23 h₀ h₁ h₂ (by omega : p < 96) (ccP_t g₂) h₅ h₆, ccBi, if_pos rfl]
      exact e₂
theorem ccL261 {m : mMi} {w l n : Nat} {W : Nat → Nat} {C : Nat → Nat → Int32} (q₁ : ccWm m w l n W C) (q₂ : ccCd n C) (q₃ : ccSs n C (m 4 0 3)) (h₅ : ccDonem m W C w l 0) (h₆ : ccPlc w l C) (h₇ : 1 ≤ ccCnt (ccP C) 96) : ∀ d p f x rs, p + d = 96 → F261_24 (f + d + 1) x (N p) m rs = some (Sum.inl (some (mD (FP.ddiv (FP.i2d (ccSmr (ccP C) (ccRv W C w l) d p x)) (FP.i2d (N (ccCnt (ccP C) 96)))))), m, rs) := by
  intro d
  induction d with
  | zero =>
    intro p f x rs g₁
    have e₀ : N 96 ≤ N p := by rw [N_le (by omega) (by omega)]; omega
    have e₁ : (!(isNaN64 (FP.ddiv (FP.i2d x) (FP.i2d (N (ccCnt (ccP C) 96)))))) = true := by rw [ccDiv64 h₇ (ccCnt_le 96)]; rfl
    rw [ccL261_24, ccIte, if_pos e₀, ccE233 q₁.2.1, ccBi, ccMck e₁]
    rfl
  | succ d i₁ =>
    intro p f x rs g₁
    have e₀ : ¬ N 96 ≤ N p := by rw [N_le (by omega) (by omega)]; omega
    have e₁ : f + (d + 1) + 1 = f + d + 1 + 1 := by omega
    have e₂ := i₁ (p + 1) f (if ccP C p = true then x + ccRv W C w l p else x + N 0) rs (by omega)
    have e₃ := (q₁.2.1 p (by omega)).1
    rw [e₁, ccL261_24, ccIte, if_neg e₀, ccE201a (by omega), ccBi, e₃, ccIte, N_add]
    show _ = some (Sum.inl (some (mD (FP.ddiv (FP.i2d (ccSmr (ccP C) (ccRv W C w l) d (p + 1) (if ccP C p = true then x + ccRv W C w l p else x + N 0))) (FP.i2d (N (ccCnt (ccP C) 96)))))), m, rs)
    cases g₂ : ccP C p
    · rw [g₂, if_neg (by decide)] at e₂
      rw [if_pos (ccP_f g₂), if_neg (by decide)]
      exact e₂
    · rw [g₂, if_pos rfl] at e₂
      rw [if_neg (ccP_t g₂), ccE218 q₁ q₂ q₃ (by omega : p < 96) (ccP_t g₂) h₅ h₆, ccBi, if_pos rfl]
      exact e₂
theorem ccZ64 : isNaN64 0 = false := by decide
theorem ccOk_137 {B : Nat} {m : mMi} (h₁ : ccTop B m) : ccOkD B F137 F261 [(1, 1)] m := by
  rcases h₁.2.2.2 with h₃ | ⟨w, l, n, bd, lm, dp, cl, β, W, h₂⟩
  · have z := ccEq_t (v := N 1) (ccEq_t (v := N 0) (ccEq_rfl (m₁ := m)))
    refine Or.inr ⟨1, 1, m, mset (mset m 4 0 0 0 (N 0)) 4 0 0 0 (N 1), List.mem_cons_self, fun rs => ?_, fun rs => ?_, ccT0s, ccTop_B (by omega) (ccTop_eq z h₁), fun a j p => ⟨rfl, z 3 a j p (by unfold ccJk; omega), rfl⟩⟩
    · unfold F137
      rw [ccE114f h₃.1, ccBvX]
    · unfold F261
      rw [ccE230f h₃.2.1, ccBi, ccIf1]
  · have b₃ : n ≤ 40 := h₂.2.2.1.1.2.2.2.2.2.2.2
    rcases Nat.eq_zero_or_pos (ccCnt (ccP (m 0 0)) 96) with g | g
    · have z := ccEq_t (v := N 0) (ccEq_rfl (m₁ := m))
      refine Or.inl ⟨0, m, ccM0 m, ccZ64, fun rs => ?_, fun rs => ?_, ccT0s, ccTop_B (by omega) (ccTop_eq z h₁), fun a j p => ⟨rfl, z 3 a j p (by unfold ccJk; omega), rfl⟩⟩
      · unfold F137
        rw [ccE114t h₂.1, ccBv, ccE54, g, ccBi, ccIf0]
      · unfold F261
        rw [ccE230t h₂.2.1, ccBi, ccIf0, ccE233 (ccLd_wm0 h₂).2.1, g, ccBi, ccIf0]
    · obtain ⟨m₁, m₂, a₁, a₂, a₃, z₀, c₁, c₂, c₃, wm, ss, cd, pl, wm₁, wc, wk⟩ := ccLoads h₂
      obtain ⟨f, hf⟩ := ccFU (k := 96) (by omega)
      have z₁ : N (ccCnt (ccP (m 0 0)) 96) ≠ N 0 := by
        have y₁ := ccCnt_le (f := ccP (m 0 0)) 96
        rw [ne_eq, N_eq (by omega) (by omega)]
        omega
      have e₁ : (!(isNaN64 (FP.ddiv (FP.i2d (ccSmr (ccP (m 0 0)) (ccRv W (m 0 0) w l) 96 0 (N 0))) (FP.i2d (N (ccCnt (ccP (m 0 0)) 96)))))) = true := by rw [ccDiv64 g (ccCnt_le 96)]; rfl
      have z := ccEq_trans (ccEq_fs a₂) (ccEq_trans (ccEq_t (v := N 0) ccEq_rfl) (ccEq_ft c₂))
      refine Or.inl ⟨_, m₁, m₂, ccDiv64 (x := ccSmr (ccP (m 0 0)) (ccRv W (m 0 0) w l) 96 0 (N 0)) g (ccCnt_le 96), fun rs => ?_, fun rs => ?_, by rw [c₂ 4 0 0 0 (by omega)]; exact ccT0s, ccTop_B (by omega) (ccTop_eq z h₁), fun a j p => ⟨a₂ 3 a j p (by omega), z 3 a j p (by unfold ccJk; omega), a₂ 4 a j p (by omega)⟩⟩
      · have e₂ : F34 0 m rs = rI (ccSmr (ccP (m 0 0)) (ccRv W (m 0 0) w l) 96 0 (N 0)) m₁ rs := by
          unfold F34
          rw [a₁, ccBv, hf]
          exact ccL34 z₀ cd b₃ a₃ pl 96 0 f _ rs (by omega)
        unfold F137
        rw [ccE114t h₂.1, ccBv, ccE54, ccBi, ccIte, if_pos z₁, e₂, ccBi, ccMck e₁]
      · unfold F261
        rw [ccE230t (by rw [a₂ 4 0 0 1 (by omega)]; exact h₂.2.1), ccBi, ccIf0, ccE233 wm₁.2.1, ccBi, ccIte, if_pos z₁, c₁, ccBv, hf]
        exact ccL261 wm cd ss c₃ pl g 96 0 f _ rs (by omega)
theorem ccZ32 : isNaN64 (FP.f2d 0) = false := by decide +kernel
theorem ccS_pos {w l : Nat} (h₁ : 2 ≤ w) (h₂ : 1 ≤ l) (h₃ : w ≤ 12) : 1 ≤ ccS (ccCol w l) 8 ∧ ccS (ccCol w l) 8 ≤ 96 := by
  have c₀ : ∀ L, ccCol w l L ≤ 12 := fun L => by
    unfold ccCol
    split <;> omega
  have c₁ : 1 ≤ ccCol w l 0 := by
    unfold ccCol
    rw [if_pos (by omega)]
    omega
  have y₀ := c₀ 0
  have y₁ := c₀ 1
  have y₂ := c₀ 2
  have y₃ := c₀ 3
  have y₄ := c₀ 4
  have y₅ := c₀ 5
  have y₆ := c₀ 6
  have y₇ := c₀ 7
  simp only [ccS]
  omega
theorem ccOk_138 {B : Nat} {m : mMi} (h₁ : ccTop B m) : ccOkF B F138 F262 [(1, 1)] m := by
  rcases h₁.2.2.2 with h₃ | ⟨w, l, n, bd, lm, dp, cl, β, W, h₂⟩
  · have z := ccEq_t (v := N 1) (ccEq_t (v := N 0) (ccEq_rfl (m₁ := m)))
    refine Or.inr ⟨1, 1, m, mset (mset m 4 0 0 0 (N 0)) 4 0 0 0 (N 1), List.mem_cons_self, fun rs => ?_, fun rs => ?_, ccT0s, ccTop_B (by omega) (ccTop_eq z h₁), fun a j p => ⟨rfl, z 3 a j p (by unfold ccJk; omega), rfl⟩⟩
    · unfold F138
      rw [ccE114f h₃.1, ccBvX]
    · unfold F262
      rw [ccE230f h₃.2.1, ccBi, ccIf1e]
  · have qr := h₂.2.2.1.1
    have qm : ccMo (ccM0 m) w l n := ccM0_mo h₂.2.2.1.2.1
    obtain ⟨s₁, s₂⟩ := ccS_pos (w := w) (l := l) qr.2.2.2.1 qr.2.2.2.2.2.1 qr.2.2.2.2.1
    obtain ⟨d₁, d₂⟩ := ccDiv32 (x := N (ccCnt (ccP (m 0 0)) 96)) s₁ s₂
    have e₁ : (!(isNaN32 (FP.fdiv (FP.i2f (N (ccCnt (ccP (m 0 0)) 96))) (FP.i2f (N (ccS (ccCol w l) 8)))))) = true := by rw [d₁]; rfl
    have z₁ : N (ccS (ccCol w l) 8) ≠ N 0 := by
      rw [ne_eq, N_eq (by omega) (by omega)]
      omega
    have z := ccEq_t (v := N 0) (ccEq_rfl (m₁ := m))
    refine Or.inl ⟨_, m, ccM0 m, d₂, fun rs => ?_, fun rs => ?_, ccT0s, ccTop_B (by omega) (ccTop_eq z h₁), fun a j p => ⟨rfl, z 3 a j p (by unfold ccJk; omega), rfl⟩⟩
    · unfold F138
      rw [ccE114t h₂.1, ccBv, ccE83 qr, ccBi, ccIte, if_pos z₁, ccE54, ccBi, ccMck e₁]
    · unfold F262
      rw [ccE230t h₂.2.1, ccBi, ccIf0e, ccE233 (ccLd_wm0 h₂).2.1, ccBi, ccE235 qm, ccBi, ccMck e₁]
