/-! CALLS: append. -/
theorem ccLow8 {x : Int32} : Int32.toInt8 (x &&& N 255) = Int32.toInt8 x := by
  apply Int8.toBitVec_inj.1
  apply BitVec.eq_of_getLsbD_eq
  intro i hi
  have h₂ : (N 255).toBitVec.getLsbD i = true := by
    have y₁ : ∀ j : Fin 8, (N 255).toBitVec.getLsbD j.val = true := by decide +kernel
    exact y₁ ⟨i, hi⟩
  have h₄ : (x &&& N 255).toBitVec.getLsbD i = x.toBitVec.getLsbD i := by
    show (x.toBitVec &&& (N 255).toBitVec).getLsbD i = _
    rw [BitVec.getLsbD_and, h₂, Bool.and_true]
  have h₃ : i < 32 := by omega
  show (((x &&& N 255).toBitVec).signExtend 8).getLsbD i = (x.toBitVec.signExtend 8).getLsbD i
  rw [BitVec.getLsbD_signExtend, BitVec.getLsbD_signExtend, if_pos h₃, if_pos h₃, h₄]
theorem ccTwice8 {x : Int32} : Int8.toInt32 (Int32.toInt8 (Int8.toInt32 (Int32.toInt8 x))) = Int8.toInt32 (Int32.toInt8 x) := by
  have h₁ := Int8.le_toInt (Int32.toInt8 x)
  have h₂ := Int8.toInt_lt (Int32.toInt8 x)
  apply Int32.toInt_inj.1
  rw [Int8.toInt_toInt32, Int32.toInt_toInt8, Int8.toInt_toInt32, Int.bmod_eq_of_le (by omega) (by omega)]
theorem ccB255 {y : Int32} : ∃ b, b < 256 ∧ y &&& N 255 = N b := by
  refine ⟨y.toBitVec.toNat % 256, Nat.mod_lt _ (by omega), ?_⟩
  apply Int32.toBitVec_inj.1
  apply BitVec.eq_of_toNat_eq
  show (y.toBitVec &&& (N 255).toBitVec).toNat = (BitVec.ofNat 32 (y.toBitVec.toNat % 256)).toNat
  have e₁ : (N 255).toBitVec.toNat = 255 := rfl
  have e₂ := Nat.and_two_pow_sub_one_eq_mod y.toBitVec.toNat 8
  rw [BitVec.toNat_and, BitVec.toNat_ofNat, e₁]
  have e₃ : y.toBitVec.toNat &&& 255 = y.toBitVec.toNat % 256 := e₂
  rw [e₃]
  omega
def ccSh (j : Nat) (x : Int32) : Int32 := x >>> (N (24 - 8 * j) &&& 31)
theorem ccSh3 {x : Int32} : ccSh 3 x = x := by
  have e₁ : N (24 - 8 * 3) &&& 31 = 0 := rfl
  unfold ccSh
  rw [e₁]
  exact Int32.shiftRight_zero
theorem ccE63 {m : mMi} {x : Int32} {e : Nat} (h₁ : m 2 1 0 1 = N e) (h₂ : e + 4 ≤ 900) : ∃ m₁, (∀ rs, F63 x m rs = rV m₁ rs) ∧ m₁ 2 1 0 1 = N (e + 4) ∧ (∀ j, j < 4 → m₁ 2 1 1 (e + j) = Int8.toInt32 (Int32.toInt8 (ccSh j x))) ∧ ∀ f a j p, ¬ (f = 2 ∧ a = 1 ∧ ((j = 0 ∧ p = 1) ∨ (j = 1 ∧ e ≤ p))) → m₁ f a j p = m f a j p := by
  have e₀ : N e + N 4 ≤ N 900 := by rw [N_add, N_le (by omega) (by omega)]; omega
  have n₁ : N e + N 1 = N (e + 1) := by rw [N_add]
  have n₂ : N e + N 2 = N (e + 2) := by rw [N_add]
  have n₃ : N e + N 3 = N (e + 3) := by rw [N_add]
  have n₄ : N e + N 4 = N (e + 4) := by rw [N_add]
  refine ⟨mset (mset (mset (mset (mset m 2 1 1 e (Int8.toInt32 (Int32.toInt8 (Int8.toInt32 (Int32.toInt8 (x >>> ((N 24) &&& 31))))))) 2 1 1 (e + 1) (Int8.toInt32 (Int32.toInt8 (Int8.toInt32 (Int32.toInt8 (x >>> ((N 16) &&& 31))))))) 2 1 1 (e + 2) (Int8.toInt32 (Int32.toInt8 (Int8.toInt32 (Int32.toInt8 (x >>> ((N 8) &&& 31))))))) 2 1 1 (e + 3) (Int8.toInt32 (Int32.toInt8 (Int8.toInt32 (Int32.toInt8 x))))) 2 1 0 1 (N (e + 4)), fun rs => ?_, ?_, fun j g₁ => ?_, fun f a j p g₁ => ?_⟩
  · unfold F63
    rw [h₁, ccIte, if_pos e₀, n₁, n₂, n₃, n₄, ccMckIn (by omega) (by omega), ccMckIn (by omega) (by omega), ccMckIn (by omega) (by omega), ccMckIn (by omega) (by omega), mix_N (by omega), mix_N (by omega), mix_N (by omega), mix_N (by omega)]
  · rw [ccRd, if_pos ⟨rfl, rfl, rfl, rfl⟩]
  · have g₂ : j = 0 ∨ j = 1 ∨ j = 2 ∨ j = 3 := by omega
    rcases g₂ with g₂ | g₂ | g₂ | g₂ <;> subst g₂
    · rw [ccRd, if_neg (by omega), ccRd, if_neg (by omega), ccRd, if_neg (by omega), ccRd, if_neg (by omega), ccRd, if_pos ⟨rfl, rfl, rfl, by omega⟩, ccTwice8]
      rfl
    · rw [ccRd, if_neg (by omega), ccRd, if_neg (by omega), ccRd, if_neg (by omega), ccRd, if_pos ⟨rfl, rfl, rfl, by omega⟩, ccTwice8]
      rfl
    · rw [ccRd, if_neg (by omega), ccRd, if_neg (by omega), ccRd, if_pos ⟨rfl, rfl, rfl, by omega⟩, ccTwice8]
      rfl
    · rw [ccRd, if_neg (by omega), ccRd, if_pos ⟨rfl, rfl, rfl, by omega⟩, ccTwice8, ccSh3]
  · rw [ccRd, if_neg (by omega), ccRd, if_neg (by omega), ccRd, if_neg (by omega), ccRd, if_neg (by omega), ccRd, if_neg (by omega)]
def ccWd (x₁ x₂ x₃ x₄ x₅ : Int32) (k : Nat) : Int32 := if k < 4 then x₁ else if k < 8 then x₂ else if k < 12 then x₃ else if k < 16 then x₄ else x₅
theorem ccL172s {m : mMi} {x₁ x₂ x₃ x₄ x₅ : Int32} {e p f : Nat} {rs : mRs} (h₁ : m 4 0 0 17 = N e) (h₂ : e + 20 ≤ 900) (h₃ : p < 20) : F172_23 (f + 1) x₁ x₂ x₃ x₄ x₅ (N p) m rs = F172_23 f x₁ x₂ x₃ x₄ x₅ (N (p + 1)) (mset m 4 0 7 (e + p) (ccSh (p % 4) (ccWd x₁ x₂ x₃ x₄ x₅ p) &&& N 255)) rs := by
  have e₁ : N p - N p / N 4 * N 4 = N (p % 4) := N_rem (by omega) (by omega) (by omega)
  have e₂ : N 24 - N 8 * N (p % 4) = N (24 - 8 * (p % 4)) := by rw [N_mul, N_sub (by omega)]
  have e₃ : N e + N p = N (e + p) := by rw [N_add]
  have e₀ : ¬ N 20 ≤ N p := by rw [N_le (by omega) (by omega)]; omega
  have c : ∀ k, k ≤ 16 → (N k ≤ N p ↔ k ≤ p) := fun k _ => by rw [N_le (by omega) (by omega)]
  rw [ccL172_23, ccIte, if_neg e₀, e₁, e₂, h₁, e₃, ccIte, ccIte, ccIte, ccIte, ccMckIn (by omega) (by omega), ccMckIn (by omega) (by omega), ccMckIn (by omega) (by omega), ccMckIn (by omega) (by omega), ccMckIn (by omega) (by omega), mix_N (by omega), N_add]
  unfold ccWd
  by_cases g₁ : 4 ≤ p
  · rw [if_pos ((c 4 (by omega)).2 g₁), if_neg (by omega : ¬ p < 4)]
    by_cases g₂ : 8 ≤ p
    · rw [if_pos ((c 8 (by omega)).2 g₂), if_neg (by omega : ¬ p < 8)]
      by_cases g₃ : 12 ≤ p
      · rw [if_pos ((c 12 (by omega)).2 g₃), if_neg (by omega : ¬ p < 12)]
        by_cases g₄ : 16 ≤ p
        · rw [if_pos ((c 16 (by omega)).2 g₄), if_neg (by omega : ¬ p < 16)]
          rfl
        · rw [if_neg (fun z₁ => g₄ ((c 16 (by omega)).1 z₁)), if_pos (by omega : p < 16)]
          rfl
      · rw [if_neg (fun z₁ => g₃ ((c 12 (by omega)).1 z₁)), if_pos (by omega : p < 12)]
        rfl
    · rw [if_neg (fun z₁ => g₂ ((c 8 (by omega)).1 z₁)), if_pos (by omega : p < 8)]
      rfl
  · rw [if_neg (fun z₁ => g₁ ((c 4 (by omega)).1 z₁)), if_pos (by omega : p < 4)]
    rfl
theorem ccL172 {x₁ x₂ x₃ x₄ x₅ : Int32} {e : Nat} (h₂ : e + 20 ≤ 900) : ∀ d p m, p + d = 20 → m 4 0 0 17 = N e →
    ∃ m₁, (∀ f rs, F172_23 (f + d + 1) x₁ x₂ x₃ x₄ x₅ (N p) m rs = rI (N (e + 20)) m₁ rs) ∧ m₁ 4 0 0 17 = N (e + 20) ∧ (∀ k, p ≤ k → k < 20 → m₁ 4 0 7 (e + k) = ccSh (k % 4) (ccWd x₁ x₂ x₃ x₄ x₅ k) &&& N 255) ∧ ∀ f a j q, ¬ (f = 4 ∧ a = 0 ∧ ((j = 0 ∧ q = 17) ∨ (j = 7 ∧ e + p ≤ q))) → m₁ f a j q = m f a j q := by
  intro d
  induction d with
  | zero =>
    intro p m g₁ g₂
    have e₁ : p = 20 := by omega
    subst e₁
    have e₀ : N 20 ≤ N 20 := by rw [N_le (by omega) (by omega)]; omega
    refine ⟨mset m 4 0 0 17 (N (e + 20)), fun f rs => ?_, by rw [ccRd, if_pos ⟨rfl, rfl, rfl, rfl⟩], fun k y₁ y₂ => by omega, fun f a j q y₁ => by rw [ccRd, if_neg (by omega)]⟩
    rw [ccL172_23, ccIte, if_pos e₀, g₂, N_add]
  | succ d i₁ =>
    intro p m g₁ g₂
    obtain ⟨m₁, a₁, a₂, a₃, a₄⟩ := i₁ (p + 1) (mset m 4 0 7 (e + p) (ccSh (p % 4) (ccWd x₁ x₂ x₃ x₄ x₅ p) &&& N 255)) (by omega) (by rw [ccRd, if_neg (by omega)]; exact g₂)
    refine ⟨m₁, fun f rs => ?_, a₂, fun k y₁ y₂ => ?_, fun f a j q y₁ => ?_⟩
    · have e₁ : f + (d + 1) + 1 = f + d + 1 + 1 := by omega
      rw [e₁, ccL172s g₂ h₂ (by omega)]
      exact a₁ f rs
    · by_cases y₃ : k = p
      · subst y₃
        rw [a₄ 4 0 7 (e + k) (by omega), ccRd, if_pos ⟨rfl, rfl, rfl, rfl⟩]
      · exact a₃ k (by omega) y₂
    · rw [a₄ f a j q (by omega), ccRd, if_neg (by omega)]
/-- the input alone changes -/
theorem ccTop_in {B : Nat} {m m₂ : mMi} (h₁ : ccTop B m) (st : ∀ f a j p, ¬ ccJk f a j p → ¬ ((f = 2 ∧ a = 1) ∨ (f = 4 ∧ a = 0 ∧ (j = 7 ∨ (j = 0 ∧ p = 17)))) → m₂ f a j p = m f a j p) (ip : ccIn m₂) : ccTop (B + 192) m₂ := by
  obtain ⟨_, e₂, e₃, e₄⟩ := h₁
  have sv : ∀ e, e < 2 → m₂ 2 6 1 e = m 2 6 1 e ∧ m₂ 4 0 6 e = m 4 0 6 e ∧ m₂ 0 (11 + e) = m 0 (11 + e) ∧ ccAr (ccRow m (8 + e)) (ccRow m₂ (8 + e)) := fun e y₁ => by
    refine ⟨st 2 6 1 e (by unfold ccJk; omega) (by omega), st 4 0 6 e (by unfold ccJk; omega) (by omega), ?_, fun q _ => st 4 0 5 _ (by unfold ccJk; omega) (by omega)⟩
    funext j p
    exact st 0 (11 + e) j p (by unfold ccJk; omega) (by omega)
  have r₁ := st 2 5 0 1 (by unfold ccJk; omega) (by omega)
  have r₂ := st 4 0 0 14 (by unfold ccJk; omega) (by omega)
  have r₃ := st 2 5 0 2 (by unfold ccJk; omega) (by omega)
  have r₄ : ∀ y, y < 8 → m₂ 0 (3 + y) = m 0 (3 + y) := fun y _ => by
    funext j p
    exact st 0 (3 + y) j p (by unfold ccJk; omega) (by omega)
  have r₅ : ∀ t, t < 8 → ccAr (ccRow m t) (ccRow m₂ t) := fun t _ q _ => st 4 0 5 _ (by unfold ccJk; omega) (by omega)
  refine ⟨ip, ?_, ?_, ?_⟩
  · unfold ccEr at e₂ ⊢
    rw [st 2 3 0 3 (by unfold ccJk; omega) (by omega), st 2 3 0 4 (by unfold ccJk; omega) (by omega), st 4 0 0 18 (by unfold ccJk; omega) (by omega), st 4 0 0 19 (by unfold ccJk; omega) (by omega)]
    exact e₂
  · obtain ⟨e, y₁, y₂, y₃, y₄⟩ := e₃
    refine ⟨e, y₁, by rw [st 2 7 0 1 (by unfold ccJk; omega) (by omega)]; exact y₂, by rw [st 4 0 0 36 (by unfold ccJk; omega) (by omega)]; exact y₃, fun q g₁ => ?_⟩
    rw [st 4 0 15 q (by unfold ccJk; omega) (by omega), st 2 7 1 q (by unfold ccJk; omega) (by omega)]
    exact y₄ q g₁
  · rcases e₄ with ⟨y₁, y₂, y₃, y₄⟩ | ⟨w, l, n, bd, lm, dp, cl, β, W, y₁, y₂, y₃, y₄, y₅, y₆⟩
    · exact Or.inl ⟨by rw [st 2 0 0 10 (by unfold ccJk; omega) (by omega)]; exact y₁, by rw [st 4 0 0 1 (by unfold ccJk; omega) (by omega)]; exact y₂, ccRing_fr y₃ (fun _ _ _ z₁ _ => z₁) r₁ r₂ r₃ r₄ r₅, ccSav_fr y₄ (fun _ _ _ z₁ _ => z₁) sv⟩
    · have b₁ : w ≤ 12 := y₃.1.2.2.2.2.1
      have b₂ : l ≤ 8 := y₃.1.2.2.2.2.2.2.1
      have b₃ : n ≤ 40 := y₃.1.2.2.2.2.2.2.2
      have c₀ : m₂ 0 0 = m 0 0 := by
        funext j p
        exact st 0 0 j p (by unfold ccJk; omega) (by omega)
      exact Or.inr ⟨w, l, n, bd, lm, dp, cl, β, W, by rw [st 2 0 0 10 (by unfold ccJk; omega) (by omega)]; exact y₁, by rw [st 4 0 0 1 (by unfold ccJk; omega) (by omega)]; exact y₂, ccPar_eq (fun f a j p z₁ => st f a j p (by unfold ccJk; omega) (by omega)) y₃, by rw [c₀]; exact ccKK_at b₁ b₂ b₃ y₄ ccAg_rfl (fun q z₁ => st 4 0 3 q (by unfold ccJk; omega) (by omega)), ccRing_fr y₅ (ccKK_ar b₁ b₂ b₃) r₁ r₂ r₃ r₄ r₅, ccSav_fr y₆ (ccKK_ar b₁ b₂ b₃) sv⟩
theorem ccOk_99 {B : Nat} {m : mMi} {x₁ x₂ x₃ x₄ x₅ : Int32} (h₁ : ccTop B m) : ccOk B (F99 x₁ x₂ x₃ x₄ x₅) (F172 x₁ x₂ x₃ x₄ x₅) [] m := by
  obtain ⟨e, e₁, e₂, e₃, e₄⟩ := h₁.1
  by_cases g : e + 20 ≤ 900
  rotate_left
  · have g₁ : ¬ N e + N 20 ≤ N 900 := by rw [N_add, N_le (by omega) (by omega)]; exact g
    refine ccOk_q (v := I (-1)) (m₁ := m) (m₂ := ccM0 m) h₁ (fun rs => ?_) (fun rs => ?_) ccT0s ccEq_rfl (ccEq_t ccEq_rfl) (fun _ _ _ => rfl)
    · unfold F99
      rw [e₂, ccIte, if_neg g₁]
    · unfold F172
      rw [e₃, ccIte, if_neg g₁]
  have g₁ : N e + N 20 ≤ N 900 := by rw [N_add, N_le (by omega) (by omega)]; exact g
  obtain ⟨a₁, p₁, p₂, p₃, p₄⟩ := ccE63 (x := x₁) e₂ (by omega)
  obtain ⟨a₂, q₁, q₂, q₃, q₄⟩ := ccE63 (x := x₂) p₂ (by omega)
  obtain ⟨a₃, r₁, r₂, r₃, r₄⟩ := ccE63 (x := x₃) q₂ (by omega)
  obtain ⟨a₄, s₁, s₂, s₃, s₄⟩ := ccE63 (x := x₄) r₂ (by omega)
  obtain ⟨a₅, t₁, t₂, t₃, t₄⟩ := ccE63 (x := x₅) s₂ (by omega)
  have st : ∀ f a j p, ¬ (f = 2 ∧ a = 1 ∧ ((j = 0 ∧ p = 1) ∨ (j = 1 ∧ e ≤ p))) → a₅ f a j p = m f a j p := fun f a j p y₁ => by rw [t₄ f a j p (by omega), s₄ f a j p (by omega), r₄ f a j p (by omega), q₄ f a j p (by omega), p₄ f a j p (by omega)]
  have m₄ : ccMo4 m a₅ := fun a j p => st 4 a j p (by omega)
  have by₁ : ∀ k, k < 20 → a₅ 2 1 1 (e + k) = Int8.toInt32 (Int32.toInt8 (ccSh (k % 4) (ccWd x₁ x₂ x₃ x₄ x₅ k))) := fun k y₁ => by
    obtain ⟨j, hj⟩ : ∃ j, j = k % 4 := ⟨_, rfl⟩
    unfold ccWd
    rw [← hj]
    by_cases z₁ : k < 4
    · have z₂ : e + k = e + j := by omega
      rw [if_pos z₁, t₄ 2 1 1 _ (by omega), s₄ 2 1 1 _ (by omega), r₄ 2 1 1 _ (by omega), q₄ 2 1 1 _ (by omega), z₂, p₃ j (by omega)]
    · rw [if_neg z₁]
      by_cases z₃ : k < 8
      · have z₂ : e + k = e + 4 + j := by omega
        rw [if_pos z₃, t₄ 2 1 1 _ (by omega), s₄ 2 1 1 _ (by omega), r₄ 2 1 1 _ (by omega), z₂, q₃ j (by omega)]
      · rw [if_neg z₃]
        by_cases z₄ : k < 12
        · have z₂ : e + k = e + 4 + 4 + j := by omega
          rw [if_pos z₄, t₄ 2 1 1 _ (by omega), s₄ 2 1 1 _ (by omega), z₂, r₃ j (by omega)]
        · rw [if_neg z₄]
          by_cases z₅ : k < 16
          · have z₂ : e + k = e + 4 + 4 + 4 + j := by omega
            rw [if_pos z₅, t₄ 2 1 1 _ (by omega), z₂, s₃ j (by omega)]
          · have z₂ : e + k = e + 4 + 4 + 4 + 4 + j := by omega
            rw [if_neg z₅, z₂, t₃ j (by omega)]
  have o₁ : ccM0 a₅ 4 0 0 17 = N e := by rw [ccM0_r (by omega), m₄]; exact e₃
  obtain ⟨m₂, u₁, u₂, u₃, u₄⟩ := ccL172 (x₁ := x₁) (x₂ := x₂) (x₃ := x₃) (x₄ := x₄) (x₅ := x₅) g 20 0 (ccM0 a₅) (by omega) o₁
  have st₂ : ∀ f a j p, ¬ (f = 4 ∧ a = 0 ∧ ((j = 0 ∧ (p = 0 ∨ p = 17)) ∨ (j = 7 ∧ e ≤ p))) → m₂ f a j p = a₅ f a j p := fun f a j p y₁ => by
    rw [u₄ f a j p (by omega)]
    unfold ccM0
    rw [ccRd, if_neg (by omega)]
  have len : e + 4 + 4 + 4 + 4 + 4 = e + 20 := by omega
  rw [len] at t₂
  refine Or.inl ⟨N (e + 20), a₅, m₂, fun rs => ?_, fun rs => ?_, ?_, ccTop_in h₁ (fun f a j p y₁ y₂ => ?_) ⟨e + 20, g, ?_, u₂, fun k y₁ => ?_⟩, fun a j p => ⟨st 3 a j p (by omega), by rw [st₂ 3 a j p (by omega)]; exact st 3 a j p (by omega), m₄ a j p⟩⟩
  · unfold F99
    rw [e₂, ccIte, if_pos g₁, p₁, ccBv, q₁, ccBv, r₁, ccBv, s₁, ccBv, t₁, ccBv, t₂]
  · obtain ⟨f, hf⟩ := ccFU (k := 20) (by omega)
    have y₁ : a₅ 4 0 0 17 = N e := by rw [m₄]; exact e₃
    unfold F172
    rw [y₁, ccIte, if_pos g₁, hf]
    exact u₁ f rs
  · rw [u₄ 4 0 0 0 (by omega)]
    exact ccT0s
  · rw [st₂ f a j p (by unfold ccJk at y₁; omega), st f a j p (by omega)]
  · rw [st₂ 2 1 0 1 (by omega)]
    exact t₂
  · by_cases y₂ : k < e
    · obtain ⟨b, b₁, b₂, b₃⟩ := e₄ k y₂
      refine ⟨b, b₁, ?_, ?_⟩
      · rw [st₂ 4 0 7 k (by omega), m₄]
        exact b₂
      · rw [st₂ 2 1 1 k (by omega), st 2 1 1 k (by omega)]
        exact b₃
    · obtain ⟨i, hi⟩ : ∃ i, k = e + i := ⟨k - e, by omega⟩
      subst hi
      have y₃ := u₃ i (by omega) (by omega)
      obtain ⟨b, b₁, b₂⟩ := ccB255 (y := ccSh (i % 4) (ccWd x₁ x₂ x₃ x₄ x₅ i))
      refine ⟨b, b₁, by rw [y₃, b₂], ?_⟩
      rw [st₂ 2 1 1 _ (by omega), by₁ i (by omega), ← b₂, ccLow8]
