/-! NUMBERS. -/
theorem I_N (n : Nat) : I (n : Int) = N n := by
  unfold I N
  exact Int32.ofInt_eq_ofNat
theorem N_add (a b : Nat) : N a + N b = N (a + b) := (Int32.ofNat_add a b).symm
theorem N_mul (a b : Nat) : N a * N b = N (a * b) := (Int32.ofNat_mul a b).symm
theorem I_add (a b : Int) : I a + I b = I (a + b) := (Int32.ofInt_add a b).symm
theorem I_sub (a b : Int) : I a - I b = I (a - b) := (Int32.ofInt_sub a b).symm
theorem I_mul (a b : Int) : I a * I b = I (a * b) := (Int32.ofInt_mul a b).symm
theorem I_neg (a : Int) : - I a = I (-a) := (Int32.ofInt_neg a).symm
theorem N_sub {a b : Nat} (h : b ≤ a) : N a - N b = N (a - b) := by
  rw [← I_N, ← I_N, I_sub, ← I_N, Int.ofNat_sub h]
theorem N_dec {a : Nat} (h : 0 < a) : N a + I (-1) = N (a - 1) := by
  rw [← I_N, I_add, ← I_N]
  congr 1
  omega
theorem I_toInt {z : Int} (h0 : -2147483648 ≤ z) (h1 : z < 2147483648) : (I z).toInt = z := Int32.toInt_ofInt_of_le (by simpa using h0) (by simpa using h1)
theorem N_toInt {n : Nat} (h : n < 2147483648) : (N n).toInt = n := by rw [← I_N, I_toInt (by omega) (by omega)]
theorem mix_N {n : Nat} (h : n < 2147483648) : mix (N n) = n := by
  show (N n).toInt.toNat = n
  rw [N_toInt h]; rfl
theorem N_lt {a b : Nat} (ha : a < 2147483648) (hb : b < 2147483648) : N a < N b ↔ a < b := by
  rw [Int32.lt_iff_toInt_lt, N_toInt ha, N_toInt hb]; omega
theorem N_le {a b : Nat} (ha : a < 2147483648) (hb : b < 2147483648) : N a ≤ N b ↔ a ≤ b := by
  rw [Int32.le_iff_toInt_le, N_toInt ha, N_toInt hb]; omega
theorem N_eq {a b : Nat} (ha : a < 2147483648) (hb : b < 2147483648) : N a = N b ↔ a = b := by
  rw [← Int32.toInt_inj, N_toInt ha, N_toInt hb]; omega
theorem I_lt {a b : Int} (ha0 : -2147483648 ≤ a) (ha : a < 2147483648) (hb0 : -2147483648 ≤ b) (hb : b < 2147483648) : I a < I b ↔ a < b := by
  rw [Int32.lt_iff_toInt_lt, I_toInt ha0 ha, I_toInt hb0 hb]
theorem I_le {a b : Int} (ha0 : -2147483648 ≤ a) (ha : a < 2147483648) (hb0 : -2147483648 ≤ b) (hb : b < 2147483648) : I a ≤ I b ↔ a ≤ b := by
  rw [Int32.le_iff_toInt_le, I_toInt ha0 ha, I_toInt hb0 hb]
theorem I_eq {a b : Int} (ha0 : -2147483648 ≤ a) (ha : a < 2147483648) (hb0 : -2147483648 ≤ b) (hb : b < 2147483648) : I a = I b ↔ a = b := by
  rw [← Int32.toInt_inj, I_toInt ha0 ha, I_toInt hb0 hb]
theorem I_div {a b : Int} (ha0 : -2147483648 < a) (ha : a < 2147483648) (hb0 : 0 < b) (hb : b < 2147483648) : I a / I b = I (a.tdiv b) := by
  rw [← Int32.toInt_inj, Int32.toInt_div, I_toInt (by omega) ha, I_toInt (by omega) hb]
  have h1 : -2147483648 ≤ a.tdiv b ∧ a.tdiv b < 2147483648 := by
    have := Int.natAbs_tdiv_le_natAbs a b
    omega
  rw [I_toInt h1.1 h1.2]
  rw [Int.bmod_eq_of_le (by omega) (by omega)]
theorem N_div {a b : Nat} (ha : a < 2147483648) (hb0 : 0 < b) (hb : b < 2147483648) : N a / N b = N (a / b) := by
  rw [← I_N, ← I_N, I_div (by omega) (by omega) (by omega) (by omega), ← I_N]
  congr 1
theorem N_rem {a b : Nat} (ha : a < 2147483648) (hb0 : 0 < b) (hb : b < 2147483648) : N a - N a / N b * N b = N (a % b) := by
  rw [N_div ha hb0 hb, N_mul, N_sub (Nat.div_mul_le_self a b)]
  congr 1
  have := Nat.div_add_mod a b
  rw [Nat.mul_comm] at this
  omega
theorem mIn_N {a n : Nat} (h : a < n) (hn : n ≤ 2147483648) : mIn (N a) n = true := by
  unfold mIn
  rw [mix_N (by omega), Bool.and_eq_true, Bool.not_eq_true', decide_eq_false_iff_not]
  refine ⟨?_, Nat.ble_eq_true_of_le h⟩
  rw [Int32.lt_iff_toInt_lt, N_toInt (by omega)]
  show ¬ ((a : Int) < 0)
  omega
theorem mIn_iff {x : Int32} {n : Nat} : mIn x n = true ↔ ∃ a, x = N a ∧ a < n ∧ a < 2147483648 := by
  constructor
  · intro h
    unfold mIn at h
    rw [Bool.and_eq_true, Bool.not_eq_true', decide_eq_false_iff_not] at h
    obtain ⟨h1, h2⟩ := h
    have h2 : x.toInt.toNat < n := Nat.le_of_ble_eq_true h2
    have h0 : 0 ≤ x.toInt := by
      have := Int32.not_lt.mp h1
      simpa using Int32.le_iff_toInt_le.mp this
    have h3 : x.toInt < 2147483648 := by have := x.toInt_lt; simpa using this
    refine ⟨x.toInt.toNat, ?_, h2, by omega⟩
    rw [← Int32.toInt_inj, N_toInt (by omega)]
    omega
  · rintro ⟨a, rfl, h1, h2⟩
    unfold mIn
    rw [mix_N h2, Bool.and_eq_true, Bool.not_eq_true', decide_eq_false_iff_not]
    refine ⟨?_, Nat.ble_eq_true_of_le h1⟩
    rw [Int32.lt_iff_toInt_lt, N_toInt h2]
    show ¬ ((a : Int) < 0)
    omega
/-- every number of the machine is one of I -/
theorem I_all (x : Int32) : ∃ z : Int, x = I z ∧ -2147483648 ≤ z ∧ z < 2147483648 := by
  refine ⟨x.toInt, ?_, ?_, ?_⟩
  · rw [← Int32.toInt_inj, I_toInt]
    · have := x.le_toInt; simpa using this
    · have := x.toInt_lt; simpa using this
  · have := x.le_toInt; simpa using this
  · have := x.toInt_lt; simpa using this
theorem mck_t {P : Prop} : mck true P ↔ P := Iff.rfl
theorem mif_t {P Q : Prop} : mif true P Q ↔ P := Iff.rfl
theorem mif_f {P Q : Prop} : mif false P Q ↔ Q := Iff.rfl
theorem mck_i {b : Bool} {P : Prop} (h : b = true) (k : P) : mck b P := by rw [h]; exact k
theorem mif_i {b : Bool} {P Q : Prop} (k1 : b = true → P) (k2 : b = false → Q) : mif b P Q := by
  cases b
  · exact k2 rfl
  · exact k1 rfl
theorem mset_same {mi : mMi} {f i j p : Nat} {v : Int32} : mset mi f i j p v f i j p = v := by
  unfold mset
  rw [mBeqT, Bool.true_and, Nat.beq_refl]
theorem mset_np {mi : mMi} {f i j p f' i' j' p' : Nat} {v : Int32} (h : ¬ (f' = f ∧ i' = i ∧ j' = j ∧ p' = p)) : mset mi f i j p v f' i' j' p' = mi f' i' j' p' := by
  unfold mset
  have : (Nat.beq f f' && Nat.beq i i' && Nat.beq j j' && Nat.beq p p') = false := by
    rw [Bool.eq_false_iff]
    intro e
    simp only [Bool.and_eq_true] at e
    exact h ⟨(Nat.eq_of_beq_eq_true e.1.1.1).symm, (Nat.eq_of_beq_eq_true e.1.1.2).symm, (Nat.eq_of_beq_eq_true e.1.2).symm, (Nat.eq_of_beq_eq_true e.2).symm⟩
  rw [this]
theorem mset_if {mi : mMi} {f i j p p' : Nat} {v : Int32} : mset mi f i j p v f i j p' = if p' = p then v else mi f i j p' := by
  by_cases h : p' = p
  · rw [if_pos h, h, mset_same]
  · rw [if_neg h, mset_np (fun q => h q.2.2.2)]
