/-! WHAT IS TOLD: four letters in a word. -/
theorem kwShw {w c : Nat} (h₁ : w < 8388608) (h₂ : c < 128) : ((N w <<< (N 8 &&& 31)) ||| N c) = N (w * 256 + c) := by
  apply Int32.toBitVec_inj.1
  apply BitVec.eq_of_toNat_eq
  have e₁ : ((N w <<< (N 8 &&& 31)) ||| N c).toBitVec = ((N w).toBitVec <<< 8) ||| (N c).toBitVec := rfl
  have e₂ : (N w).toBitVec.toNat = w := Nat.mod_eq_of_lt (show w < 2 ^ 32 by omega)
  have e₃ : (N c).toBitVec.toNat = c := Nat.mod_eq_of_lt (show c < 2 ^ 32 by omega)
  have e₄ : (N (w * 256 + c)).toBitVec.toNat = w * 256 + c := Nat.mod_eq_of_lt (show w * 256 + c < 2 ^ 32 by omega)
  have e₅ : w <<< 8 = w * 256 := Nat.shiftLeft_eq w 8
  have e₆ := Nat.shiftLeft_add_eq_or_of_lt (b := c) (i := 8) (show c < 2 ^ 8 by omega) w
  have e₇ : w * 256 % 2 ^ 32 = w * 256 := Nat.mod_eq_of_lt (show w * 256 < 2 ^ 32 by omega)
  rw [e₁, BitVec.toNat_or, BitVec.toNat_shiftLeft, e₂, e₃, e₄, e₅, e₇]
  rw [e₅] at e₆
  exact e₆.symm
theorem kwShr0 {v : Nat} (h : v < 2147483648) : ccSh 0 (N v) = N (v / 16777216) := by
  apply Int32.toInt_inj.1
  have e₁ : (ccSh 0 (N v)).toInt = ((N v).toBitVec.sshiftRight 24).toInt := rfl
  have e₂ : (N v).toBitVec.toInt = (v : Int) := N_toInt h
  have e₃ : ((2 ^ 24 : Nat) : Int) = 16777216 := rfl
  rw [e₁, BitVec.toInt_sshiftRight, e₂, N_toInt (by omega), Int.shiftRight_eq_div_pow]
  omega
theorem kwShr1 {v : Nat} (h : v < 2147483648) : ccSh 1 (N v) = N (v / 65536) := by
  apply Int32.toInt_inj.1
  have e₁ : (ccSh 1 (N v)).toInt = ((N v).toBitVec.sshiftRight 16).toInt := rfl
  have e₂ : (N v).toBitVec.toInt = (v : Int) := N_toInt h
  have e₃ : ((2 ^ 16 : Nat) : Int) = 65536 := rfl
  rw [e₁, BitVec.toInt_sshiftRight, e₂, N_toInt (by omega), Int.shiftRight_eq_div_pow]
  omega
theorem kwShr2 {v : Nat} (h : v < 2147483648) : ccSh 2 (N v) = N (v / 256) := by
  apply Int32.toInt_inj.1
  have e₁ : (ccSh 2 (N v)).toInt = ((N v).toBitVec.sshiftRight 8).toInt := rfl
  have e₂ : (N v).toBitVec.toInt = (v : Int) := N_toInt h
  have e₃ : ((2 ^ 8 : Nat) : Int) = 256 := rfl
  rw [e₁, BitVec.toInt_sshiftRight, e₂, N_toInt (by omega), Int.shiftRight_eq_div_pow]
  omega
theorem kwLo {u : Nat} (h : u < 2147483648) (h₁ : u % 256 < 128) : Int8.toInt32 (Int32.toInt8 (N u)) = N (u % 256) := by
  apply Int32.toInt_inj.1
  rw [Int8.toInt_toInt32, Int32.toInt_toInt8, N_toInt h, N_toInt (by omega)]
  have e₁ : Int.bmod (u : Int) (2 ^ 8) = if (u : Int) % 256 < (256 + 1) / 2 then (u : Int) % 256 else (u : Int) % 256 - 256 := rfl
  rw [e₁, if_pos (by omega)]
  omega
/-- a word of four letters -/
def kwWd4 (a b c d : Nat) : Nat := ((a * 256 + b) * 256 + c) * 256 + d
theorem kwWd4_b {a b c d : Nat} (h₁ : a < 128) (h₂ : b < 128) (h₃ : c < 128) (h₄ : d < 128) : Int8.toInt32 (Int32.toInt8 (ccSh 0 (N (kwWd4 a b c d)))) = N a ∧ Int8.toInt32 (Int32.toInt8 (ccSh 1 (N (kwWd4 a b c d)))) = N b ∧ Int8.toInt32 (Int32.toInt8 (ccSh 2 (N (kwWd4 a b c d)))) = N c ∧ Int8.toInt32 (Int32.toInt8 (ccSh 3 (N (kwWd4 a b c d)))) = N d := by
  have e : kwWd4 a b c d = ((a * 256 + b) * 256 + c) * 256 + d := rfl
  have g : kwWd4 a b c d < 2147483648 := by omega
  have f₀ : kwWd4 a b c d / 16777216 % 256 = a := by omega
  have f₁ : kwWd4 a b c d / 65536 % 256 = b := by omega
  have f₂ : kwWd4 a b c d / 256 % 256 = c := by omega
  have f₃ : kwWd4 a b c d % 256 = d := by omega
  refine ⟨?_, ?_, ?_, ?_⟩
  · rw [kwShr0 g, kwLo (by omega) (by omega), f₀]
  · rw [kwShr1 g, kwLo (by omega) (by omega), f₁]
  · rw [kwShr2 g, kwLo (by omega) (by omega), f₂]
  · rw [ccSh3, kwLo (by omega) (by omega), f₃]
