/-! TEXTS that are built: what a builder holds. -/
theorem kwFlR {mi : mMi} {f i j n f₁ i₁ j₁ p₁ : Nat} {v : Int32} : mfill mi f i j n v f₁ i₁ j₁ p₁ = if f₁ = f ∧ i₁ = i ∧ j₁ = j ∧ p₁ < n then v else mi f₁ i₁ j₁ p₁ := by
  unfold mfill
  by_cases g : f₁ = f ∧ i₁ = i ∧ j₁ = j ∧ p₁ < n
  · obtain ⟨g₁, g₂, g₃, g₄⟩ := g
    have e₁ : Nat.blt p₁ n = true := Nat.ble_eq_true_of_le g₄
    rw [if_pos ⟨g₁, g₂, g₃, g₄⟩, g₁, g₂, g₃, Nat.beq_refl, Nat.beq_refl, Nat.beq_refl, e₁]
    rfl
  · rw [if_neg g]
    have e₁ : (Nat.beq f f₁ && Nat.beq i i₁ && Nat.beq j j₁ && Nat.blt p₁ n) = false := by
      rw [Bool.eq_false_iff]
      intro e
      simp only [Bool.and_eq_true] at e
      exact g ⟨Eq.symm (Nat.eq_of_beq_eq_true e.1.1.1), Eq.symm (Nat.eq_of_beq_eq_true e.1.1.2), Eq.symm (Nat.eq_of_beq_eq_true e.1.2), Nat.le_of_ble_eq_true e.2⟩
    rw [e₁]
theorem kwCpR {mi : mMi} {f i j sp f₂ i₂ j₂ dp n f₁ i₁ j₁ p₁ : Nat} : mcopy mi f i j sp f₂ i₂ j₂ dp n f₁ i₁ j₁ p₁ = if f₁ = f₂ ∧ i₁ = i₂ ∧ j₁ = j₂ ∧ dp ≤ p₁ ∧ p₁ < dp + n then mi f i j (sp + (p₁ - dp)) else mi f₁ i₁ j₁ p₁ := by
  unfold mcopy
  by_cases g : f₁ = f₂ ∧ i₁ = i₂ ∧ j₁ = j₂ ∧ dp ≤ p₁ ∧ p₁ < dp + n
  · obtain ⟨g₁, g₂, g₃, g₄, g₅⟩ := g
    have e₁ : Nat.blt p₁ (dp + n) = true := Nat.ble_eq_true_of_le g₅
    have e₂ : Nat.ble dp p₁ = true := Nat.ble_eq_true_of_le g₄
    rw [if_pos ⟨g₁, g₂, g₃, g₄, g₅⟩, g₁, g₂, g₃, Nat.beq_refl, Nat.beq_refl, Nat.beq_refl, e₁, e₂]
    rfl
  · rw [if_neg g]
    have e₁ : (Nat.beq f₂ f₁ && Nat.beq i₂ i₁ && Nat.beq j₂ j₁ && Nat.ble dp p₁ && Nat.blt p₁ (dp + n)) = false := by
      rw [Bool.eq_false_iff]
      intro e
      simp only [Bool.and_eq_true] at e
      exact g ⟨Eq.symm (Nat.eq_of_beq_eq_true e.1.1.1.1), Eq.symm (Nat.eq_of_beq_eq_true e.1.1.1.2), Eq.symm (Nat.eq_of_beq_eq_true e.1.1.2), Nat.le_of_ble_eq_true e.1.2, Nat.le_of_ble_eq_true e.2⟩
    rw [e₁]
theorem kwPutR {mi : mMi} {k f i j dp f₁ i₁ j₁ p₁ : Nat} : mput mi k f i j dp f₁ i₁ j₁ p₁ = if f₁ = f ∧ i₁ = i ∧ j₁ = j ∧ dp ≤ p₁ ∧ p₁ < dp + (mTxt k).length then (mTxt k).getD (p₁ - dp) 0 else mi f₁ i₁ j₁ p₁ := by
  unfold mput
  by_cases g : f₁ = f ∧ i₁ = i ∧ j₁ = j ∧ dp ≤ p₁ ∧ p₁ < dp + (mTxt k).length
  · obtain ⟨g₁, g₂, g₃, g₄, g₅⟩ := g
    have e₁ : Nat.blt p₁ (dp + (mTxt k).length) = true := Nat.ble_eq_true_of_le g₅
    have e₂ : Nat.ble dp p₁ = true := Nat.ble_eq_true_of_le g₄
    rw [if_pos ⟨g₁, g₂, g₃, g₄, g₅⟩, g₁, g₂, g₃, Nat.beq_refl, Nat.beq_refl, Nat.beq_refl, e₁, e₂]
    rfl
  · rw [if_neg g]
    have e₁ : (Nat.beq f f₁ && Nat.beq i i₁ && Nat.beq j j₁ && Nat.ble dp p₁ && Nat.blt p₁ (dp + (mTxt k).length)) = false := by
      rw [Bool.eq_false_iff]
      intro e
      simp only [Bool.and_eq_true] at e
      exact g ⟨Eq.symm (Nat.eq_of_beq_eq_true e.1.1.1.1), Eq.symm (Nat.eq_of_beq_eq_true e.1.1.1.2), Eq.symm (Nat.eq_of_beq_eq_true e.1.1.2), Nat.le_of_ble_eq_true e.1.2, Nat.le_of_ble_eq_true e.2⟩
    rw [e₁]
/-- a new row of any kind -/
theorem kwBk' {m : mMi} {r : mRs} {a kd : Nat} {k : Nat → mMi → mRs → mRz} (h₁ : nOk r = true) (h₂ : a ≤ 100000) : bN kd (N a) m r k = k r.2.2.1 (mfill m 9 r.2.2.1 0 a 0) (rsA r kd a a) := by
  have e₁ : decide (N a < 0) = false := by
    have e₃ : (0 : Int32) = N 0 := rfl
    rw [e₃]
    have e₄ : ¬ N a < N 0 := by rw [N_lt (by omega) (by omega)]; omega
    rw [decide_eq_false e₄]
  have e₂ : Nat.ble a 100000 = true := Nat.ble_eq_true_of_le h₂
  unfold bN
  rw [e₁, mix_N (by omega), e₂, h₁]
  rfl
theorem kwBk {m : mMi} {r : mRs} {a kd : Nat} {k : Nat → mMi → mRs → mRz} (h₁ : kwNx r) (h₂ : a ≤ 100000) : bN kd (N a) m r k = k r.2.2.1 (mfill m 9 r.2.2.1 0 a 0) (rsA r kd a a) := kwBk' (kwNx_ok h₁) h₂
theorem kwBo {m : mMi} {r : mRs} {ci n : Nat} {k : Nat → mMi → mRs → mRz} (h₁ : kwNx r) : bNo ci n m r k = k r.2.2.1 (mfill m 9 r.2.2.1 0 n 0) (rsO r ci n) := by
  unfold bNo
  rw [kwNx_ok h₁]
  rfl
theorem kwRs_V {r : mRs} {a v : Nat} : kwRs 0 0 r (rsV r a v) := ⟨rfl, rfl, Nat.le_refl _, Nat.le_refl _, Nat.le_refl _, fun _ _ => rfl⟩
theorem kwO_kd {r : mRs} {ci n : Nat} : (rsO r ci n).2.1.2.1 r.2.2.1 = some (ci, 0) := by
  have e : Nat.beq r.2.2.1 r.2.2.1 = true := Nat.beq_refl _
  unfold rsO
  dsimp only
  rw [e]
theorem kwV_v {r : mRs} {a v : Nat} : (rsV r a v).2.1.2.2 a = v + 1 := by
  have e : Nat.beq a a = true := Nat.beq_refl _
  unfold rsV dyV
  dsimp only
  rw [e]
theorem kwV_n {r : mRs} {a v b : Nat} (h : b ≠ a) : (rsV r a v).2.1.2.2 b = r.2.1.2.2 b := by
  have e : Nat.beq a b = false := Bool.eq_false_iff.mpr (fun y => h (Eq.symm (Nat.eq_of_beq_eq_true y)))
  unfold rsV dyV
  dsimp only
  rw [e]
theorem kwO_n {r : mRs} {ci n b : Nat} (h : b ≠ r.2.2.1) : (rsO r ci n).2.1.2.2 b = r.2.1.2.2 b := by
  have e : Nat.beq r.2.2.1 b = false := Bool.eq_false_iff.mpr (fun y => h (Eq.symm (Nat.eq_of_beq_eq_true y)))
  unfold rsO
  dsimp only
  rw [e]
theorem kwObj {o : Option (Nat × Nat)} {c n : Nat} {x : mRz} (h : o = some (c, n)) : mckO (mIsObj o c) x = x := by
  rw [h]
  unfold mIsObj
  dsimp only
  rw [Nat.beq_refl]
  rfl
theorem kwGw {v : Nat} {F : Nat → mRz} : mGwO (v + 1) F = F v := rfl
theorem kwLn {n : Nat} {F : Nat → mRz} : mLnO (some (22, n)) F = F n := rfl
theorem kwLn20 {n : Nat} {F : Nat → mRz} : mLnO (some (20, n)) F = F n := rfl
theorem kwOf {n : Nat} : Int32.ofNat n = N n := rfl
theorem kwShr {x : Int32} : x >>> (N 0 &&& 31) = x := by
  have e : N 0 &&& 31 = 0 := by decide
  rw [e]
  exact Int32.shiftRight_zero
theorem kwShl {x : Int32} : x <<< (N 0 &&& 31) = x := by
  have e : N 0 &&& 31 = 0 := by decide
  rw [e]
  exact Int32.shiftLeft_zero
/-- what lies below n₀ stays -/
def kwOp (n₀ : Nat) (r : mRs) (m M : mMi) (R : mRs) : Prop := (∀ f i j p, ¬ (f = 9 ∧ n₀ ≤ i) → M f i j p = m f i j p) ∧ ∀ b, b < n₀ → R.2.1.2.2 b = r.2.1.2.2 b
theorem kwOp_trans {n₀ : Nat} {r r₁ r₂ : mRs} {m m₁ m₂ : mMi} (h₁ : kwOp n₀ r m m₁ r₁) (h₂ : kwOp n₀ r₁ m₁ m₂ r₂) : kwOp n₀ r m m₂ r₂ := ⟨fun f i j p y => Eq.trans (h₂.1 f i j p y) (h₁.1 f i j p y), fun b y => Eq.trans (h₂.2 b y) (h₁.2 b y)⟩
theorem kwOp_rfl {n₀ : Nat} {r : mRs} {m : mMi} : kwOp n₀ r m m r := ⟨fun _ _ _ _ _ => rfl, fun _ _ => rfl⟩
theorem kwOp_le {n₀ n₁ : Nat} {r r₁ : mRs} {m m₁ : mMi} (h₁ : kwOp n₁ r m m₁ r₁) (h₂ : n₀ ≤ n₁) : kwOp n₀ r m m₁ r₁ := ⟨fun f i j p y => h₁.1 f i j p (by omega), fun b y => h₁.2 b (by omega)⟩
/-- the builder a holds the text t, on a row of cap bytes; it was made when n₀ cells stood -/
def kwB (n₀ : Nat) (m : mMi) (r : mRs) (a cap : Nat) (t : List Nat) : Prop := ∃ v, (n₀ ≤ a ∧ a < r.2.2.1 ∧ n₀ ≤ v ∧ v < r.2.2.1 ∧ v ≠ a) ∧ r.2.1.2.1 a = some (14, 0) ∧ r.2.1.2.2 a = v + 1 ∧ r.2.1.2.1 v = some (22, cap) ∧ m 9 a 0 1 = N 0 ∧ m 9 a 0 3 = N t.length ∧ t.length ≤ cap ∧ cap ≤ 20000 ∧ (∀ k, k < cap → ∃ b, b < 128 ∧ m 9 v 0 k = N b) ∧ ∀ k, k < t.length → t.getD k 0 < 128 ∧ m 9 v 0 k = N (t.getD k 0)
theorem kwByte {b : Nat} (h : b < 128) : mByte1 (N b) = true := by
  have e₁ : (-128 : Int32) = I (-128) := rfl
  have e₂ : (127 : Int32) = N 127 := rfl
  have e₃ : I (-128) ≤ N b := by rw [← I_N, I_le (by omega) (by omega) (by omega) (by omega)]; omega
  have e₄ : N b ≤ N 127 := by rw [N_le (by omega) (by omega)]; omega
  unfold mByte1
  rw [e₁, e₂, decide_eq_true e₃, decide_eq_true e₄]
  rfl
theorem kwBytes {m : mMi} {v cap n : Nat} (h : ∀ k, k < cap → ∃ b, b < 128 ∧ m 9 v 0 k = N b) (h₁ : n ≤ cap) : mByteOk m 9 v 0 0 n = true := by
  unfold mByteOk
  rw [List.all_eq_true]
  intro q y
  have y₁ : q < n := List.mem_range.mp y
  obtain ⟨b, y₂, y₃⟩ := h q (by omega)
  have e₁ : 0 + q = q := by omega
  rw [e₁, y₃]
  exact kwByte y₂
theorem kwSpY {n a b : Nat} (h : a + b ≤ n) (h₁ : n ≤ 100000) : mSpanY (some (22, n)) (N a) (N b) = true := by
  have e₀ : (0 : Int32) = N 0 := rfl
  have e₁ : ¬ N a < N 0 := by rw [N_lt (by omega) (by omega)]; omega
  have e₂ : ¬ N b < N 0 := by rw [N_lt (by omega) (by omega)]; omega
  have e₃ : Nat.ble (a + b) n = true := Nat.ble_eq_true_of_le h
  show (!(decide (N a < 0)) && !(decide (N b < 0)) && Nat.ble (mix (N a) + mix (N b)) n) = true
  rw [e₀, mix_N (by omega), mix_N (by omega), decide_eq_false e₁, decide_eq_false e₂, e₃]
  rfl
theorem kwBr {a : Nat} {m : mMi} {r : mRs} {k : Nat → mMi → mRs → mRz} : bR (some (.inl (some (mR 9 a 0)), m, r)) k = k a m r := by
  show mckO (decide (((9, a, 0) : Nat × Nat × Nat) = (9, a, 0))) (k a m r) = k a m r
  rw [decide_eq_true rfl]
  rfl
theorem kwBp {ci a v n : Nat} {m : mMi} {r : mRs} {k : mMi → mRs → mRz} (h : r.2.1.2.1 a = some (ci, n)) : bP ci a v m r k = k m (rsV r a v) := kwObj h
