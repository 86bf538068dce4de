/-! WHERE THE SYSTEM IS GOING TO LIE doesn't matter before it lies there. -/
def kwSx (A : Nat) (r : mRs) : mRs := ((A, r.1.2), r.2)
def kwAx (A : Nat) (r : mRs) (z z' : mRz) : Prop := ∀ (o : mOut) (m : mMi) (R : mRs), z = some (o, m, R) → r.2.2.1 ≤ R.2.2.1 ∧ (R.2.2.1 ≤ A → z' = some (o, m, kwSx A R))
def kwInd (X : mMi → mRs → mRz) : Prop := ∀ (A : Nat) (m : mMi) (r : mRs), kwAx A r (X m r) (X m (kwSx A r))
theorem kwAx_no {A : Nat} {r : mRs} {z : mRz} : kwAx A r none z := fun o m R y => by cases y
theorem kwAx_rt {A : Nat} {r : mRs} {o : mOut} {m : mMi} : kwAx A r (some (o, m, r)) (some (o, m, kwSx A r)) := fun o₁ m₁ R y => by
  cases y
  exact ⟨Nat.le_refl _, fun _ => rfl⟩
theorem kwAx_ck {A : Nat} {r : mRs} {c : Bool} {z z' : mRz} (h : kwAx A r z z') : kwAx A r (mckO c z) (mckO c z') := fun o m R y => by
  cases c
  · cases y
  · exact h o m R y
theorem kwAx_if {A : Nat} {r : mRs} {c : Bool} {x x' y y' : mRz} (h₁ : kwAx A r x x') (h₂ : kwAx A r y y') : kwAx A r (mifO c x y) (mifO c x' y') := fun o m R e => by
  cases c
  · exact h₂ o m R e
  · exact h₁ o m R e
theorem kwAx_I {A : Nat} {r : mRs} {X X' : mRz} {K K' : Int32 → mMi → mRs → mRz} (h : kwAx A r X X') (k : ∀ v m R, kwAx A R (K v m R) (K' v m (kwSx A R))) : kwAx A r (bI X K) (bI X' K') := fun o m R e => by
  rcases bI_some e with ⟨v, m₁, R₁, e₁, e₂⟩ | ⟨E, m₁, R₁, e₁, e₂⟩
  · obtain ⟨a₁, a₂⟩ := h _ _ _ e₁
    obtain ⟨b₁, b₂⟩ := k _ _ _ _ _ _ e₂
    refine ⟨Nat.le_trans a₁ b₁, fun g => ?_⟩
    rw [a₂ (Nat.le_trans b₁ g)]
    exact b₂ g
  · obtain ⟨a₁, a₂⟩ := h _ _ _ e₁
    cases e₂
    refine ⟨a₁, fun g => ?_⟩
    rw [a₂ g]
    rfl
theorem kwAx_V {A : Nat} {r : mRs} {X X' : mRz} {K K' : mMi → mRs → mRz} (h : kwAx A r X X') (k : ∀ m R, kwAx A R (K m R) (K' m (kwSx A R))) : kwAx A r (bV X K) (bV X' K') := fun o m R e => by
  rcases bV_some e with ⟨m₁, R₁, e₁, e₂⟩ | ⟨E, m₁, R₁, e₁, e₂⟩
  · obtain ⟨a₁, a₂⟩ := h _ _ _ e₁
    obtain ⟨b₁, b₂⟩ := k _ _ _ _ _ e₂
    refine ⟨Nat.le_trans a₁ b₁, fun g => ?_⟩
    rw [a₂ (Nat.le_trans b₁ g)]
    exact b₂ g
  · obtain ⟨a₁, a₂⟩ := h _ _ _ e₁
    cases e₂
    refine ⟨a₁, fun g => ?_⟩
    rw [a₂ g]
    rfl
theorem kwAx_R {A : Nat} {r : mRs} {X X' : mRz} {K K' : Nat → mMi → mRs → mRz} (h : kwAx A r X X') (k : ∀ v m R, kwAx A R (K v m R) (K' v m (kwSx A R))) : kwAx A r (bR X K) (bR X' K') := fun o m R e => by
  rcases bR_some e with ⟨v, m₁, R₁, e₁, e₂⟩ | ⟨E, m₁, R₁, e₁, e₂⟩
  · obtain ⟨a₁, a₂⟩ := h _ _ _ e₁
    obtain ⟨b₁, b₂⟩ := k _ _ _ _ _ _ e₂
    refine ⟨Nat.le_trans a₁ b₁, fun g => ?_⟩
    rw [a₂ (Nat.le_trans b₁ g), kwBr]
    exact b₂ g
  · obtain ⟨a₁, a₂⟩ := h _ _ _ e₁
    cases e₂
    refine ⟨a₁, fun g => ?_⟩
    rw [a₂ g]
    rfl
theorem kwAx_gw {A : Nat} {r : mRs} {v : Nat} {K K' : Nat → mRz} (k : ∀ n, kwAx A r (K n) (K' n)) : kwAx A r (mGwO v K) (mGwO v K') := fun o m R e => by
  cases v with
  | zero => cases e
  | succ v => exact k v o m R e
theorem kwAx_ln {A : Nat} {r : mRs} {v : Option (Nat × Nat)} {K K' : Nat → mRz} (k : ∀ n, kwAx A r (K n) (K' n)) : kwAx A r (mLnO v K) (mLnO v K') := fun o m R e => by
  cases v with
  | none => cases e
  | some v =>
    obtain ⟨kd, n⟩ := v
    exact kwAx_ck (k n) o m R e
theorem kwAx_P {A ci a v : Nat} {r : mRs} {m : mMi} {K K' : mMi → mRs → mRz} (k : ∀ m R, kwAx A R (K m R) (K' m (kwSx A R))) : kwAx A r (bP ci a v m r K) (bP ci a v m (kwSx A r) K') := fun o m₁ R e => by
  obtain ⟨e₁, e₂⟩ := mckO_some e
  obtain ⟨b₁, b₂⟩ := k _ _ _ _ _ e₂
  refine ⟨b₁, fun g => ?_⟩
  show mckO (mIsObj (r.2.1.2.1 a) ci) (K' m (kwSx A (rsV r a v))) = _
  rw [e₁]
  exact b₂ g
theorem kwSx_ok {A : Nat} {r : mRs} (h : nOk r = true) (g : r.2.2.1 < A) : nOk (kwSx A r) = true := by
  have h₁ : mNam r.1 r.2.2.1 = (9, r.2.2.1, 0) := of_decide_eq_true h
  refine decide_eq_true ?_
  show mNam (A, r.1.2) r.2.2.1 = (9, r.2.2.1, 0)
  unfold mNam at h₁ ⊢
  cases g₁ : Nat.beq r.2.2.1 0
  · rw [g₁] at h₁
    dsimp only at h₁ ⊢
    cases g₂ : (Nat.ble r.1.2 r.2.2.1 && Nat.blt r.2.2.1 (r.1.2 + 99))
    · have g₃ : Nat.ble A r.2.2.1 = false := by
        rw [Bool.eq_false_iff]
        intro y
        have := Nat.le_of_ble_eq_true y
        omega
      rw [g₃, Bool.false_and, Bool.and_false]
    · rw [g₂] at h₁
      exact h₁
  · rw [g₁] at h₁
    exact h₁
theorem kwAx_N {A kd : Nat} {x : Int32} {r : mRs} {m : mMi} {K K' : Nat → mMi → mRs → mRz} (k : ∀ n m R, kwAx A R (K n m R) (K' n m (kwSx A R))) : kwAx A r (bN kd x m r K) (bN kd x m (kwSx A r) K') := fun o m₁ R e => by
  obtain ⟨e₁, e₂⟩ := mckO_some e
  obtain ⟨b₁, b₂⟩ := k _ _ _ _ _ _ e₂
  have b₁ : r.2.2.1 + 1 ≤ R.2.2.1 := b₁
  refine ⟨by omega, fun g => ?_⟩
  rw [Bool.and_eq_true] at e₁
  obtain ⟨c₁, c₂⟩ := e₁
  show mckO ((!(decide (x < 0)) && Nat.ble (mix x) 100000) && nOk (kwSx A r)) (K' r.2.2.1 (mfill m 9 r.2.2.1 0 (mix x) 0) (kwSx A (rsA r kd (mix x) (mix x)))) = _
  rw [c₁, kwSx_ok c₂ (by omega)]
  exact b₂ g
theorem kwAx_C {A a : Nat} {r : mRs} {m : mMi} {K K' : Nat → mMi → mRs → mRz} (k : ∀ n m R, kwAx A R (K n m R) (K' n m (kwSx A R))) : kwAx A r (bC a m r K) (bC a m (kwSx A r) K') := fun o m₁ R e => by
  have e₀ : (kwSx A r).2.1.2.1 a = r.2.1.2.1 a := rfl
  unfold bC at e ⊢
  rw [e₀]
  cases g₀ : r.2.1.2.1 a with
  | none =>
    rw [g₀] at e
    cases e
  | some v =>
    obtain ⟨kd, n⟩ := v
    rw [g₀] at e
    obtain ⟨e₁, e₂⟩ := mckO_some e
    obtain ⟨b₁, b₂⟩ := k _ _ _ _ _ _ e₂
    have b₁ : r.2.2.1 + 1 ≤ R.2.2.1 := b₁
    refine ⟨by omega, fun g => ?_⟩
    rw [Bool.and_eq_true] at e₁
    obtain ⟨c₁, c₂⟩ := e₁
    show mckO ((Nat.beq kd 22 && Nat.ble n 100000 && mByteOk m 9 a 0 0 n) && nOk (kwSx A r)) (K' r.2.2.1 (mcopy m 9 a 0 0 9 r.2.2.1 0 0 n) (kwSx A (rsA r 22 n n))) = _
    rw [c₁, kwSx_ok c₂ (by omega)]
    exact b₂ g
