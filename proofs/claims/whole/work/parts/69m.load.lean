/-! CALLS: load. -/
theorem ccOneM {x y : Int32} {m m₂ : mMi} {rs : mRs} (h : rI x m rs = rI y m₂ rs) : m = m₂ := by
  injection h with h₁
  injection h₁ with h₂ h₃
  injection h₃
theorem ccOneX {x : Int32} {k : Nat} {m m₂ : mMi} {rs r₂ : mRs} (h : rI x m rs = rX k m₂ r₂) : False := by
  injection h with h₁
  injection h₁ with h₂ h₃
  cases h₂
theorem ccOneE {j k : Nat} {m m₂ : mMi} {r₁ r₂ : mRs} (h : rX j m r₁ = rX k m₂ r₂) : m = m₂ := by
  injection h with h₁
  injection h₁ with h₂ h₃
  injection h₃
/-- the reference, once it has read the text -/
def ccV176 (m : mMi) (r : mRs) : mRz := bV (F212 (mset m 4 0 0 1 (N 1)) r) (fun m r => some (.inl (some (mI (m 4 0 0 8))), (mset (mset (mset m 4 0 0 14 (N 0)) 4 0 6 0 (N 0)) 4 0 6 1 (N 0)), r))
def ccW176 (x : Int32) (m : mMi) (r : mRs) : mRz := bI (F178 x (N 2) m r) (fun v m r => mifO (decide (v = (N 0))) (ccV176 m r) (bV (F211 m r) (fun m r => some (.inl (some (mI (N 0))), m, r))))
def ccX176 (m : mMi) (r : mRs) : mRz := mifO (decide ((m 4 0 0 25) ≠ (N 0))) (mifO (decide (((mset m 4 0 0 18 (m 4 0 0 25)) 4 0 0 25) = (N 0))) (ccW176 (N 0) (mset (mset m 4 0 0 18 (m 4 0 0 25)) 4 0 0 19 ((mset m 4 0 0 18 (m 4 0 0 25)) 4 0 0 26)) r) (ccW176 (N 1) (mset (mset m 4 0 0 18 (m 4 0 0 25)) 4 0 0 19 ((mset m 4 0 0 18 (m 4 0 0 25)) 4 0 0 26)) r)) (mifO (decide (((mset m 4 0 0 18 (m 4 0 0 25)) 4 0 0 25) = (N 0))) (ccW176 (N 0) (mset (mset m 4 0 0 18 (m 4 0 0 25)) 4 0 0 19 (I (-1))) r) (ccW176 (N 1) (mset (mset m 4 0 0 18 (m 4 0 0 25)) 4 0 0 19 (I (-1))) r))
def ccY176 (x : Int32) (v : Int32) (m : mMi) (r : mRs) : mRz := mifO (decide (v = (N 0))) (bV (F179 (mset m 4 0 0 17 (N 0)) r) (fun m r => bV (F180 x m r) ccX176)) (some (.inl (some (mI (N 0))), m, r))
theorem ccE176w {x : Int32} {m : mMi} {rs : mRs} : F176 x m rs = bI (F177 x (N 0) (m 4 0 0 17) (mset m 4 0 0 0 (N 0)) rs) (fun v m r => mifO (decide (v ≠ (N 0))) (bI (F178 (N 0) (N 1) m r) (ccY176 x)) (bI (F178 (N 1) (N 1) m r) (ccY176 x))) := rfl
