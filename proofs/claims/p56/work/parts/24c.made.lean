/-! WHAT IS MADE ON THE WAY: a cell named by its number. -/
/-- a cell of kind kd and length n is made: s slots -/
def rsA (rs : mRs) (kd n s : Nat) : mRs := (rs.1, (rs.2.1.1, (fun a => match Nat.beq rs.2.2.1 a with
  | true => some (kd, n)
  | false => rs.2.1.2.1 a), rs.2.1.2.2), rs.2.2.1 + 1, rs.2.2.2.1 + 1, rs.2.2.2.2 + s)
/-- the next cell is named by its number -/
def nOk (rs : mRs) : Bool := decide (mNam rs.1 rs.2.2.1 = (9, rs.2.2.1, 0))
/-- the text of a cell's row is told -/
def dyV (dy : mDy) (a v : Nat) : mDy := (dy.1, dy.2.1, fun a' => match Nat.beq a a' with
  | true => v
  | false => dy.2.2 a')
theorem SHd_ext {b : Bool} {L f i j : Nat} {dy dy' : mDy} (h1 : dy.1 = dy'.1) (h2 : f = 9 → j = 0 → dy.2.1 i = dy'.2.1 i) : SHd b L dy f i j = SHd b L dy' f i j := by
  unfold SHd
  rw [h1]
  split
  · rfl
  · split
    · rfl
    · split
      · rfl
      · rfl
      · rfl
      · split
        · exact h2 rfl rfl
        · rfl
      · rfl
theorem RFd_ext {b : Bool} {f i j q : Nat} {dy dy' : mDy} (h2 : f = 9 → j = 0 → dy.2.2 i = dy'.2.2 i) : RFd b dy f i j q = RFd b dy' f i j q := by
  unfold RFd
  split
  · rfl
  · split
    · rfl
    · rfl
    · split
      · rw [h2 rfl rfl]
      · rfl
    · rfl
theorem shA {b : Bool} {L kd n s : Nat} {rs : mRs} : msset (SHd b L rs.2.1) 9 rs.2.2.1 0 (kd, n) = SHd b L (rsA rs kd n s).2.1 := by
  funext f i j
  by_cases h : f = 9 ∧ i = rs.2.2.1 ∧ j = 0
  · obtain ⟨rfl, rfl, rfl⟩ := h
    rw [msset_at]
    show _ = (match Nat.beq rs.2.2.1 rs.2.2.1 with
      | true => some (kd, n)
      | false => rs.2.1.2.1 rs.2.2.1)
    rw [Nat.beq_refl]
  · rw [msset_ne h]
    refine SHd_ext rfl fun e1 e2 => ?_
    show rs.2.1.2.1 i = (match Nat.beq rs.2.2.1 i with
      | true => some (kd, n)
      | false => rs.2.1.2.1 i)
    rw [mBeqF (fun e => h ⟨e1, e, e2⟩)]
theorem rfV {b : Bool} {a v : Nat} {dy : mDy} : mrset (RFd b dy) 9 a 0 0 (some (9, v, 0)) = RFd b (dyV dy a (v + 1)) := by
  funext f i j q
  by_cases h : f = 9 ∧ i = a ∧ j = 0
  · obtain ⟨rfl, rfl, rfl⟩ := h
    rw [mrset_at]
    unfold mUpR
    by_cases hq : q = 0
    · subst hq
      show _ = (match (match Nat.beq i i with
        | true => v + 1
        | false => dy.2.2 i) with
        | 0 => none
        | v + 1 => some (9, v, 0))
      rw [Nat.beq_refl]
      rfl
    · rw [if_neg hq]
      match q, hq with
      | 0, hq => exact absurd rfl hq
      | k + 1, _ => rfl
  · rw [mrset_ne h]
    exact RFd_ext fun e1 e2 => by
      show dy.2.2 i = (match Nat.beq a i with
        | true => v + 1
        | false => dy.2.2 i)
      rw [mBeqF (fun e => h ⟨e1, e, e2⟩)]
theorem WP_newarr {D m pc L : Nat} {b : Bool} {t : ArrayType} {z : Int32} {lo : mLo} {st : mSt} {mi : mMi} {rs : mRs} {K : mOut → mH → Prop} (hcd : cd m pc = some (.newarray t)) (hk : Nat.blt (mKind t) 99 = true) (hz : (!(decide (z < 0)) && Nat.ble (mix z) 100000) = true) (hn : nOk rs = true) :
    WP D m pc lo (mI z :: st) (hpX b L mi rs) K ↔ WP D m (pc + 2) lo (mR 9 rs.2.2.1 0 :: st) (hpX b L (mfill mi 9 rs.2.2.1 0 (mix z) 0) (rsA rs (mKind t) (mix z) (mix z))) K := by
  have hn : mNam rs.1 rs.2.2.1 = (9, rs.2.2.1, 0) := of_decide_eq_true hn
  have hg : (!(decide (z < 0)) && Nat.ble (mix z) 100000 && Nat.blt (mKind t) 99) = true := by rw [hz, hk]; rfl
  have e : ∀ n, wp (n + 1) D m pc lo (mI z :: st) (hpX b L mi rs) K ↔ wp n D m (pc + 2) lo (mR 9 rs.2.2.1 0 :: st) (hpX b L (mfill mi 9 rs.2.2.1 0 (mix z) 0) (rsA rs (mKind t) (mix z) (mix z))) K := fun n => by
    have h0 : wp (n + 1) D m pc lo (mI z :: st) (hpX b L mi rs) K ↔ (match mNam rs.1 rs.2.2.1 with
      | (f, i, j) => mck (!(decide (z < 0)) && Nat.ble (mix z) 100000 && Nat.blt (mKind t) 99) (wp n D m (pc + 2) lo (mR f i j :: st) ((msset (SHd b L rs.2.1) f i j (mKind t, mix z), RFd b rs.2.1), (mfill mi f i j (mix z) 0, (rs.1, rs.2.2.1 + 1, rs.2.2.2.1 + 1, rs.2.2.2.2 + mix z))) K)) := by
      show mexO (cd m pc) _ _ _ _ _ _ _ ↔ _
      rw [hcd]
      exact Iff.rfl
    rw [h0]
    rw [hn]
    dsimp only
    rw [hg, shA (s := mix z)]
    exact Iff.rfl
  exact (WP_k 1).trans ⟨fun ⟨n, hn⟩ => ⟨n, (e n).mp hn⟩, fun ⟨n, hn⟩ => ⟨n, (e n).mpr hn⟩⟩
