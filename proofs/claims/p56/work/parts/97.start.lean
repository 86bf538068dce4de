/-! THE LAW's FIRST STEPS: the draws, the World, the object. -/
theorem kwSh7 {L : Nat} : msset (mSh0 L) 7 0 0 (12, 0) = SHd false L mDy0 := by
  funext f i j
  rw [msset_if]
  by_cases g : f = 7 ∧ i = 0 ∧ j = 0
  · rw [if_pos g]
    obtain ⟨rfl, rfl, rfl⟩ := g
    rfl
  · rw [if_neg g]
    by_cases h : f < 20
    · have h₁ : f = 0 ∨ f = 1 ∨ f = 2 ∨ f = 3 ∨ f = 4 ∨ f = 5 ∨ f = 6 ∨ f = 7 ∨ f = 8 ∨ f = 9 ∨ f = 10 ∨ f = 11 ∨ f = 12 ∨ f = 13 ∨ f = 14 ∨ f = 15 ∨ f = 16 ∨ f = 17 ∨ f = 18 ∨ f = 19 := by omega
      rcases h₁ with rfl | rfl | rfl | rfl | rfl | rfl | rfl | rfl | rfl | rfl | rfl | rfl | rfl | rfl | rfl | rfl | rfl | rfl | rfl | rfl
      · rfl
      · rfl
      · rfl
      · rfl
      · rfl
      · rfl
      · rfl
      · show none = (match i, j with
          | 0, 0 => some (12, 0)
          | _, _ => none)
        cases i with
        | zero =>
          cases j with
          | zero => exact absurd ⟨rfl, rfl, rfl⟩ g
          | succ j => rfl
        | succ i => rfl
      · rfl
      · show none = (match j with
          | 0 => none
          | _ => none)
        cases j <;> rfl
      · rfl
      · rfl
      · rfl
      · rfl
      · rfl
      · rfl
      · rfl
      · rfl
      · rfl
      · rfl
    · have e₁ : Nat.beq f 3 = false := mBeqF (by omega)
      have e₂ : Nat.blt f 3 = false := by
        rw [Bool.eq_false_iff]
        intro y
        have : f < 3 := Nat.le_of_ble_eq_true y
        omega
      have e₃ : Nat.blt f 20 = false := by
        rw [Bool.eq_false_iff]
        intro y
        have : f < 20 := Nat.le_of_ble_eq_true y
        omega
      unfold mSh0 SHd
      rw [e₁, e₂, e₃]
      rfl
theorem kwRf7 : mrset (fun f i j p => match Nat.beq 7 f && Nat.beq 0 i && Nat.beq 0 j with
    | true => none
    | false => RFd false mDy0 f i j p) 7 0 0 0 (some (3, 0, 0)) = RFd false mDy0 := by
  funext f i j q
  rw [mrset_if]
  by_cases g : f = 7 ∧ i = 0 ∧ j = 0 ∧ q = 0
  · rw [if_pos g]
    obtain ⟨rfl, rfl, rfl, rfl⟩ := g
    rfl
  · rw [if_neg g]
    have e : (match Nat.beq 7 f && Nat.beq 0 i && Nat.beq 0 j with
      | true => none
      | false => RFd false mDy0 f i j q) = if 7 = f ∧ 0 = i ∧ 0 = j then none else RFd false mDy0 f i j q := mb3_if
    rw [e]
    by_cases h : 7 = f ∧ 0 = i ∧ 0 = j
    · rw [if_pos h]
      obtain ⟨rfl, rfl, rfl⟩ := h
      cases q with
      | zero => exact absurd ⟨rfl, rfl, rfl, rfl⟩ g
      | succ q => rfl
    · rw [if_neg h]
/-- new Draws -/
theorem kwG0 {D L : Nat} {mi : mMi} {rm : (Nat × Nat) × Nat × Nat × Nat} {Q : mOut → mH → Prop} (hq : Q (.inl none) ((SHd false L mDy0, RFd false mDy0), (mi, rm))) : WP D 170 0 (mEntry 170 [mR 7 0 0, mR 3 0 0]) [] ((SHd false L mDy0, fun f i j p => match Nat.beq 7 f && Nat.beq 0 i && Nat.beq 0 j with
    | true => none
    | false => RFd false mDy0 f i j p), (mi, rm)) Q := by
  refine sAn (i := 0) rfl rfl ?_
  refine sObj rfl rfl rfl ?_
  refine sAn (i := 0) rfl rfl ?_
  refine sAn (i := 1) rfl rfl ?_
  refine sStep (pc' := 9) (lo' := mEntry 170 [mR 7 0 0, mR 3 0 0]) (st' := []) (h' := ((SHd false L mDy0, RFd false mDy0), (mi, rm))) rfl rfl (fun k => ?_) (sRet rfl rfl hq)
  show k (Sum.inl (9, mEntry 170 [mR 7 0 0, mR 3 0 0], [], ((SHd false L mDy0, mrset (fun f i j p => match Nat.beq 7 f && Nat.beq 0 i && Nat.beq 0 j with
    | true => none
    | false => RFd false mDy0 f i j p) 7 0 0 0 (some (3, 0, 0))), (mi, rm)))) = _
  rw [kwRf7]
theorem kwG1 {D A L : Nat} {xs : Nat → Int32} {Q : mOut → mH → Prop} (w : WP (D + 1) 245 9 [some (mR 3 0 0), some (mR 7 0 0), none, none, none, none] [] (hq (false, L, none) (mfill (mMi0 xs) 7 0 0 2 0) ((A, 0), mDy0, 1, 1, 2)) Q) : WP (D + 1) 245 0 (mEntry 245 [mR 3 0 0]) [] (hs0 A L xs) Q := by
  refine sStep (pc' := 3) (lo' := mEntry 245 [mR 3 0 0]) (st' := [mR 7 0 0]) (h' := ((msset (mSh0 L) 7 0 0 (12, 0), fun f i j p => match Nat.beq 7 f && Nat.beq 0 i && Nat.beq 0 j with
    | true => none
    | false => RFd false mDy0 f i j p), (mfill (mMi0 xs) 7 0 0 2 0, ((A, 0), 1, 1, 2)))) rfl rfl (fun k => rfl) ?_
  rw [kwSh7]
  refine sDup rfl ?_
  refine sAn (i := 0) rfl rfl ?_
  refine sCall1 rfl rfl rfl rfl rfl rfl (fun Q₂ h₂ => kwG0 h₂) ?_
  refine sStep (pc' := 9) (lo' := [some (mR 3 0 0), some (mR 7 0 0), none, none, none, none]) (st' := []) rfl rfl (fun k => rfl) ?_
  rw [hq_eqm] at w
  exact w
/-- new World -/
theorem kwG2 {D L : Nat} {mi m2 m3 : mMi} {rs r2 r3 : mRs} {Q : mOut → mH → Prop} (hC : 0 < rs.2.2.1) (hT : H200 (rs.2.2.1 + 1) 12 (mfill (mfill mi 6 rs.2.2.1 0 22 0) 9 (rs.2.2.1 + 1) 0 4 0) (rsO (rs0W rs) 14 4) = some (.inl none, m2, r2)) (g1 : r2.1 = (rs.1.1, rs.2.2.1)) (g2 : r2.2.2.1 = rs.2.2.1 + 3) (g3 : r2.2.1.1 = rs.2.1.1) (hF : H172 L rs.2.2.1 (miW rs.2.2.1 m2) (rsW rs.2.2.1 r2) = some (.inl none, m3, r3)) (hD : 30 ≤ D) (w : WP (D + 1 + 1) 245 18 [some (mR 3 0 0), some (mR 7 0 0), some (mR 6 rs.2.2.1 0), none, none, none] [] (hq (false, L, none) m3 r3) Q) : WP (D + 1 + 1) 245 9 [some (mR 3 0 0), some (mR 7 0 0), none, none, none, none] [] (hq (false, L, none) mi rs) Q := by
  refine wp_newW (ix := _) rfl rfl hC ?_
  refine sDup rfl ?_
  refine sAn (i := 1) rfl rfl ?_
  refine sCall1 rfl rfl rfl rfl rfl rfl (fun Q₂ h₂ => wNew_172 hC hT g1 g2 g3 hF hD h₂) ?_
  exact sStep (pc' := 18) (lo' := [some (mR 3 0 0), some (mR 7 0 0), some (mR 6 rs.2.2.1 0), none, none, none]) (st' := []) rfl rfl (fun k => rfl) w
/-- new CardCastle -/
theorem kwG3 {D L A B c s : Nat} {dy : mDy} {mi : mMi} {Q : mOut → mH → Prop} (hA : B + 99 ≤ A) (z : ccZr mi) (u : mi 2 3 0 4 = 0) (w : WP (D + 3 + 1) 245 26 [some (mR 3 0 0), some (mR 7 0 0), some (mR 6 B 0), some (mR 2 0 0), none, none] [] (hq (true, L, none) (mset mi 2 3 0 4 (I (-1))) ((A, B), dy, A + 219, c + 219, s + 12234)) Q) : WP (D + 3 + 1) 245 18 [some (mR 3 0 0), some (mR 7 0 0), some (mR 6 B 0), none, none, none] [] (hq (false, L, none) mi ((A, B), dy, A, c, s)) Q := by
  obtain ⟨E, hE⟩ : ∃ E : oEnv, E = (L, dy, (A, B), c, s) := ⟨_, rfl⟩
  have ok : oOk E := by
    rw [hE]
    exact hA
  have e₀ : hq (false, L, none) mi ((A, B), dy, A, c, s) = hc E 0 0 mi 0 := by
    rw [hq_eqm, hE]
    have y₁ : shK (L, dy, (A, B), c, s) 0 = SHd false L dy := by
      funext f i j
      unfold shK SHd
      cases g : Nat.blt f 3
      · rfl
      · show (match Nat.blt (mIv f i j) 0 with
          | true => SHc f i j
          | false => none) = none
        have g₁ : Nat.blt (mIv f i j) 0 = false := rfl
        rw [g₁]
    have y₂ : rfK (L, dy, (A, B), c, s) 0 = RFd false dy := by
      funext f i j q
      unfold rfK RFd
      cases g : Nat.blt f 3
      · rfl
      · show (match Nat.blt (oIx oRL f i j q 0) 0 with
          | true => RF f i j q
          | false => none) = none
        have g₁ : Nat.blt (oIx oRL f i j q 0) 0 = false := rfl
        rw [g₁]
    unfold hc
    rw [y₁, y₂]
    rfl
  have e₁ : hc E 219 258 (mset mi 2 3 0 4 (I (-1))) 12234 = hq (true, L, none) (mset mi 2 3 0 4 (I (-1))) ((A, B), dy, A + 219, c + 219, s + 12234) := by
    rw [hq_eqm]
    unfold hc
    rw [shK_end, rfK_end, hE]
  rw [← e₁] at w
  rw [e₀]
  refine sNew (f := 2) (i := 0) (j := 0) ok rfl rfl rfl rfl rfl (by decide) rfl (by decide +kernel) (fun p y => ?_) ?_
  · exact z 2 0 0 p (by omega) (by omega)
  refine sDup rfl ?_
  refine sCall0 rfl rfl rfl rfl rfl rfl (fun Q₂ h₂ => ccK98_1 ok z u h₂) ?_
  exact sStep (pc' := 26) (lo' := [some (mR 3 0 0), some (mR 7 0 0), some (mR 6 B 0), some (mR 2 0 0), none, none]) (st' := []) rfl rfl (fun k => rfl) w
