/-! new World(..), as a function of the memory. -/
theorem hq_eqm {b : Bool} {n : Nat} {mi : mMi} {rs : mRs} : hq (b, n, none) mi rs = ((SHd b n rs.2.1, RFd b rs.2.1), (mi, (rs.1, rs.2.2))) := hq_n
theorem wp_newW {D m pc ix n : Nat} {b : Bool} {lo : mLo} {st : mSt} {mi : mMi} {rs : mRs} {K : mOut → mH → Prop} (hcd : cd m pc = some (.new ix)) (hN : mNew (mOwn m) ix = some (13, 22)) (hC : 0 < rs.2.2.1) (h : WP D m (pc + 3) lo (mR 6 rs.2.2.1 0 :: st) (hq (ovW b n rs.2.1 rs.2.2.1) (mfill mi 6 rs.2.2.1 0 22 0) (rs0W rs)) K) :
    WP D m pc lo st (hq (b, n, none) mi rs) K := by
  rw [hq_eqm]
  obtain ⟨⟨A, w⟩, dy, nx, c, s⟩ := rs
  have hm : mNam (A, nx) nx = (6, nx, 0) := wNam (A := A) (B := nx) (k := 0) hC (by omega)
  refine sStep (pc' := pc + 3) (lo' := lo) (st' := mR 6 nx 0 :: st) (h' := hq (ovW b n dy nx) (mfill mi 6 nx 0 22 0) (rs0W ((A, w), dy, nx, c, s))) hcd rfl (fun k => ?_) h
  unfold mx
  dsimp only
  rw [hN]
  show (match mNam (A, nx) nx with
    | (f, i, j) => k (Sum.inl (pc + 3, lo, mR f i j :: st, ((msset (SHd b n dy) f i j (13, 0), fun f' i' j' p' => match Nat.beq f f' && Nat.beq i i' && Nat.beq j j' with
      | true => none
      | false => RFd b dy f' i' j' p'), (mfill mi f i j 22 0, ((A, nx), nx + 1, c + 1, s + 22)))))) = _
  rw [hm]
  dsimp only
  have e1 : msset (SHd b n dy) 6 nx 0 (13, 0) = SHq (ovW b n dy nx) dy := by
    funext f i j
    rw [ovW_sh rfl, msset_if]
  have e2 : (fun f' i' j' p' => match Nat.beq 6 f' && Nat.beq nx i' && Nat.beq 0 j' with
      | true => none
      | false => RFd b dy f' i' j' p') = RFq (ovW b n dy nx) dy := by
    funext f i j q
    rw [ovW_rf]
    show (match Nat.beq 6 f && Nat.beq nx i && Nat.beq 0 j with
      | true => none
      | false => RFd b dy f i j q) = _
    refine Eq.trans (mb3_if (u := none)) ?_
    by_cases g : f = 6 ∧ i = nx ∧ j = 0
    · rw [if_pos g, if_pos ⟨g.1.symm, g.2.1.symm, g.2.2.symm⟩]
    · rw [if_neg g, if_neg (fun z => g ⟨z.1.symm, z.2.1.symm, z.2.2.symm⟩)]
  rw [e1]
  exact congrArg (fun x : Nat → Nat → Nat → Nat → Option mRf => k (Sum.inl (pc + 3, lo, mR 6 nx 0 :: st, ((SHq (ovW b n dy nx) dy, x), (mfill mi 6 nx 0 22 0, ((A, nx), nx + 1, c + 1, s + 22)))))) e2
noncomputable def nWm (T : mMi → mRs → mRz) (mi : mMi) (rs : mRs) : Option (Nat × mMi × mRs) := match H200 (rs.2.2.1 + 1) 12 (mfill (mfill mi 6 rs.2.2.1 0 22 0) 9 (rs.2.2.1 + 1) 0 4 0) (rsO (rs0W rs) 14 4) with
  | some (.inl none, m2, r2) => @ite _ (0 < rs.2.2.1 ∧ r2.1 = (rs.1.1, rs.2.2.1) ∧ r2.2.2.1 = rs.2.2.1 + 3 ∧ r2.2.1.1 = rs.2.1.1) (Classical.propDecidable _) (match T (miW rs.2.2.1 m2) (rsW rs.2.2.1 r2) with
    | some (.inl none, m3, r3) => some (rs.2.2.1, m3, r3)
    | _ => none) none
  | _ => none
noncomputable def nWc (B : Nat) (mi : mMi) (rs : mRs) : Option (Nat × mMi × mRs) := nWm (H198 rs.2.2.1 B) mi rs
noncomputable def nWd (L : Nat) (mi : mMi) (rs : mRs) : Option (Nat × mMi × mRs) := nWm (H172 L rs.2.2.1) mi rs
theorem nWm_some {T : mMi → mRs → mRz} {mi : mMi} {rs : mRs} {z : Nat × mMi × mRs} (h : nWm T mi rs = some z) : ∃ m2 r2, H200 (rs.2.2.1 + 1) 12 (mfill (mfill mi 6 rs.2.2.1 0 22 0) 9 (rs.2.2.1 + 1) 0 4 0) (rsO (rs0W rs) 14 4) = some (.inl none, m2, r2) ∧ 0 < rs.2.2.1 ∧ r2.1 = (rs.1.1, rs.2.2.1) ∧ r2.2.2.1 = rs.2.2.1 + 3 ∧ r2.2.1.1 = rs.2.1.1 ∧ T (miW rs.2.2.1 m2) (rsW rs.2.2.1 r2) = some (.inl none, z.2.1, z.2.2) ∧ z.1 = rs.2.2.1 := by
  unfold nWm at h
  split at h
  · rename_i m2 r2 e
    split at h
    · rename_i g
      split at h
      · rename_i m3 r3 e3
        cases h
        exact ⟨m2, r2, e, g.1, g.2.1, g.2.2.1, g.2.2.2, e3, rfl⟩
      · cases h
    · cases h
  · cases h
theorem bO_some {x : Option (Nat × mMi × mRs)} {k : Nat → mMi → mRs → mRz} {z : mZ3} (h : bO x k = some z) : ∃ a mi rs, x = some (a, mi, rs) ∧ k a mi rs = some z := by
  unfold bO at h
  split at h
  · exact ⟨_, _, _, rfl, h⟩
  · cases h
/-- a World's making, from its constructor's first instruction on -/
theorem wNew_172 {D n : Nat} {b : Bool} {mi m2 m3 : mMi} {rs r2 r3 : mRs} {K : mOut → mH → Prop} (hC : 0 < rs.2.2.1) (hT : H200 (rs.2.2.1 + 1) 12 (mfill (mfill mi 6 rs.2.2.1 0 22 0) 9 (rs.2.2.1 + 1) 0 4 0) (rsO (rs0W rs) 14 4) = some (.inl none, m2, r2)) (g1 : r2.1 = (rs.1.1, rs.2.2.1)) (g2 : r2.2.2.1 = rs.2.2.1 + 3) (g3 : r2.2.1.1 = rs.2.1.1) (hF : H172 n rs.2.2.1 (miW rs.2.2.1 m2) (rsW rs.2.2.1 r2) = some (.inl none, m3, r3)) (hD : 30 ≤ D) (hK : K (.inl none) (hq (b, n, none) m3 r3)) :
    WP (D + 1) 172 0 (mEntry 172 [mR 6 rs.2.2.1 0, mR 7 0 0]) [] (hq (ovW b n rs.2.1 rs.2.2.1) (mfill mi 6 rs.2.2.1 0 22 0) (rs0W rs)) K := by
  refine (WP_k 3).mpr ?_
  show WP (D + 1) 172 5 (mEntry 172 [mR 6 rs.2.2.1 0, mR 7 0 0]) [mR 6 rs.2.2.1 0] (hq (ovW b n rs.2.1 rs.2.2.1) (mfill mi 6 rs.2.2.1 0 22 0) (rs0W rs)) K
  have gn : nOk (rs0W rs) = true := by
    refine decide_eq_true ?_
    show mNam (rs.1.1, rs.2.2.1) (rs.2.2.1 + 1) = (9, rs.2.2.1 + 1, 0)
    rw [wNam hC (by omega)]
    rfl
  refine wp_newobj (ix := 7) rfl rfl rfl gn ?_
  refine (WP_k 3).mpr (ex_Bk.mpr ?_)
  refine (RH200 (rs.2.2.1 + 1) 12 (ovW b n rs.2.1 rs.2.2.1) _ _) _ hT D _ (by omega) ?_
  show WP (D + 1) 172 14 (mEntry 172 [mR 6 rs.2.2.1 0, mR 7 0 0]) [mR 9 (rs.2.2.1 + 1) 0, mR 6 rs.2.2.1 0] (hq (ovW b n rs.2.1 rs.2.2.1) m2 r2) K
  exact wMade_172 hC g3 g1 g2 (RH172 rs.2.2.1 (b, n) _ _ D K (by omega) _ hF hK)
/-- a World's making, from its constructor's first instruction on -/
theorem wNew_198 {D n : Nat} {b : Bool} {B : Nat} {mi m2 m3 : mMi} {rs r2 r3 : mRs} {K : mOut → mH → Prop} (hC : 0 < rs.2.2.1) (hT : H200 (rs.2.2.1 + 1) 12 (mfill (mfill mi 6 rs.2.2.1 0 22 0) 9 (rs.2.2.1 + 1) 0 4 0) (rsO (rs0W rs) 14 4) = some (.inl none, m2, r2)) (g1 : r2.1 = (rs.1.1, rs.2.2.1)) (g2 : r2.2.2.1 = rs.2.2.1 + 3) (g3 : r2.2.1.1 = rs.2.1.1) (hF : H198 rs.2.2.1 B (miW rs.2.2.1 m2) (rsW rs.2.2.1 r2) = some (.inl none, m3, r3)) (hD : 8 ≤ D) (hK : K (.inl none) (hq (b, n, none) m3 r3)) :
    WP (D + 1) 198 0 (mEntry 198 [mR 6 rs.2.2.1 0, mR 6 B 0]) [] (hq (ovW b n rs.2.1 rs.2.2.1) (mfill mi 6 rs.2.2.1 0 22 0) (rs0W rs)) K := by
  refine (WP_k 3).mpr ?_
  show WP (D + 1) 198 5 (mEntry 198 [mR 6 rs.2.2.1 0, mR 6 B 0]) [mR 6 rs.2.2.1 0] (hq (ovW b n rs.2.1 rs.2.2.1) (mfill mi 6 rs.2.2.1 0 22 0) (rs0W rs)) K
  have gn : nOk (rs0W rs) = true := by
    refine decide_eq_true ?_
    show mNam (rs.1.1, rs.2.2.1) (rs.2.2.1 + 1) = (9, rs.2.2.1 + 1, 0)
    rw [wNam hC (by omega)]
    rfl
  refine wp_newobj (ix := 7) rfl rfl rfl gn ?_
  refine (WP_k 3).mpr (ex_Bk.mpr ?_)
  refine (RH200 (rs.2.2.1 + 1) 12 (ovW b n rs.2.1 rs.2.2.1) _ _) _ hT D _ (by omega) ?_
  show WP (D + 1) 198 14 (mEntry 198 [mR 6 rs.2.2.1 0, mR 6 B 0]) [mR 9 (rs.2.2.1 + 1) 0, mR 6 rs.2.2.1 0] (hq (ovW b n rs.2.1 rs.2.2.1) m2 r2) K
  exact wMade_198 hC g3 g1 g2 (RH198 rs.2.2.1 B (b, n) _ _ D K (by omega) _ hF hK)
theorem Ok.mac242_295 {D B L : Nat} {l0 : Option mV} {lo : mLo} {st : mSt} {mi : mMi} {rs : mRs} {K : mOut → mH → Prop} {k : Nat → mMi → mRs → mRz} (hD : 12 ≤ D) (h : ∀ a mi rs, Ok (k a mi rs) (true, L, none) K (WP (D + 1) 242 303 (l0 :: some (mR 6 B 0) :: lo) (mR 6 a 0 :: st) (hq (true, L, none) mi rs) K)) (hst : mDeep (mR 6 rs.2.2.1 0 :: st) = true := by rfl) :
    Ok (bO (nWc B mi rs) k) (true, L, none) K (WP (D + 1) 242 295 (l0 :: some (mR 6 B 0) :: lo) st (hq (true, L, none) mi rs) K) := fun z e kk => by
  obtain ⟨a, m3, r3, e1, e2⟩ := bO_some e
  obtain ⟨m2, r2, hT, hC, g1, g2, g3, hF, ha⟩ := nWm_some e1
  cases D with
  | zero => omega
  | succ D =>
    refine wp_newW (ix := 132) rfl rfl hC ?_
    have hk := h a m3 r3 z e2 kk
    dsimp only at ha
    subst ha
    have h0 : WP (D + 1 + 1) 242 (295 + 3) (l0 :: some (mR 6 B 0) :: lo) (mR 6 rs.2.2.1 0 :: st) (hq (ovW true L rs.2.1 rs.2.2.1) (mfill mi 6 rs.2.2.1 0 22 0) (rs0W rs)) K ↔ (∃ n', mck (mDeep (mR 6 rs.2.2.1 0 :: st)) (wp n' (D + 1) 198 0 (mEntry 198 [mR 6 rs.2.2.1 0, mR 6 B 0]) [] (hq (ovW true L rs.2.1 rs.2.2.1) (mfill mi 6 rs.2.2.1 0 22 0) (rs0W rs)) (Bkn n' (D + 1 + 1) 242 303 (l0 :: some (mR 6 B 0) :: lo) (mR 6 rs.2.2.1 0 :: st) K))) := (WP_k 3).trans Iff.rfl
    rw [h0, hst]
    refine ex_Bk.mpr ?_
    exact wNew_198 hC hT g1 g2 g3 hF (by omega) hk
