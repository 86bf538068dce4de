/-! A WORLD IS MADE: its cells, from its base on. -/
theorem st_na {D m pc f i j nx c s : Nat} {q : Nat × Nat} {t : ArrayType} {z : Int32} {lo : mLo} {st : mSt} {sh : Nat → Nat → Nat → Option (Nat × Nat)} {rf : Nat → Nat → Nat → Nat → Option mRf} {mi : mMi} {K : mOut → mH → Prop} (hcd : cd m pc = some (.newarray t)) (hn : mNam q nx = (f, i, j)) (hg : (!(decide (z < 0)) && Nat.ble (mix z) 100000 && Nat.blt (mKind t) 99) = true)
    (h : WP D m (pc + 2) lo (mR f i j :: st) ((msset sh f i j (mKind t, mix z), rf), (mfill mi f i j (mix z) 0, (q, nx + 1, c + 1, s + mix z))) K) : WP D m pc lo (mI z :: st) ((sh, rf), (mi, (q, nx, c, s))) K := sStep hcd rfl (fun k => by
  unfold mx
  dsimp only
  rw [hn]
  dsimp only
  rw [hg]
  rfl) h
theorem st_pr {D m pc ix ci qf f i j : Nat} {fin : Bool} {r : mRf} {lo : mLo} {st : mSt} {sh : Nat → Nat → Nat → Option (Nat × Nat)} {rf : Nat → Nat → Nat → Nat → Option mRf} {mi : mMi} {rm : mRm} {K : mOut → mH → Prop} (hcd : cd m pc = some (.putfield ix)) (hf : mFld (mOwn m) ix = some (ci, qf, 1, fin)) (hs : mIsObj (sh f i j) ci = true) (hg : (!fin || (mInit m && Nat.beq (mOwn m) ci)) = true)
    (h : WP D m (pc + 3) lo st ((sh, mrset rf f i j qf (some r)), (mi, rm)) K) : WP D m pc lo (.inr (.inl (some r)) :: mR f i j :: st) ((sh, rf), (mi, rm)) K := sStep hcd rfl (fun k => by
  unfold mx
  dsimp only
  rw [hf]
  dsimp only
  rw [hs, hg]
  rfl) h
theorem st_ma {D m pc ix j nx c s B : Nat} {q : Nat × Nat} {z y : Int32} {lo : mLo} {st : mSt} {sh : Nat → Nat → Nat → Option (Nat × Nat)} {rf : Nat → Nat → Nat → Nat → Option mRf} {mi : mMi} {K : mOut → mH → Prop} (hcd : cd m pc = some (.multianewarray ix 2)) (hm : mMul (mOwn m) ix = true) (hn : mNam q nx = (6, B, j)) (hz : mMsz j z y = true) (hx : nx = q.2 + mWat j) (hB : B = q.2)
    (h : WP D m (pc + 4) lo (mR 6 B j :: st) ((mshM sh B j (mix z) (mix y), mrfM rf B j (mix z)), (mmiM mi B j (mix z) (mix y), (q, nx + (1 + mix z), c + (1 + mix z), s + (mix z + mix z * mix y)))) K) : WP D m pc lo (mI y :: mI z :: st) ((sh, rf), (mi, (q, nx, c, s))) K := sStep hcd rfl (fun k => by
  show (match mNam q nx with
    | (f, i, j) => mck (mMul (mOwn m) ix && Nat.beq f 6 && mMsz j z y && Nat.beq nx (q.2 + mWat j) && Nat.beq i q.2) (k (.inl (pc + 4, lo, mR 6 i j :: st, ((mshM sh i j (mix z) (mix y), mrfM rf i j (mix z)), (mmiM mi i j (mix z) (mix y), (q, nx + (1 + mix z), c + (1 + mix z), s + (mix z + mix z * mix y)))))))) = _
  rw [hn]
  dsimp only
  have g : (mMul (mOwn m) ix && Nat.beq 6 6 && mMsz j z y && Nat.beq nx (q.2 + mWat j) && Nat.beq B q.2) = true := by
    rw [hm, hz, hx, hB]
    simp only [Nat.beq_refl, Bool.and_true]
  rw [g]
  rfl) h
/-- the names of a World's cells -/
theorem wNam {A B k : Nat} (hB : 0 < B) (hk : k < 99) : mNam (A, B) (B + k) = mWN B k := by
  unfold mNam
  have e0 : Nat.beq (B + k) 0 = false := by
    rw [Bool.eq_false_iff]
    intro e
    have := Nat.eq_of_beq_eq_true e
    omega
  have e1 : Nat.ble B (B + k) = true := Nat.ble_eq_true_of_le (Nat.le_add_right B k)
  have e2 : Nat.blt (B + k) (B + 99) = true := Nat.ble_eq_true_of_le (by omega)
  rw [e0]
  dsimp only
  rw [e1, e2]
  show mWN B (B + k - B) = _
  rw [Nat.add_sub_cancel_left]
theorem msset_if {sh : Nat → Nat → Nat → Option (Nat × Nat)} {f i j f' i' j' : Nat} {v : Nat × Nat} : msset sh f i j v f' i' j' = if f' = f ∧ i' = i ∧ j' = j then some v else sh f' i' j' := by
  by_cases h : f' = f ∧ i' = i ∧ j' = j
  · rw [if_pos h]
    obtain ⟨rfl, rfl, rfl⟩ := h
    exact msset_at
  · rw [if_neg h]
    exact msset_ne h
theorem mrset_if {rf : Nat → Nat → Nat → Nat → Option mRf} {f i j p f' i' j' p' : Nat} {v : Option mRf} : mrset rf f i j p v f' i' j' p' = if f' = f ∧ i' = i ∧ j' = j ∧ p' = p then v else rf f' i' j' p' := by
  by_cases h : f' = f ∧ i' = i ∧ j' = j
  · obtain ⟨rfl, rfl, rfl⟩ := h
    rw [mrset_at]
    unfold mUpR
    by_cases hp : p' = p
    · rw [if_pos hp, if_pos ⟨rfl, rfl, rfl, hp⟩]
    · rw [if_neg hp, if_neg (fun e => hp e.2.2.2)]
  · rw [mrset_ne h, if_neg (fun e => h ⟨e.1, e.2.1, e.2.2.1⟩)]
theorem mb3_if {α : Type} {a b c x y z : Nat} {u v : α} : (match Nat.beq x a && Nat.beq y b && Nat.beq z c with
  | true => u
  | false => v) = if x = a ∧ y = b ∧ z = c then u else v := by
  by_cases h : x = a ∧ y = b ∧ z = c
  · rw [if_pos h]
    obtain ⟨rfl, rfl, rfl⟩ := h
    rw [mBeqT]
  · rw [if_neg h]
    have e : (Nat.beq x a && Nat.beq y b && Nat.beq z c) = false := by
      rw [Bool.eq_false_iff]
      intro e
      simp only [Bool.and_eq_true] at e
      exact h ⟨Nat.eq_of_beq_eq_true e.1.1, Nat.eq_of_beq_eq_true e.1.2, Nat.eq_of_beq_eq_true e.2⟩
    rw [e]
theorem mshM_if {sh : Nat → Nat → Nat → Option (Nat × Nat)} {i j n n2 f' i' j' : Nat} : mshM sh i j n n2 f' i' j' = if f' = 6 ∧ i' = i ∧ j' = j then some (23, n) else if f' = 10 + j ∧ i' = i ∧ j' < n then some (20, n2) else sh f' i' j' := by
  unfold mshM
  refine Eq.trans (mb3_if (u := some (23, n))) ?_
  by_cases h : f' = 6 ∧ i' = i ∧ j' = j
  · rw [if_pos h, if_pos h]
  · rw [if_neg h, if_neg h]
    by_cases h2 : f' = 10 + j ∧ i' = i ∧ j' < n
    · rw [if_pos h2]
      obtain ⟨rfl, rfl, h3⟩ := h2
      have e : Nat.blt j' n = true := Nat.ble_eq_true_of_le h3
      rw [Nat.beq_refl, Nat.beq_refl, e]
      rfl
    · rw [if_neg h2]
      have e : (Nat.beq f' (10 + j) && Nat.beq i' i && Nat.blt j' n) = false := by
        rw [Bool.eq_false_iff]
        intro e
        simp only [Bool.and_eq_true] at e
        exact h2 ⟨Nat.eq_of_beq_eq_true e.1.1, Nat.eq_of_beq_eq_true e.1.2, Nat.le_of_ble_eq_true e.2⟩
      rw [e]
theorem mrfM_if {rf : Nat → Nat → Nat → Nat → Option mRf} {i j n f' i' j' p' : Nat} : mrfM rf i j n f' i' j' p' = if f' = 6 ∧ i' = i ∧ j' = j then some (10 + j, i, p') else rf f' i' j' p' := by
  unfold mrfM
  exact mb3_if
/-- the cells' numbers of a World that is made -/
def miW (C : Nat) (m : mMi) : mMi := mfill (mmiM (mmiM (mmiM (mmiM (mmiM (mmiM (mfill (mfill (mfill (mfill (mfill (mfill (mfill (mfill (mfill m 6 C 1 6 0) 6 C 2 40 0) 6 C 3 40 0) 6 C 4 40 0) 6 C 5 40 0) 6 C 6 40 0) 6 C 7 40 0) 6 C 8 40 0) 6 C 9 40 0) C 10 10 14) C 11 10 14) C 12 10 14) C 13 10 14) C 14 10 14) C 15 30 5) 6 C 16 4 0
/-- the World stands -/
def rsW (C : Nat) (r : mRs) : mRs := (r.1, ((fun i => match Nat.beq C i with
  | true => true
  | false => r.2.1.1 i), r.2.1.2), C + 99, r.2.2.2.1 + 96, r.2.2.2.2 + 1260)
/-- ahead of its rows: the World's own cell alone -/
def ovW (b : Bool) (n : Nat) (dy : mDy) (C : Nat) : mLb := (b, n, some (msset (SHd b n dy) 6 C 0 (13, 0), fun f' i' j' p' => match Nat.beq 6 f' && Nat.beq C i' && Nat.beq 0 j' with
  | true => none
  | false => RFd b dy f' i' j' p'))
def rs0W (rs : mRs) : mRs := ((rs.1.1, rs.2.2.1), rs.2.1, rs.2.2.1 + 1, rs.2.2.2.1 + 1, rs.2.2.2.2 + 22)
theorem ovW_sh {b : Bool} {n C : Nat} {dy dy' : mDy} (h1 : dy'.1 = dy.1) (f i j : Nat) : SHq (ovW b n dy C) dy' f i j = if f = 6 ∧ i = C ∧ j = 0 then some (13, 0) else SHd b n dy' f i j := by
  unfold SHq
  cases hb : Nat.beq f 6 || Nat.blt 19 f with
  | true =>
    show msset (SHd b n dy) 6 C 0 (13, 0) f i j = _
    rw [msset_if]
    by_cases h : f = 6 ∧ i = C ∧ j = 0
    · rw [if_pos h, if_pos h]
    · rw [if_neg h, if_neg h]
      refine SHd_ext h1.symm fun e => ?_
      subst e
      cases hb
  | false =>
    show SHd b n dy' f i j = _
    rw [if_neg]
    rintro ⟨rfl, _⟩
    cases hb
theorem ovW_rf {b : Bool} {n C : Nat} {dy dy' : mDy} (f i j q : Nat) : RFq (ovW b n dy C) dy' f i j q = if f = 6 ∧ i = C ∧ j = 0 then none else RFd b dy' f i j q := by
  unfold RFq
  cases hb : Nat.beq f 6 || Nat.blt 19 f with
  | true =>
    show (match Nat.beq 6 f && Nat.beq C i && Nat.beq 0 j with
      | true => none
      | false => RFd b dy f i j q) = _
    have e : (match Nat.beq 6 f && Nat.beq C i && Nat.beq 0 j with
      | true => none
      | false => RFd b dy f i j q) = if 6 = f ∧ C = i ∧ 0 = j then none else RFd b dy f i j q := mb3_if
    rw [e]
    by_cases h : f = 6 ∧ i = C ∧ j = 0
    · rw [if_pos h, if_pos ⟨h.1.symm, h.2.1.symm, h.2.2.symm⟩]
    · rw [if_neg h, if_neg (fun z => h ⟨z.1.symm, z.2.1.symm, z.2.2.symm⟩)]
      refine RFd_ext fun e => ?_
      subst e
      cases hb
  | false =>
    show RFd b dy' f i j q = _
    rw [if_neg]
    rintro ⟨rfl, _⟩
    cases hb
theorem st_al {D m pc f i j : Nat} {lo : mLo} {st : mSt} {h : mH} {K : mOut → mH → Prop} (hcd : cd m pc = some (.aload_n 0)) (hk : WP D m (pc + 1) (some (mR f i j) :: lo) (mR f i j :: st) h K) : WP D m pc (some (mR f i j) :: lo) st h K := sStep hcd rfl (fun k => by
  unfold mx
  rfl) hk
theorem st_bi {D m pc : Nat} {z : Int} {x : Int32} {lo : mLo} {st : mSt} {h : mH} {K : mOut → mH → Prop} (hcd : cd m pc = some (.bipush z)) (hz : (Int8.ofInt z).toInt32 = x) (hk : WP D m (pc + 2) lo (mI x :: st) h K) : WP D m pc lo st h K := sStep hcd rfl (fun k => by
  unfold mx
  dsimp only
  rw [hz]) hk
theorem st_ic {D m pc : Nat} {z : Int} {x : Int32} {lo : mLo} {st : mSt} {h : mH} {K : mOut → mH → Prop} (hcd : cd m pc = some (.iconst z)) (hz : Int32.ofInt z = x) (hk : WP D m (pc + 1) lo (mI x :: st) h K) : WP D m pc lo st h K := sStep hcd rfl (fun k => by
  unfold mx
  dsimp only
  rw [hz]) hk
theorem st_arr {D m p ix j x A C c s n : Nat} {z : Int} {lo : mLo} {sh : Nat → Nat → Nat → Option (Nat × Nat)} {rf : Nat → Nat → Nat → Nat → Option mRf} {mi : mMi} {K : mOut → mH → Prop} (h1 : cd m p = some (.aload_n 0)) (h2 : cd m (p + 1) = some (.bipush z)) (h3 : cd m (p + 1 + 2) = some (.newarray .int)) (h4 : cd m (p + 1 + 2 + 2) = some (.putfield ix)) (hf : mFld (mOwn m) ix = some (13, j, 1, true)) (hi : (mInit m && Nat.beq (mOwn m) 13) = true) (hz : (Int8.ofInt z).toInt32 = N n) (hn : n ≤ 1000) (hw : mWN C x = (6, C, j)) (hC : 0 < C) (hx : x < 99) (hj : j ≠ 0) (hs : sh 6 C 0 = some (13, 0))
    (h : (msset sh 6 C j (20, n)) 6 C 0 = some (13, 0) → WP D m (p + 8) (some (mR 6 C 0) :: lo) [] ((msset sh 6 C j (20, n), mrset rf 6 C 0 j (some (6, C, j))), (mfill mi 6 C j n 0, ((A, C), C + (x + 1), c + 1, s + n))) K) : WP D m p (some (mR 6 C 0) :: lo) [] ((sh, rf), (mi, ((A, C), C + x, c, s))) K := by
  have hs2 : (msset sh 6 C j (20, n)) 6 C 0 = some (13, 0) := by
    rw [msset_if, if_neg (fun e => hj e.2.2.symm)]
    exact hs
  have hm : mix (N n) = n := mix_N (by omega)
  refine st_al h1 (st_bi h2 hz (st_na (i := C) (j := j) (f := 6) h3 (by rw [wNam hC hx, hw]) ?_ ?_))
  · have e1 : ¬ N n < 0 := by
      have : (0 : Int32) = N 0 := rfl
      rw [this, N_lt (by omega) (by omega)]
      omega
    rw [decide_eq_false e1, hm, Nat.ble_eq_true_of_le (by omega : n ≤ 100000)]
    rfl
  · rw [hm]
    refine st_pr h4 hf (by show mIsObj ((msset sh 6 C j (20, n)) 6 C 0) 13 = true; rw [hs2]; rfl) ?_ (h hs2)
    rw [hi]
    rfl
theorem st_row {D m p ix ix2 j x A C c s nz ny : Nat} {z y : Int} {lo : mLo} {sh : Nat → Nat → Nat → Option (Nat × Nat)} {rf : Nat → Nat → Nat → Nat → Option mRf} {mi : mMi} {K : mOut → mH → Prop} (h1 : cd m p = some (.aload_n 0)) (h2 : cd m (p + 1) = some (.bipush z)) (h3 : cd m (p + 1 + 2) = some (.bipush y)) (h4 : cd m (p + 1 + 2 + 2) = some (.multianewarray ix2 2)) (h5 : cd m (p + 1 + 2 + 2 + 4) = some (.putfield ix)) (hl : mMul (mOwn m) ix2 = true) (hf : mFld (mOwn m) ix = some (13, j, 1, true)) (hi : (mInit m && Nat.beq (mOwn m) 13) = true) (hz : (Int8.ofInt z).toInt32 = N nz) (hy : (Int8.ofInt y).toInt32 = N ny) (hn : nz ≤ 1000 ∧ ny ≤ 1000) (hw : mWN C x = (6, C, j)) (hC : 0 < C) (hx : x < 99) (hxx : x = mWat j) (hj : j ≠ 0) (hms : mMsz j (N nz) (N ny) = true) (hs : sh 6 C 0 = some (13, 0))
    (h : (mshM sh C j nz ny) 6 C 0 = some (13, 0) → WP D m (p + 12) (some (mR 6 C 0) :: lo) [] ((mshM sh C j nz ny, mrset (mrfM rf C j nz) 6 C 0 j (some (6, C, j))), (mmiM mi C j nz ny, ((A, C), C + x + (1 + nz), c + (1 + nz), s + (nz + nz * ny)))) K) : WP D m p (some (mR 6 C 0) :: lo) [] ((sh, rf), (mi, ((A, C), C + x, c, s))) K := by
  have hs2 : (mshM sh C j nz ny) 6 C 0 = some (13, 0) := by
    rw [mshM_if, if_neg (fun e => hj e.2.2.symm), if_neg (fun e => by omega)]
    exact hs
  have hm : mix (N nz) = nz := mix_N (by omega)
  have hm2 : mix (N ny) = ny := mix_N (by omega)
  refine st_al h1 (st_bi h2 hz (st_bi h3 hy (st_ma (j := j) (B := C) h4 hl (by rw [wNam hC hx, hw]) hms (by rw [hxx]) rfl ?_)))
  rw [hm, hm2]
  refine st_pr h5 hf (by show mIsObj ((mshM sh C j nz ny) 6 C 0) 13 = true; rw [hs2]; rfl) ?_ (h hs2)
  rw [hi]
  rfl
theorem st_log {D m ix ix2 A C c s : Nat} {lo : mLo} {sh : Nat → Nat → Nat → Option (Nat × Nat)} {rf : Nat → Nat → Nat → Nat → Option mRf} {mi : mMi} {K : mOut → mH → Prop} (h1 : cd m 149 = some (.aload_n 0)) (h2 : cd m 150 = some (.bipush 30)) (h3 : cd m 152 = some (.iconst 5)) (h4 : cd m 153 = some (.multianewarray ix2 2)) (h5 : cd m 157 = some (.putfield ix)) (hl : mMul (mOwn m) ix2 = true) (hf : mFld (mOwn m) ix = some (13, 15, 1, true)) (hi : (mInit m && Nat.beq (mOwn m) 13) = true) (hC : 0 < C) (hs : sh 6 C 0 = some (13, 0))
    (h : (mshM sh C 15 30 5) 6 C 0 = some (13, 0) → WP D m 160 (some (mR 6 C 0) :: lo) [] ((mshM sh C 15 30 5, mrset (mrfM rf C 15 30) 6 C 0 15 (some (6, C, 15))), (mmiM mi C 15 30 5, ((A, C), C + 98, c + 31, s + 180))) K) : WP D m 149 (some (mR 6 C 0) :: lo) [] ((sh, rf), (mi, ((A, C), C + 67, c, s))) K := by
  have hs2 : (mshM sh C 15 30 5) 6 C 0 = some (13, 0) := by
    rw [mshM_if, if_neg (fun e => by omega), if_neg (fun e => by omega)]
    exact hs
  refine st_al h1 (st_bi (x := N 30) h2 rfl (st_ic (x := N 5) h3 rfl (st_ma (j := 15) (B := C) h4 hl (by rw [wNam hC (by omega)]; rfl) rfl rfl rfl ?_)))
  refine st_pr h5 hf (by show mIsObj ((mshM sh C 15 30 5) 6 C 0) 13 = true; rw [hs2]; rfl) ?_ (h hs2)
  rw [hi]
  rfl
theorem st_cau {D m ix A C c s : Nat} {lo : mLo} {sh : Nat → Nat → Nat → Option (Nat × Nat)} {rf : Nat → Nat → Nat → Nat → Option mRf} {mi : mMi} {K : mOut → mH → Prop} (h1 : cd m 160 = some (.aload_n 0)) (h2 : cd m 161 = some (.iconst 4)) (h3 : cd m 162 = some (.newarray .int)) (h4 : cd m 164 = some (.putfield ix)) (hf : mFld (mOwn m) ix = some (13, 16, 1, true)) (hi : (mInit m && Nat.beq (mOwn m) 13) = true) (hC : 0 < C) (hs : sh 6 C 0 = some (13, 0))
    (h : WP D m 167 (some (mR 6 C 0) :: lo) [] ((msset sh 6 C 16 (20, 4), mrset rf 6 C 0 16 (some (6, C, 16))), (mfill mi 6 C 16 4 0, ((A, C), C + 99, c + 1, s + 4))) K) : WP D m 160 (some (mR 6 C 0) :: lo) [] ((sh, rf), (mi, ((A, C), C + 98, c, s))) K := by
  have hs2 : (msset sh 6 C 16 (20, 4)) 6 C 0 = some (13, 0) := by
    rw [msset_if, if_neg (fun e => by omega)]
    exact hs
  refine st_al h1 (st_ic (x := N 4) h2 rfl (st_na (i := C) (j := 16) (f := 6) h3 (by rw [wNam hC (by omega)]; rfl) rfl ?_))
  refine st_pr h4 hf (by show mIsObj ((msset sh 6 C 16 (20, 4)) 6 C 0) 13 = true; rw [hs2]; rfl) ?_ h
  rw [hi]
  rfl
theorem wShp {b : Bool} {n C : Nat} {dy0 : mDy} {rs : mRs} (h1 : rs.2.1.1 = dy0.1) : (msset (mshM (mshM (mshM (mshM (mshM (mshM (msset (msset (msset (msset (msset (msset (msset (msset (msset (SHq (ovW b n dy0 C) rs.2.1) 6 C 1 (20, 6)) 6 C 2 (20, 40)) 6 C 3 (20, 40)) 6 C 4 (20, 40)) 6 C 5 (20, 40)) 6 C 6 (20, 40)) 6 C 7 (20, 40)) 6 C 8 (20, 40)) 6 C 9 (20, 40)) C 10 10 14) C 11 10 14) C 12 10 14) C 13 10 14) C 14 10 14) C 15 30 5) 6 C 16 (20, 4)) = SHd b n (rsW C rs).2.1 := by
  funext f i j
  simp only [msset_if, mshM_if, ovW_sh h1]
  by_cases hi : i = C
  · subst hi
    have hB : (rsW i rs).2.1.1 i = true := by
      show (match Nat.beq i i with
        | true => true
        | false => rs.2.1.1 i) = true
      rw [Nat.beq_refl]
    by_cases h6 : f = 6
    · subst h6
      rw [shR_6 hB]
      match j with
      | 0 => simp [SH6]
      | 1 => simp [SH6]
      | 2 => simp [SH6]
      | 3 => simp [SH6]
      | 4 => simp [SH6]
      | 5 => simp [SH6]
      | 6 => simp [SH6]
      | 7 => simp [SH6]
      | 8 => simp [SH6]
      | 9 => simp [SH6]
      | 10 => simp [SH6]
      | 11 => simp [SH6]
      | 12 => simp [SH6]
      | 13 => simp [SH6]
      | 14 => simp [SH6]
      | 15 => simp [SH6]
      | 16 => simp [SH6]
      | k + 17 =>
        have e : SHd b n rs.2.1 6 i (k + 17) = none := by
          show (match rs.2.1.1 i with
            | true => SH6.getD (k + 17) none
            | false => none) = none
          cases rs.2.1.1 i <;> rfl
        have e2 : SH6.getD (k + 17) none = none := rfl
        rw [e, e2]
        simp
    · by_cases h20 : 20 ≤ f ∧ f < 25
      · obtain ⟨q1, q2⟩ := h20
        by_cases hj : j < 10
        · rw [shR_20 hB q1 q2 hj]
          have h7 : f = 20 ∨ f = 21 ∨ f = 22 ∨ f = 23 ∨ f = 24 := by omega
          rcases h7 with h7 | h7 | h7 | h7 | h7 <;> subst h7 <;> simp [hj]
        · have e : ∀ dy : mDy, SHd b n dy f i j = none := fun dy => by
            unfold SHd
            have e1 : Nat.blt f 3 = false := by rw [Bool.eq_false_iff]; intro e; have : f < 3 := Nat.le_of_ble_eq_true e; omega
            have e2 : Nat.blt f 20 = false := by rw [Bool.eq_false_iff]; intro e; have : f < 20 := Nat.le_of_ble_eq_true e; omega
            have e3 : Nat.beq f 25 = false := mBeqF (by omega)
            have e4 : Nat.blt j 10 = false := by rw [Bool.eq_false_iff]; intro e; have : j < 10 := Nat.le_of_ble_eq_true e; omega
            rw [e1, e2, e3, e4, Bool.and_false]
            cases dy.1 i <;> rfl
          rw [e, e]
          have h7 : f = 20 ∨ f = 21 ∨ f = 22 ∨ f = 23 ∨ f = 24 := by omega
          rcases h7 with h7 | h7 | h7 | h7 | h7 <;> subst h7 <;> simp [hj]
      · by_cases h25 : f = 25
        · subst h25
          by_cases hj : j < 30
          · rw [shR_25 hB hj]
            simp [hj]
          · have e : ∀ dy : mDy, SHd b n dy 25 i j = none := fun dy => by
              show (match dy.1 i with
                | true => match Nat.blt j 30 with
                  | true => some (20, 5)
                  | false => none
                | false => none) = none
              have e4 : Nat.blt j 30 = false := by rw [Bool.eq_false_iff]; intro e; have : j < 30 := Nat.le_of_ble_eq_true e; omega
              rw [e4]
              cases dy.1 i <;> rfl
            rw [e, e]
            simp [hj]
        · have e : SHd b n rs.2.1 f i j = SHd b n (rsW i rs).2.1 f i j := by
            unfold SHd
            split
            · rfl
            · split
              · rename_i q3
                have e2 : ¬ f < 20 := fun q => by
                  have q4 : Nat.blt f 20 = true := Nat.ble_eq_true_of_le q
                  rw [q4] at q3
                  cases q3
                have e3 : Nat.beq f 25 = false := mBeqF (fun e => h25 e.symm)
                have e4 : Nat.blt f 25 = false := by rw [Bool.eq_false_iff]; intro e; have : f < 25 := Nat.le_of_ble_eq_true e; omega
                rw [e3, e4, Bool.false_and]
                cases rs.2.1.1 i <;> cases (rsW i rs).2.1.1 i <;> rfl
              · split
                · rfl
                · exact absurd rfl h6
                · rfl
                · rfl
                · rfl
          rw [← e]
          have g : ∀ q, f = q → 20 ≤ q → q < 26 → False := fun q z1 z2 z3 => by omega
          simp [h6, g 20, g 21, g 22, g 23, g 24, g 25, show f ≠ 20 by omega, show f ≠ 21 by omega, show f ≠ 22 by omega, show f ≠ 23 by omega, show f ≠ 24 by omega, show f ≠ 25 by omega]
  · have e : SHd b n rs.2.1 f i j = SHd b n (rsW C rs).2.1 f i j := by
      have e1 : (rsW C rs).2.1.1 i = rs.2.1.1 i := by
        show (match Nat.beq C i with
          | true => true
          | false => rs.2.1.1 i) = _
        rw [mBeqF hi]
      unfold SHd
      rw [e1]
      rfl
    rw [← e]
    simp [hi]
theorem wRfs {b : Bool} {n C : Nat} {dy0 : mDy} {rs : mRs} : (mrset (mrset (mrfM (mrset (mrfM (mrset (mrfM (mrset (mrfM (mrset (mrfM (mrset (mrfM (mrset (mrset (mrset (mrset (mrset (mrset (mrset (mrset (mrset (mrset (RFq (ovW b n dy0 C) rs.2.1) 6 C 0 0 (some (9, C + 1, 0))) 6 C 0 1 (some (6, C, 1))) 6 C 0 2 (some (6, C, 2))) 6 C 0 3 (some (6, C, 3))) 6 C 0 4 (some (6, C, 4))) 6 C 0 5 (some (6, C, 5))) 6 C 0 6 (some (6, C, 6))) 6 C 0 7 (some (6, C, 7))) 6 C 0 8 (some (6, C, 8))) 6 C 0 9 (some (6, C, 9))) C 10 10) 6 C 0 10 (some (6, C, 10))) C 11 10) 6 C 0 11 (some (6, C, 11))) C 12 10) 6 C 0 12 (some (6, C, 12))) C 13 10) 6 C 0 13 (some (6, C, 13))) C 14 10) 6 C 0 14 (some (6, C, 14))) C 15 30) 6 C 0 15 (some (6, C, 15))) 6 C 0 16 (some (6, C, 16))) = RFd b (rsW C rs).2.1 := by
  funext f i j q
  simp only [mrset_if, mrfM_if, ovW_rf]
  have e : RFd b (rsW C rs).2.1 f i j q = RFd b rs.2.1 f i j q := RFd_ext fun _ _ => rfl
  rw [e]
  by_cases hi : f = 6 ∧ i = C
  · obtain ⟨rfl, rfl⟩ := hi
    by_cases hj : j = 0
    · subst hj
      match q with
      | 0 =>
        have e3 : RFd b rs.2.1 6 i 0 0 = some (9, i + 1, 0) := rfl
        rw [e3]
        simp
      | 1 =>
        have e3 : RFd b rs.2.1 6 i 0 1 = some (6, i, 1) := rfl
        rw [e3]
        simp
      | 2 =>
        have e3 : RFd b rs.2.1 6 i 0 2 = some (6, i, 2) := rfl
        rw [e3]
        simp
      | 3 =>
        have e3 : RFd b rs.2.1 6 i 0 3 = some (6, i, 3) := rfl
        rw [e3]
        simp
      | 4 =>
        have e3 : RFd b rs.2.1 6 i 0 4 = some (6, i, 4) := rfl
        rw [e3]
        simp
      | 5 =>
        have e3 : RFd b rs.2.1 6 i 0 5 = some (6, i, 5) := rfl
        rw [e3]
        simp
      | 6 =>
        have e3 : RFd b rs.2.1 6 i 0 6 = some (6, i, 6) := rfl
        rw [e3]
        simp
      | 7 =>
        have e3 : RFd b rs.2.1 6 i 0 7 = some (6, i, 7) := rfl
        rw [e3]
        simp
      | 8 =>
        have e3 : RFd b rs.2.1 6 i 0 8 = some (6, i, 8) := rfl
        rw [e3]
        simp
      | 9 =>
        have e3 : RFd b rs.2.1 6 i 0 9 = some (6, i, 9) := rfl
        rw [e3]
        simp
      | 10 =>
        have e3 : RFd b rs.2.1 6 i 0 10 = some (6, i, 10) := rfl
        rw [e3]
        simp
      | 11 =>
        have e3 : RFd b rs.2.1 6 i 0 11 = some (6, i, 11) := rfl
        rw [e3]
        simp
      | 12 =>
        have e3 : RFd b rs.2.1 6 i 0 12 = some (6, i, 12) := rfl
        rw [e3]
        simp
      | 13 =>
        have e3 : RFd b rs.2.1 6 i 0 13 = some (6, i, 13) := rfl
        rw [e3]
        simp
      | 14 =>
        have e3 : RFd b rs.2.1 6 i 0 14 = some (6, i, 14) := rfl
        rw [e3]
        simp
      | 15 =>
        have e3 : RFd b rs.2.1 6 i 0 15 = some (6, i, 15) := rfl
        rw [e3]
        simp
      | 16 =>
        have e3 : RFd b rs.2.1 6 i 0 16 = some (6, i, 16) := rfl
        rw [e3]
        simp
      | k + 17 =>
        have e2 : RFd b rs.2.1 6 i 0 (k + 17) = none := rfl
        rw [e2]
        simp
    · by_cases h10 : 10 ≤ j ∧ j ≤ 15
      · have e2 : RFd b rs.2.1 6 i j q = some (10 + j, i, q) := by
          have h7 : j = 10 ∨ j = 11 ∨ j = 12 ∨ j = 13 ∨ j = 14 ∨ j = 15 := by omega
          rcases h7 with h7 | h7 | h7 | h7 | h7 | h7 <;> subst h7 <;> rfl
        rw [e2]
        have h7 : j = 10 ∨ j = 11 ∨ j = 12 ∨ j = 13 ∨ j = 14 ∨ j = 15 := by omega
        rcases h7 with h7 | h7 | h7 | h7 | h7 | h7 <;> subst h7 <;> simp
      · simp [hj, show j ≠ 10 by omega, show j ≠ 11 by omega, show j ≠ 12 by omega, show j ≠ 13 by omega, show j ≠ 14 by omega, show j ≠ 15 by omega]
  · have g : ∀ x y, ¬ (f = 6 ∧ i = C ∧ j = x ∧ q = y) := fun x y z => hi ⟨z.1, z.2.1⟩
    have g2 : ∀ x, ¬ (f = 6 ∧ i = C ∧ j = x) := fun x z => hi ⟨z.1, z.2.1⟩
    simp only [g, g2, if_false]
set_option maxRecDepth 20000 in
theorem wMade_172 {D A C n : Nat} {b : Bool} {dy0 : mDy} {lo : mLo} {mi : mMi} {rs : mRs} {K : mOut → mH → Prop} (hC : 0 < C) (h1 : rs.2.1.1 = dy0.1) (hq1 : rs.1 = (A, C)) (hnx : rs.2.2.1 = C + 3) (h : WP D 172 167 (some (mR 6 C 0) :: lo) [] (hq (b, n, none) (miW C mi) (rsW C rs)) K) : WP D 172 14 (some (mR 6 C 0) :: lo) [mR 9 (C + 1) 0, mR 6 C 0] (hq (ovW b n dy0 C) mi rs) K := by
  have hs0 : SHq (ovW b n dy0 C) rs.2.1 6 C 0 = some (13, 0) := by
    rw [ovW_sh h1, if_pos ⟨rfl, rfl, rfl⟩]
  have em : hq (ovW b n dy0 C) mi rs = ((SHq (ovW b n dy0 C) rs.2.1, RFq (ovW b n dy0 C) rs.2.1), (mi, ((A, C), C + 3, rs.2.2.2.1, rs.2.2.2.2))) := by
    show ((SHq (ovW b n dy0 C) rs.2.1, RFq (ovW b n dy0 C) rs.2.1), (mi, (rs.1, rs.2.2))) = _
    rw [hq1, ← hnx]
  rw [em]
  refine st_pr (m := 172) (pc := 14) (ix := 14) rfl rfl (by rw [hs0]; rfl) rfl ?_
  refine st_arr (m := 172) (p := 17) (x := 3) (n := 6) (j := 1) rfl rfl rfl rfl rfl rfl rfl (by omega) rfl hC (by omega) (by omega) hs0 ?_
  intro hs0
  refine st_arr (m := 172) (p := 25) (x := 4) (n := 40) (j := 2) rfl rfl rfl rfl rfl rfl rfl (by omega) rfl hC (by omega) (by omega) hs0 ?_
  intro hs0
  refine st_arr (m := 172) (p := 33) (x := 5) (n := 40) (j := 3) rfl rfl rfl rfl rfl rfl rfl (by omega) rfl hC (by omega) (by omega) hs0 ?_
  intro hs0
  refine st_arr (m := 172) (p := 41) (x := 6) (n := 40) (j := 4) rfl rfl rfl rfl rfl rfl rfl (by omega) rfl hC (by omega) (by omega) hs0 ?_
  intro hs0
  refine st_arr (m := 172) (p := 49) (x := 7) (n := 40) (j := 5) rfl rfl rfl rfl rfl rfl rfl (by omega) rfl hC (by omega) (by omega) hs0 ?_
  intro hs0
  refine st_arr (m := 172) (p := 57) (x := 8) (n := 40) (j := 6) rfl rfl rfl rfl rfl rfl rfl (by omega) rfl hC (by omega) (by omega) hs0 ?_
  intro hs0
  refine st_arr (m := 172) (p := 65) (x := 9) (n := 40) (j := 7) rfl rfl rfl rfl rfl rfl rfl (by omega) rfl hC (by omega) (by omega) hs0 ?_
  intro hs0
  refine st_arr (m := 172) (p := 73) (x := 10) (n := 40) (j := 8) rfl rfl rfl rfl rfl rfl rfl (by omega) rfl hC (by omega) (by omega) hs0 ?_
  intro hs0
  refine st_arr (m := 172) (p := 81) (x := 11) (n := 40) (j := 9) rfl rfl rfl rfl rfl rfl rfl (by omega) rfl hC (by omega) (by omega) hs0 ?_
  intro hs0
  refine st_row (m := 172) (p := 89) (x := 12) (nz := 10) (ny := 14) (j := 10) rfl rfl rfl rfl rfl rfl rfl rfl rfl rfl (by omega) rfl hC (by omega) rfl (by omega) rfl hs0 ?_
  intro hs0
  refine st_row (m := 172) (p := 101) (x := 23) (nz := 10) (ny := 14) (j := 11) rfl rfl rfl rfl rfl rfl rfl rfl rfl rfl (by omega) rfl hC (by omega) rfl (by omega) rfl hs0 ?_
  intro hs0
  refine st_row (m := 172) (p := 113) (x := 34) (nz := 10) (ny := 14) (j := 12) rfl rfl rfl rfl rfl rfl rfl rfl rfl rfl (by omega) rfl hC (by omega) rfl (by omega) rfl hs0 ?_
  intro hs0
  refine st_row (m := 172) (p := 125) (x := 45) (nz := 10) (ny := 14) (j := 13) rfl rfl rfl rfl rfl rfl rfl rfl rfl rfl (by omega) rfl hC (by omega) rfl (by omega) rfl hs0 ?_
  intro hs0
  refine st_row (m := 172) (p := 137) (x := 56) (nz := 10) (ny := 14) (j := 14) rfl rfl rfl rfl rfl rfl rfl rfl rfl rfl (by omega) rfl hC (by omega) rfl (by omega) rfl hs0 ?_
  intro hs0
  refine st_log (m := 172) rfl rfl rfl rfl rfl rfl rfl rfl hC hs0 ?_
  intro hs0
  refine st_cau (m := 172) rfl rfl rfl rfl rfl rfl hC hs0 ?_
  rw [hq_n] at h
  have e2 : hpX b n (miW C mi) (rsW C rs) = ((SHd b n (rsW C rs).2.1, RFd b (rsW C rs).2.1), (miW C mi, ((A, C), C + 99, rs.2.2.2.1 + 96, rs.2.2.2.2 + 1260))) := by
    show ((SHd b n (rsW C rs).2.1, RFd b (rsW C rs).2.1), (miW C mi, (rs.1, C + 99, rs.2.2.2.1 + 96, rs.2.2.2.2 + 1260))) = _
    rw [hq1]
  rw [e2, ← wShp (n := n) (b := b) (C := C) h1, ← wRfs (n := n) (b := b) (C := C) (dy0 := dy0)] at h
  exact h
set_option maxRecDepth 20000 in
theorem wMade_198 {D A C n : Nat} {b : Bool} {dy0 : mDy} {lo : mLo} {mi : mMi} {rs : mRs} {K : mOut → mH → Prop} (hC : 0 < C) (h1 : rs.2.1.1 = dy0.1) (hq1 : rs.1 = (A, C)) (hnx : rs.2.2.1 = C + 3) (h : WP D 198 167 (some (mR 6 C 0) :: lo) [] (hq (b, n, none) (miW C mi) (rsW C rs)) K) : WP D 198 14 (some (mR 6 C 0) :: lo) [mR 9 (C + 1) 0, mR 6 C 0] (hq (ovW b n dy0 C) mi rs) K := by
  have hs0 : SHq (ovW b n dy0 C) rs.2.1 6 C 0 = some (13, 0) := by
    rw [ovW_sh h1, if_pos ⟨rfl, rfl, rfl⟩]
  have em : hq (ovW b n dy0 C) mi rs = ((SHq (ovW b n dy0 C) rs.2.1, RFq (ovW b n dy0 C) rs.2.1), (mi, ((A, C), C + 3, rs.2.2.2.1, rs.2.2.2.2))) := by
    show ((SHq (ovW b n dy0 C) rs.2.1, RFq (ovW b n dy0 C) rs.2.1), (mi, (rs.1, rs.2.2))) = _
    rw [hq1, ← hnx]
  rw [em]
  refine st_pr (m := 198) (pc := 14) (ix := 14) rfl rfl (by rw [hs0]; rfl) rfl ?_
  refine st_arr (m := 198) (p := 17) (x := 3) (n := 6) (j := 1) rfl rfl rfl rfl rfl rfl rfl (by omega) rfl hC (by omega) (by omega) hs0 ?_
  intro hs0
  refine st_arr (m := 198) (p := 25) (x := 4) (n := 40) (j := 2) rfl rfl rfl rfl rfl rfl rfl (by omega) rfl hC (by omega) (by omega) hs0 ?_
  intro hs0
  refine st_arr (m := 198) (p := 33) (x := 5) (n := 40) (j := 3) rfl rfl rfl rfl rfl rfl rfl (by omega) rfl hC (by omega) (by omega) hs0 ?_
  intro hs0
  refine st_arr (m := 198) (p := 41) (x := 6) (n := 40) (j := 4) rfl rfl rfl rfl rfl rfl rfl (by omega) rfl hC (by omega) (by omega) hs0 ?_
  intro hs0
  refine st_arr (m := 198) (p := 49) (x := 7) (n := 40) (j := 5) rfl rfl rfl rfl rfl rfl rfl (by omega) rfl hC (by omega) (by omega) hs0 ?_
  intro hs0
  refine st_arr (m := 198) (p := 57) (x := 8) (n := 40) (j := 6) rfl rfl rfl rfl rfl rfl rfl (by omega) rfl hC (by omega) (by omega) hs0 ?_
  intro hs0
  refine st_arr (m := 198) (p := 65) (x := 9) (n := 40) (j := 7) rfl rfl rfl rfl rfl rfl rfl (by omega) rfl hC (by omega) (by omega) hs0 ?_
  intro hs0
  refine st_arr (m := 198) (p := 73) (x := 10) (n := 40) (j := 8) rfl rfl rfl rfl rfl rfl rfl (by omega) rfl hC (by omega) (by omega) hs0 ?_
  intro hs0
  refine st_arr (m := 198) (p := 81) (x := 11) (n := 40) (j := 9) rfl rfl rfl rfl rfl rfl rfl (by omega) rfl hC (by omega) (by omega) hs0 ?_
  intro hs0
  refine st_row (m := 198) (p := 89) (x := 12) (nz := 10) (ny := 14) (j := 10) rfl rfl rfl rfl rfl rfl rfl rfl rfl rfl (by omega) rfl hC (by omega) rfl (by omega) rfl hs0 ?_
  intro hs0
  refine st_row (m := 198) (p := 101) (x := 23) (nz := 10) (ny := 14) (j := 11) rfl rfl rfl rfl rfl rfl rfl rfl rfl rfl (by omega) rfl hC (by omega) rfl (by omega) rfl hs0 ?_
  intro hs0
  refine st_row (m := 198) (p := 113) (x := 34) (nz := 10) (ny := 14) (j := 12) rfl rfl rfl rfl rfl rfl rfl rfl rfl rfl (by omega) rfl hC (by omega) rfl (by omega) rfl hs0 ?_
  intro hs0
  refine st_row (m := 198) (p := 125) (x := 45) (nz := 10) (ny := 14) (j := 13) rfl rfl rfl rfl rfl rfl rfl rfl rfl rfl (by omega) rfl hC (by omega) rfl (by omega) rfl hs0 ?_
  intro hs0
  refine st_row (m := 198) (p := 137) (x := 56) (nz := 10) (ny := 14) (j := 14) rfl rfl rfl rfl rfl rfl rfl rfl rfl rfl (by omega) rfl hC (by omega) rfl (by omega) rfl hs0 ?_
  intro hs0
  refine st_log (m := 198) rfl rfl rfl rfl rfl rfl rfl rfl hC hs0 ?_
  intro hs0
  refine st_cau (m := 198) rfl rfl rfl rfl rfl rfl hC hs0 ?_
  rw [hq_n] at h
  have e2 : hpX b n (miW C mi) (rsW C rs) = ((SHd b n (rsW C rs).2.1, RFd b (rsW C rs).2.1), (miW C mi, ((A, C), C + 99, rs.2.2.2.1 + 96, rs.2.2.2.2 + 1260))) := by
    show ((SHd b n (rsW C rs).2.1, RFd b (rsW C rs).2.1), (miW C mi, (rs.1, C + 99, rs.2.2.2.1 + 96, rs.2.2.2.2 + 1260))) = _
    rw [hq1]
  rw [e2, ← wShp (n := n) (b := b) (C := C) h1, ← wRfs (n := n) (b := b) (C := C) (dy0 := dy0)] at h
  exact h
