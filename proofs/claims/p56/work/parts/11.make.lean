/-! WHAT IS MADE: objects, arrays. -/
theorem mArrC_ok (ty : FieldType) (h : ty ∈ ([.int, .boolean, .byte] : List FieldType)) : Jvm.Cond.arrayClass ty ∈ gTbl := by
  have key : ∀ q ∈ ([(.int, 122), (.boolean, 357), (.byte, 86)] : List (FieldType × Nat)), lw_tbl[q.2]? = some (Jvm.Cond.arrayClass q.1) := by decide +kernel
  have h2 : ∃ k, (ty, k) ∈ ([(.int, 122), (.boolean, 357), (.byte, 86)] : List (FieldType × Nat)) := by
    simp only [List.mem_cons, List.not_mem_nil, or_false] at h
    rcases h with rfl | rfl | rfl
    · exact ⟨122, by simp⟩
    · exact ⟨357, by simp⟩
    · exact ⟨86, by simp⟩
  obtain ⟨k, hk⟩ := h2
  exact gTbl_of k (key _ hk) rfl
/-! NAMES of what is made: a name's number is the number of cells that stood. -/
theorem mWN_B (B k : Nat) : mWN B k = ((mWN 0 k).1, B + (mWN 0 k).2.1, (mWN 0 k).2.2) := by
  unfold mWN
  split
  · rfl
  · split
    · rw [Nat.zero_add]
    · split
      · rfl
      · split
        · split <;> rfl
        · split
          · rfl
          · split <;> rfl
theorem mWN_k : ∀ k, k < 99 → (mWN 0 k).1 ≠ 3 ∧ (mWN 0 k).1 ≠ 7 ∧ Nat.blt (mWN 0 k).1 3 = false ∧ mAdx 0 (mWN 0 k).1 (mWN 0 k).2.1 (mWN 0 k).2.2 = k := by decide +kernel
theorem mAdx_B {A0 f B i j : Nat} (h : Nat.blt f 3 = false) (h7 : f ≠ 7) : mAdx A0 f (B + i) j = B + mAdx 0 f i j := by
  unfold mAdx
  rw [h]
  have e7 : Nat.beq f 7 = false := by
    cases e : Nat.beq f 7 with
    | false => rfl
    | true => exact absurd (Nat.eq_of_beq_eq_true e) h7
  rw [e7]
  dsimp only
  split
  · omega
  · split
    · rfl
    · split <;> omega
theorem mNam_adx {q : Nat × Nat} {nx f i j : Nat} (h : mNam q nx = (f, i, j)) : f ≠ 3 ∧ mAdx q.1 f i j = nx := by
  unfold mNam at h
  split at h
  · rename_i hb
    cases h
    exact ⟨by decide, (Nat.eq_of_beq_eq_true hb).symm⟩
  · split at h
    · rename_i hb
      rw [Bool.and_eq_true] at hb
      have b1 : q.2 ≤ nx := Nat.le_of_ble_eq_true hb.1
      have b2 : nx < q.2 + 99 := Nat.le_of_ble_eq_true hb.2
      obtain ⟨k1, k2, k3, k4⟩ := mWN_k (nx - q.2) (by omega)
      rw [mWN_B] at h
      cases h
      refine ⟨k1, ?_⟩
      rw [mAdx_B k3 k2, k4]
      omega
    · split at h
      · rename_i hb
        rw [Bool.and_eq_true] at hb
        have hb := hb.2
        rw [Bool.and_eq_true] at hb
        have b1 : q.1 ≤ nx := Nat.le_of_ble_eq_true hb.1
        have b2 : nx < q.1 + mAlN := Nat.le_of_ble_eq_true hb.2
        have k1 := mAlT_f (nx - q.1) (by omega)
        have k2 := mIv_key (nx - q.1) (by omega)
        rw [h] at k1 k2
        refine ⟨by intro z; rw [z] at k1; exact absurd k1 (Nat.lt_irrefl 3), ?_⟩
        have e : Nat.blt f 3 = true := Nat.ble_eq_true_of_le k1
        unfold mAdx
        rw [e]
        show q.1 + mIv f i j = nx
        rw [k2]
        omega
      · cases h
        exact ⟨by decide, rfl⟩
theorem mNwb_1 {ci nx : Nat} {q : Nat × Nat} : (mNwb ci nx q).1 = q.1 := by
  unfold mNwb
  split <;> rfl
theorem mArrV_ext {cA : ClassId} {n : Nat} {f g : Nat → Value} (h : ∀ q, q < n → f q = g q) : arrV cA n f = arrV cA n g := by
  unfold arrV
  congr 1
  apply Array.ext
  · simp
  · intro i h1 h2
    simp only [Array.getElem_ofFn]
    exact h i (by simpa using h1)
theorem mRel.push {D : va_G} {ad : mAd} {b0 na : Nat} {h h1 : mH} {U : State} {H H1 : Heap} {f i j kd n c1 s1 : Nat} {q1 : Nat × Nat} (hA : mAdOk ad b0) (hr : mRel D ad b0 na h U H) (hq1 : q1.1 = (mQ h).1) (hal : mNam q1 na = (f, i, j))
    (hsz : H1.size = H.size + 1) (oq : ∀ q : Nat, q < H.size → H1[q]? = H[q]?) (hsh : ∀ f' i' j', ¬ (f' = f ∧ i' = i ∧ j' = j) → mSh h1 f' i' j' = mSh h f' i' j') (hshn : mSh h1 f i j = some (kd, n)) (hk : kd ≠ 30 ∧ kd ≠ 24)
    (hrf : ∀ f' i' j', ¬ (f' = f ∧ i' = i ∧ j' = j) → mRfO h1 f' i' j' = mRfO h f' i' j') (hmi : ∀ f' i' j', ¬ (f' = f ∧ i' = i ∧ j' = j) → mMiO h1 f' i' j' = mMiO h f' i' j') (hrs : h1.2.2 = (q1, na + 1, c1, s1))
    (hnew : mCell D ad (mRfO h1 f i j) (mMiO h1 f i j) U H1 H.size kd n) : mRel D ad b0 (na + 1) h1 U H1 ∧ ad f i j = H.size := by
  have hr0 := hr
  obtain ⟨ho, hc, h2, h3, h4⟩ := hr
  obtain ⟨hf3, hx⟩ := mNam_adx hal
  rw [hq1] at hx
  have hadn : ad f i j = H.size := by rw [mAd_at hA hr0 hf3, hx, h3]
  have hQ : mQ h1 = q1 := congrArg (fun x : mRm => x.1) hrs
  have hN : mNx h1 = na + 1 := congrArg (fun x : mRm => x.2.1) hrs
  refine ⟨⟨fun f' i' j' kd' n' e' => ?_, fun f' i' j' kd' n' e' => ?_, hN, by omega, by rw [hQ, hq1]; exact h4⟩, hadn⟩
  · rw [hQ, hq1]
    by_cases hs : f' = f ∧ i' = i ∧ j' = j
    · obtain ⟨rfl, rfl, rfl⟩ := hs
      cases hshn.symm.trans e'
      refine ⟨⟨fun z => absurd z hf3, fun z => z.elim (fun z => absurd z hk.1) (fun z => absurd z hk.2)⟩, fun _ => by omega, fun f2 i2 j2 kd2 n2 e2 _ g3 ge => ?_⟩
      by_cases hs2 : f2 = f' ∧ i2 = i' ∧ j2 = j'
      · exact hs2
      · rw [hsh _ _ _ hs2] at e2
        have := (ho _ _ _ _ _ e2).2.1 g3
        omega
    · rw [hsh _ _ _ hs] at e'
      obtain ⟨o1, o2, o3⟩ := ho _ _ _ _ _ e'
      refine ⟨o1, fun z => by have := o2 z; omega, fun f2 i2 j2 kd2 n2 e2 g2 g3 ge => ?_⟩
      by_cases hs2 : f2 = f ∧ i2 = i ∧ j2 = j
      · obtain ⟨rfl, rfl, rfl⟩ := hs2
        have := o2 g2
        omega
      · rw [hsh _ _ _ hs2] at e2
        exact o3 _ _ _ _ _ e2 g2 g3 ge
  · by_cases hs : f' = f ∧ i' = i ∧ j' = j
    · obtain ⟨rfl, rfl, rfl⟩ := hs
      cases hshn.symm.trans e'
      rw [hadn]
      exact hnew
    · rw [hsh f' i' j' hs] at e'
      have g1 := hc f' i' j' kd' n' e'
      have hlt : ad f' i' j' < H.size := by
        by_cases z : f' = 3
        · subst z
          have := hA.2 i' j'
          omega
        · obtain ⟨a', ha', he'⟩ := mAd_ge hA hr0 e' z
          omega
      have g2 := g1.kept (oq _ hlt)
      rw [hrf f' i' j' hs, hmi f' i' j' hs]
      exact g2
theorem mTy_kinds {ci q : Nat} (hc : ci < 16) (hq : q < mTN ci) : mFdRef ci q = true ∨ mTy ci q = .int ∨ mTy ci q = .boolean ∨ mTy ci q = .byte := by
  have h : ∀ c, c < 16 → ∀ k, k < mTN c → mFdRef c k = true ∨ mTy c k = .int ∨ mTy c k = .boolean ∨ mTy c k = .byte := by decide +kernel
  exact h ci hc q hq
theorem mFV_new {ad : mAd} {mi : Nat → Int32} {ci q : Nat} (hc : ci < 16) (hq : q < mTN ci) (hmi : mi q = 0) : defaultValue (mTy ci q) = mFV ad (fun _ => none) mi ci q := by
  unfold mFV
  rcases mTy_kinds hc hq with h | h | h | h
  · rw [h]
    unfold mFdRef at h
    cases ht : mTy ci q <;> rw [ht] at h <;> first | exact absurd h Bool.false_ne_true | rfl
  · have : mFdRef ci q = false := by unfold mFdRef; rw [h]
    rw [this, h, hmi]; rfl
  · have : mFdRef ci q = false := by unfold mFdRef; rw [h]
    rw [this, h, hmi]; rfl
  · have : mFdRef ci q = false := by unfold mFdRef; rw [h]
    rw [this, h, hmi]; rfl
theorem msset_ne {sh : Nat → Nat → Nat → Option (Nat × Nat)} {f i j : Nat} {v : Nat × Nat} {f' i' j' : Nat} (h : ¬ (f' = f ∧ i' = i ∧ j' = j)) : msset sh f i j v f' i' j' = sh f' i' j' := by
  unfold msset
  rw [mBeq3 h]
theorem mBeqT (f i j : Nat) : (Nat.beq f f && Nat.beq i i && Nat.beq j j) = true := by simp [Nat.beq_refl]
theorem msset_at {sh : Nat → Nat → Nat → Option (Nat × Nat)} {f i j : Nat} {v : Nat × Nat} : msset sh f i j v f i j = some v := by
  unfold msset
  rw [mBeqT]
theorem mfill_at {mi : mMi} {f i j n : Nat} {v : Int32} {q : Nat} (hq : q < n) : mfill mi f i j n v f i j q = v := by
  unfold mfill
  rw [mBeqT, Bool.true_and, show Nat.blt q n = true from Nat.ble_eq_true_of_le hq]
section MK
variable {p : Program} {l : Launch} {e : Env} {R : Room} {s : State} {m : MethodId} {args : Array Value} {below : List Frame} {meth : Method} {c : Code} {D : va_G} {ad : mAd} {b0 y c0 s0 : Nat} {Z : State → Prop} {h : mH} {pc : Nat} {lo : mLo} {st : mSt}
theorem mi_new (hF : mFr y p s m args meth c) (hV : mV0 ad b0 D s) {ix ci n f i j : Nat} (hd : cd y pc = some (.new ix)) (hn : mNew (mOwn y) ix = some (ci, n)) (hx : Nat.ble 900 ci = false) (hal : mNam (mNwb ci (mNx h) (mQ h)) (mNx h) = (f, i, j)) {cf sf : Nat} (hR : cf - c0 ≤ R.cells ∧ sf - s0 ≤ R.slots)
    (hct : mCt h + 1 ≤ cf ∧ mSl h + n ≤ sf)
    (k : mW p l e R s m args below meth c D ad b0 y c0 s0 Z ((msset h.1.1 f i j (ci, 0), fun f' i' j' p' => match Nat.beq f f' && Nat.beq i i' && Nat.beq j j' with
              | true => none
              | false => h.1.2 f' i' j' p'), (mfill h.2.1 f i j n 0, (mNwb ci (mNx h) (mQ h), mNx h + 1, mCt h + 1, mSl h + n))) (pc + 3) lo (mR f i j :: st)) : mW p l e R s m args below meth c D ad b0 y c0 s0 Z h pc lo st := by
  intro H locs ls na h1 h2 h3 h4 h5
  have hdc := mDc hF.2.2.2.2.2.1.2 hd rfl rfl
  obtain ⟨hxx, hb, hml, hown, hts, -⟩ := hF
  obtain ⟨hl, hci, rfl⟩ := mNew_ok hn hx
  have hc := mcl_at hci
  have hKn := hV.2.1 ci _ hc
  have hna : mNx h = na := h1.2.2.1
  refine W.newcK hxx hb hown (hts _ hl) (hts _ (mInst_ok hci).1) (hts _ (mInst_ok hci).2) rfl hdc (by omega) (by omega) hKn.2.1 rfl fun H1 kC hkC e1 z1 o1 => ?_
  have hob := (u_born (mTy ci) (mLay_of hts hci) (fun _ h => h) hKn hkC e1 (fun k hk => mTy_ok hci hk)).to (V' := mFV ad (fun _ => none) (mfill h.2.1 f i j (mTN ci) 0 f i j) ci) (fun q hq => mFV_new hci hq (mfill_at hq))
  have hpush := mRel.push (kd := ci) (n := 0) (h1 := ((msset h.1.1 f i j (ci, 0), fun f' i' j' p' => match Nat.beq f f' && Nat.beq i i' && Nat.beq j j' with
              | true => none
              | false => h.1.2 f' i' j' p'), (mfill h.2.1 f i j (mTN ci) 0, (mNwb ci (mNx h) (mQ h), mNx h + 1, mCt h + 1, mSl h + mTN ci)))) hV.1 h1 mNwb_1 (by rw [← hna]; exact hal) z1 o1 (fun _ _ _ hne => msset_ne hne) msset_at ⟨by omega, by omega⟩
    (fun f' i' j' hne => by
      funext q
      show (match Nat.beq f f' && Nat.beq i i' && Nat.beq j j' with
        | true => none
        | false => h.1.2 f' i' j' q) = _
      rw [mBeq3 hne]
      rfl)
    (fun _ _ _ hne => mfill_ne hne) (by rw [← hna])
    (by
      have hrf : (fun q => (match Nat.beq f f && Nat.beq i i && Nat.beq j j with
        | true => none
        | false => h.1.2 f i j q : Option mRf)) = fun _ => none := by
        funext q
        rw [mBeqT]
      refine ⟨fun z => by omega, by omega, fun _ => ?_, fun z => by omega, fun z => by omega, fun z => by omega, fun z => by omega, fun z => by omega, fun z => by omega⟩
      show t_OB H.size (D.1 ci) (mTN ci) (D.2 ci) H1 (mFV ad (fun q => match Nat.beq f f && Nat.beq i i && Nat.beq j j with
        | true => none
        | false => h.1.2 f i j q) (mfill h.2.1 f i j (mTN ci) 0 f i j) ci)
      rw [hrf]
      exact hob)
  have kk := k H1 locs ls (na + 1) hpush.1 ⟨Nat.le_trans h2.1 (by omega), fun q q1 q2 => (o1 q (Nat.lt_of_lt_of_le q1 h2.1)).trans (h2.2.1 q q1 q2), h2.2.2⟩ h3 (Nat.le_succ_of_le h4) (Nat.le_trans h5 (Nat.le_add_right _ _))
  refine W.cs (cells' := mCt h + 1 - c0) (slots' := mSl h + mTN ci - s0) (by omega) (by omega) ?_
  rw [List.map_cons, rv_ref, hpush.2] at kk
  exact kk
def mKindT (t : ArrayType) : FieldType := newarray.typeOf t
theorem mi_newarray (hF : mFr y p s m args meth c) (hV : mV0 ad b0 D s) {t : ArrayType} {n : Int32} {f i j : Nat} (hd : cd y pc = some (.newarray t)) (hal : mNam (mQ h) (mNx h) = (f, i, j)) {cf sf : Nat} (hR : cf - c0 ≤ R.cells ∧ sf - s0 ≤ R.slots)
    (ho : (!(decide (n < 0)) && Nat.ble (mix n) 100000 && Nat.blt (mKind t) 99) = true)
    (hct : mCt h + 1 ≤ cf ∧ mSl h + mix n ≤ sf)
    (k : mW p l e R s m args below meth c D ad b0 y c0 s0 Z ((msset h.1.1 f i j (mKind t, mix n), h.1.2), (mfill h.2.1 f i j (mix n) 0, (mQ h, mNx h + 1, mCt h + 1, mSl h + mix n))) (pc + 2) lo (mR f i j :: st)) : mW p l e R s m args below meth c D ad b0 y c0 s0 Z h pc lo (.inl n :: st) := by
  intro H locs ls na h1 h2 h3 h4 h5
  have hdc := mDc hF.2.2.2.2.2.1.2 hd rfl rfl
  obtain ⟨hxx, hb, hml, hown, hts, -⟩ := hF
  simp only [Bool.and_eq_true, Bool.not_eq_true', decide_eq_false_iff_not] at ho
  obtain ⟨⟨g1, g2⟩, g3⟩ := ho
  have g2 := Nat.le_of_ble_eq_true g2
  have hna : mNx h = na := h1.2.2.1
  have harr : (Cond.arrayClass (newarray.typeOf t)).before args s = true := by
    cases t <;> first | exact hts _ (mArrC_ok _ (by decide)) | exact absurd g3 (by decide)
  refine va_newaK hxx hb harr rfl hdc (n := n) (N := mix n) rfl g1 rfl (by
    cases t with
    | boolean => show mix n * 1 ≤ 536870912; omega
    | byte => show mix n * 1 ≤ 536870912; omega
    | int => show mix n * 4 ≤ 536870912; omega
    | _ => exact absurd g3 (by decide)) (by omega) (by omega) rfl fun H1 cA e1 z1 o1 hAr hNm => ?_
  have hRA : va_RA s cA (newarray.typeOf t) := by cases t <;> exact hNm
  have hpush := mRel.push (kd := mKind t) (n := mix n) (h1 := ((msset h.1.1 f i j (mKind t, mix n), h.1.2), (mfill h.2.1 f i j (mix n) 0, (mQ h, mNx h + 1, mCt h + 1, mSl h + mix n)))) hV.1 h1 rfl (by rw [← hna]; exact hal) z1 o1 (fun _ _ _ hne => msset_ne hne) msset_at (by cases t <;> decide)
    (fun _ _ _ _ => rfl)
    (fun _ _ _ hne => mfill_ne hne) (by rw [← hna])
    (by
      have hi : ∀ (cA : ClassId), arrV cA (mix n) (fun _ => Value.int 0) = vp_cell cA (mix n, .inl (mfill h.2.1 f i j (mix n) 0 f i j)) := by
        intro cA
        rw [vp_cell_i]
        exact mArrV_ext (fun q hq => by rw [mfill_at hq])
      cases t with
      | boolean => exact ⟨fun z => absurd z (by decide), Or.inl (by decide), fun z => absurd z (by decide), fun z => absurd z (by decide), fun _ => ⟨cA, e1.trans (congrArg some (hi cA)), hAr, hRA⟩, fun z => absurd z (by decide), fun z => absurd z (by decide), fun z => absurd z (by decide), fun z => absurd z (by decide)⟩
      | byte => exact ⟨fun z => absurd z (by decide), Or.inl (by decide), fun z => absurd z (by decide), fun z => absurd z (by decide), fun z => absurd z (by decide), fun _ => ⟨cA, e1.trans (congrArg some (hi cA)), hAr, hRA⟩, fun z => absurd z (by decide), fun z => absurd z (by decide), fun z => absurd z (by decide)⟩
      | int => exact ⟨fun z => absurd z (by decide), Or.inl (by decide), fun z => absurd z (by decide), fun _ => ⟨cA, e1.trans (congrArg some (hi cA)), hAr, hRA⟩, fun z => absurd z (by decide), fun z => absurd z (by decide), fun z => absurd z (by decide), fun z => absurd z (by decide), fun z => absurd z (by decide)⟩
      | _ => exact absurd g3 (by decide))
  have kk := k H1 locs ls (na + 1) hpush.1 ⟨Nat.le_trans h2.1 (by omega), fun q q1 q2 => (o1 q (Nat.lt_of_lt_of_le q1 h2.1)).trans (h2.2.1 q q1 q2), h2.2.2⟩ h3 (Nat.le_succ_of_le h4) (Nat.le_trans h5 (Nat.le_add_right _ _))
  refine W.cs (cells' := mCt h + 1 - c0) (slots' := mSl h + mix n - s0) (by omega) (by omega) ?_
  rw [List.map_cons, rv_ref, hpush.2] at kk
  exact kk
theorem mi_anewarray (hF : mFr y p s m args meth c) (hV : mV0 ad b0 D s) (hAO : va_AO "CardCastle$Castle" s) {ix n2 : Nat} {n : Int32} {f i j : Nat} (hd : cd y pc = some (.anewarray ix)) (hn : mNew (mOwn y) ix = some (1, n2)) (hal : mNam (mQ h) (mNx h) = (f, i, j)) {cf sf : Nat} (hR : cf - c0 ≤ R.cells ∧ sf - s0 ≤ R.slots)
    (ho : (!(decide (n < 0)) && Nat.ble (mix n) 100000) = true)
    (hct : mCt h + 1 ≤ cf ∧ mSl h + mix n ≤ sf)
    (k : mW p l e R s m args below meth c D ad b0 y c0 s0 Z ((msset h.1.1 f i j (25, mix n), fun f' i' j' p' => match Nat.beq f f' && Nat.beq i i' && Nat.beq j j' with
              | true => none
              | false => h.1.2 f' i' j' p'), (h.2.1, (mQ h, mNx h + 1, mCt h + 1, mSl h + mix n))) (pc + 3) lo (mR f i j :: st)) : mW p l e R s m args below meth c D ad b0 y c0 s0 Z h pc lo (.inl n :: st) := by
  intro H locs ls na h1 h2 h3 h4 h5
  have hdc := mDc hF.2.2.2.2.2.1.2 hd rfl rfl
  obtain ⟨hxx, hb, hml, hown, hts, -⟩ := hF
  simp only [Bool.and_eq_true, Bool.not_eq_true', decide_eq_false_iff_not] at ho
  obtain ⟨g1, g2⟩ := ho
  have g2 := Nat.le_of_ble_eq_true g2
  obtain ⟨hl, hci, -⟩ := mNew_ok hn rfl
  have hna : mNx h = na := h1.2.2.1
  refine W.anew hxx hb hown (hts _ hl) hAO.use rfl hdc rfl g1 (by show mix n * 4 ≤ _; omega) (by omega) (by show _ + mix n ≤ _; omega) fun cA kA comp k1 k2 k3 k4 => ?_
  have z1 : (H.push { cls := cA, slots := Array.replicate n.toNatClampNeg .null, vm := .none }).size = H.size + 1 := by simp
  have o1 : ∀ q : Nat, q < H.size → (H.push { cls := cA, slots := Array.replicate n.toNatClampNeg .null, vm := .none })[q]? = H[q]? := fun q hq => by rw [Array.getElem?_push, if_neg (Nat.ne_of_lt hq)]
  have e1 : (H.push { cls := cA, slots := Array.replicate n.toNatClampNeg .null, vm := .none })[H.size]? = some (arrV cA (mix n) (fun _ => Value.null)) := by rw [← arrV_new]; simp
  generalize (H.push { cls := cA, slots := Array.replicate n.toNatClampNeg .null, vm := .none }) = H1 at z1 o1 e1
  have hpush := mRel.push (kd := 25) (n := mix n) (h1 := ((msset h.1.1 f i j (25, mix n), fun f' i' j' p' => match Nat.beq f f' && Nat.beq i i' && Nat.beq j j' with
              | true => none
              | false => h.1.2 f' i' j' p'), (h.2.1, (mQ h, mNx h + 1, mCt h + 1, mSl h + mix n)))) hV.1 h1 rfl (by rw [← hna]; exact hal) z1 o1 (fun _ _ _ hne => msset_ne hne) msset_at (by decide)
    (fun f' i' j' hne => by
      funext q
      show (match Nat.beq f f' && Nat.beq i i' && Nat.beq j j' with
        | true => none
        | false => h.1.2 f' i' j' q) = _
      rw [mBeq3 hne]
      rfl)
    (fun _ _ _ _ => rfl) (by rw [← hna])
    (by
      refine ⟨fun z => absurd z (by decide), Or.inl (by decide), fun z => absurd z (by decide), fun z => absurd z (by decide), fun z => absurd z (by decide), fun z => absurd z (by decide), fun z => absurd z (by decide), fun z => absurd z (by decide), fun _ => ⟨cA, e1.trans ?_, fun n z => ⟨fun k h => (by cases h), kA, k2, comp, k3⟩, ⟨kA, comp, k2, k3, k4, k1⟩⟩⟩
      rw [vp_cell_q]
      refine congrArg some (mArrV_ext fun q hq => ?_)
      show Value.null = va_rf (mOp ad (match Nat.beq f f && Nat.beq i i && Nat.beq j j with
        | true => none
        | false => h.1.2 f i j q))
      rw [mBeqT]
      rfl)
  have kk := k H1 locs ls (na + 1) hpush.1 ⟨Nat.le_trans h2.1 (by omega), fun q q1 q2 => (o1 q (Nat.lt_of_lt_of_le q1 h2.1)).trans (h2.2.1 q q1 q2), h2.2.2⟩ h3 (Nat.le_succ_of_le h4) (Nat.le_trans h5 (Nat.le_add_right _ _))
  refine W.cs (cells' := mCt h + 1 - c0) (slots' := mSl h + mix n - s0) (by omega) (by show _ + mix n = _; omega) ?_
  rw [List.map_cons, rv_ref, hpush.2] at kk
  exact kk
end MK
