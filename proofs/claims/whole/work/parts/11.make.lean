/-! WHAT IS MADE: objects, arrays. -/
theorem mArrC_ok (ty : FieldType) (h : ty ∈ ([.int, .boolean, .byte, .long, .double] : List FieldType)) : Jvm.Cond.arrayClass ty ∈ gTbl := by
  have key : ∀ q ∈ ([(.int, 185), (.boolean, 420), (.byte, 149), (.long, 2105), (.double, 2106)] : List (FieldType × Nat)), lw_tbl[q.2]? = some (Jvm.Cond.arrayClass q.1) := by decide +kernel
  have h2 : ∃ k, (ty, k) ∈ ([(.int, 185), (.boolean, 420), (.byte, 149), (.long, 2105), (.double, 2106)] : List (FieldType × Nat)) := by
    simp only [List.mem_cons, List.not_mem_nil, or_false] at h
    rcases h with rfl | rfl | rfl | rfl | rfl
    · exact ⟨185, by simp⟩
    · exact ⟨420, by simp⟩
    · exact ⟨149, by simp⟩
    · exact ⟨2105, by simp⟩
    · exact ⟨2106, by simp⟩
  obtain ⟨k, hk⟩ := h2
  exact gTbl_of k (key _ hk) rfl
theorem mArrV_ext {cA : ClassId} {n : Nat} {f g : Nat → Value} (h : ∀ q, q < n → f q = g q) : arrV cA n f = arrV cA n g := by
  unfold arrV
  congr 1
  apply Array.ext
  · simp
  · intro i h1 h2
    simp only [Array.getElem_ofFn]
    exact h i (by simpa using h1)
theorem mRel.push {D : va_G} {ad : mAd} {b0 na a : Nat} {h h1 : mH} {U : State} {H H1 : Heap} {f i j kd n : Nat} (hA : mAdOk ad b0) (hr : mRel D ad b0 na h U H) (hx : mNx h = some a) (hal : mAl a = (f, i, j))
    (hsz : H1.size = H.size + 1) (oq : ∀ q : Nat, q < H.size → H1[q]? = H[q]?) (hsh : ∀ f' i' j', ¬ (f' = f ∧ i' = i ∧ j' = j) → mSh h1 f' i' j' = mSh h f' i' j') (hshn : mSh h1 f i j = some (kd, n)) (hk : kd ≠ 30) (hk3 : kd = 23 → f = 5 ∧ i = 0 ∧ j = 0) (hk4 : kd = 24 → f = 5 ∧ i = 1 ∧ j = 0)
    (hrf : ∀ f' i' j', ¬ (f' = f ∧ i' = i ∧ j' = j) → mRfO h1 f' i' j' = mRfO h f' i' j') (hmi : ∀ f' i' j', ¬ (f' = f ∧ i' = i ∧ j' = j) → mMiO h1 f' i' j' = mMiO h f' i' j') (hml : kd ≠ 23 → mMlO h1 = mMlO h) (hmd : kd ≠ 24 → mMdO h1 = mMdO h) (hnx : mNx h1 = some (a + 1))
    (hnew : mCell D ad (mRfO h1 f i j) (mMiO h1 f i j) (mMlO h1) (mMdO h1) U H1 H.size kd n) : mRel D ad b0 (na + 1) h1 U H1 ∧ ad f i j = H.size := by
  obtain ⟨ho, hc, h2, h3⟩ := hr
  obtain ⟨rfl, hsz0⟩ := h3 a hx
  have hadn : ad f i j = H.size := by rw [hA.1 _ _ _ _ hal, hsz0]
  have hf3 := mAl_f hal
  refine ⟨⟨fun f' i' j' kd' n' e' => ?_, fun f' i' j' kd' n' e' => ?_, by omega, fun a' ha' => ?_⟩, hadn⟩
  · by_cases hs : f' = f ∧ i' = i ∧ j' = j
    · obtain ⟨rfl, rfl, rfl⟩ := hs
      cases hshn.symm.trans e'
      exact ⟨⟨fun z => absurd z hk, fun z => absurd z hf3⟩, fun _ => ⟨a, by omega, hal⟩, hk3, hk4⟩
    · rw [hsh f' i' j' hs] at e'
      obtain ⟨o1, o2, o3, o4⟩ := ho f' i' j' kd' n' e'
      refine ⟨o1, fun z => ?_, o3, o4⟩
      obtain ⟨a', ha', he'⟩ := o2 z
      exact ⟨a', by omega, he'⟩
  · by_cases hs : f' = f ∧ i' = i ∧ j' = j
    · obtain ⟨rfl, rfl, rfl⟩ := hs
      cases hshn.symm.trans e'
      rw [hadn]
      exact hnew
    · rw [hsh f' i' j' hs] at e'
      have g1 := hc f' i' j' kd' n' e'
      have hlt : ad f' i' j' < H.size := by
        by_cases z : f' = 3
        · subst z
          have := hA.2 i' j'
          omega
        · obtain ⟨a', ha', -, he'⟩ := mAd_ge hA ho e' z
          omega
      have g2 := g1.kept (oq _ hlt)
      rw [hrf f' i' j' hs, hmi f' i' j' hs]
      obtain ⟨q1, q3, q4, q5, q6, q7, q8, q9, q10⟩ := g2
      refine ⟨q1, q3, q4, q5, q6, q7, fun z => ?_, fun z => ?_, q10⟩
      · have k1 := (ho f' i' j' kd' n' e').2.2.1 z
        rw [hml (fun z2 => hs ⟨k1.1.trans (hk3 z2).1.symm, k1.2.1.trans (hk3 z2).2.1.symm, k1.2.2.trans (hk3 z2).2.2.symm⟩)]
        exact q8 z
      · have k1 := (ho f' i' j' kd' n' e').2.2.2 z
        rw [hmd (fun z2 => hs ⟨k1.1.trans (hk4 z2).1.symm, k1.2.1.trans (hk4 z2).2.1.symm, k1.2.2.trans (hk4 z2).2.2.symm⟩)]
        exact q9 z
  · rw [hnx] at ha'
    cases ha'
    exact ⟨rfl, by omega⟩
theorem mTy_kinds {ci q : Nat} (hc : ci < 13) (hq : q < mTN ci) : mFdRef ci q = true ∨ mTy ci q = .int ∨ mTy ci q = .boolean := by
  have h : ∀ c, c < 13 → ∀ k, k < mTN c → mFdRef c k = true ∨ mTy c k = .int ∨ mTy c k = .boolean := by decide +kernel
  exact h ci hc q hq
theorem mFV_new {ad : mAd} {mi : Nat → Int32} {ci q : Nat} (hc : ci < 13) (hq : q < mTN ci) (hmi : mi q = 0) : defaultValue (mTy ci q) = mFV ad (fun _ => none) mi ci q := by
  unfold mFV
  rcases mTy_kinds hc hq with h | h | h
  · rw [h]
    unfold mFdRef at h
    cases ht : mTy ci q <;> rw [ht] at h <;> first | exact absurd h Bool.false_ne_true | rfl
  · have : mFdRef ci q = false := by unfold mFdRef; rw [h]
    rw [this, h, hmi]; rfl
  · have : mFdRef ci q = false := by unfold mFdRef; rw [h]
    rw [this, h, hmi]; rfl
theorem msset_ne {sh : Nat → Nat → Nat → Option (Nat × Nat)} {f i j : Nat} {v : Nat × Nat} {f' i' j' : Nat} (h : ¬ (f' = f ∧ i' = i ∧ j' = j)) : msset sh f i j v f' i' j' = sh f' i' j' := by
  unfold msset
  rw [mBeq3 h]
theorem mBeqT (f i j : Nat) : (Nat.beq f f && Nat.beq i i && Nat.beq j j) = true := by simp [Nat.beq_refl]
theorem msset_at {sh : Nat → Nat → Nat → Option (Nat × Nat)} {f i j : Nat} {v : Nat × Nat} : msset sh f i j v f i j = some v := by
  unfold msset
  rw [mBeqT]
theorem mfill_at {mi : mMi} {f i j n : Nat} {v : Int32} {q : Nat} (hq : q < n) : mfill mi f i j n v f i j q = v := by
  unfold mfill
  rw [mBeqT, Bool.true_and, show Nat.blt q n = true from Nat.ble_eq_true_of_le hq]
section MK
variable {p : Program} {l : Launch} {e : Env} {R : Room} {s : State} {m : MethodId} {args : Array Value} {below : List Frame} {meth : Method} {c : Code} {D : va_G} {ad : mAd} {b0 y c0 s0 : Nat} {Z : State → Prop} {h : mH} {pc : Nat} {lo : mLo} {st : mSt}
theorem mi_new (hF : mFr y p s m args meth c) (hV : mV0 ad b0 D s) {ix ci n a f i j : Nat} (hd : cd y pc = some (.new ix)) (hn : mNew (mOwn y) ix = some (ci, n)) (hx : Nat.ble 900 ci = false) (hnx : mNx h = some a) (hal : mAl a = (f, i, j)) {cf sf : Nat} (hR : cf - c0 ≤ R.cells ∧ sf - s0 ≤ R.slots)
    (hct : mCt h + 1 ≤ cf ∧ mSl h + n ≤ sf)
    (k : mW p l e R s m args below meth c D ad b0 y c0 s0 Z ((msset h.1.1 f i j (ci, 0), fun f' i' j' p' => match Nat.beq f f' && Nat.beq i i' && Nat.beq j j' with
              | true => none
              | false => h.1.2 f' i' j' p'), (mfill h.2.1 f i j n 0, (h.2.2.1, h.2.2.2.1, some (a + 1), h.2.2.2.2.2.1 + 1, h.2.2.2.2.2.2 + n))) (pc + 3) lo (mR f i j :: st)) : mW p l e R s m args below meth c D ad b0 y c0 s0 Z h pc lo st := by
  intro H locs ls na h1 h2 h3 h4 h5
  have hdc := mDc hF.2.2.2.2.2.1.2 hd rfl rfl
  obtain ⟨hxx, hb, hml, hown, hts, -⟩ := hF
  obtain ⟨hl, hci, rfl⟩ := mNew_ok hn hx
  have hc := mcl_at hci
  have hKn := hV.2.1 ci _ hc
  refine W.newcK hxx hb hown (hts _ hl) (hts _ (mInst_ok hci).1) (hts _ (mInst_ok hci).2) rfl hdc (by omega) (by omega) hKn.2.1 rfl fun H1 kC hkC e1 z1 o1 => ?_
  have hob := (u_born (mTy ci) (mLay_of hts hci) (fun _ h => h) hKn hkC e1 (fun k hk => mTy_ok hci hk)).to (V' := mFV ad (fun _ => none) (mfill h.2.1 f i j (mTN ci) 0 f i j) ci) (fun q hq => mFV_new hci hq (mfill_at hq))
  have hpush := mRel.push (kd := ci) (n := 0) (h1 := ((msset h.1.1 f i j (ci, 0), fun f' i' j' p' => match Nat.beq f f' && Nat.beq i i' && Nat.beq j j' with
              | true => none
              | false => h.1.2 f' i' j' p'), (mfill h.2.1 f i j (mTN ci) 0, (h.2.2.1, h.2.2.2.1, some (a + 1), h.2.2.2.2.2.1 + 1, h.2.2.2.2.2.2 + mTN ci)))) hV.1 h1 hnx hal z1 o1 (fun _ _ _ hne => msset_ne hne) msset_at (by omega) (by omega) (by omega)
    (fun f' i' j' hne => by
      funext q
      show (match Nat.beq f f' && Nat.beq i i' && Nat.beq j j' with
        | true => none
        | false => h.1.2 f' i' j' q) = _
      rw [mBeq3 hne]
      rfl)
    (fun _ _ _ hne => mfill_ne hne) (fun _ => rfl) (fun _ => rfl) rfl
    (by
      have hrf : (fun q => (match Nat.beq f f && Nat.beq i i && Nat.beq j j with
        | true => none
        | false => h.1.2 f i j q : Option mRf)) = fun _ => none := by
        funext q
        rw [mBeqT]
      refine ⟨fun z => by omega, by omega, fun _ => ?_, fun z => by omega, fun z => by omega, fun z => by omega, fun z => by omega, fun z => by omega, fun z => by omega⟩
      show t_OB H.size (D.1 ci) (mTN ci) (D.2 ci) H1 (mFV ad (fun q => match Nat.beq f f && Nat.beq i i && Nat.beq j j with
        | true => none
        | false => h.1.2 f i j q) (mfill h.2.1 f i j (mTN ci) 0 f i j) ci)
      rw [hrf]
      exact hob)
  have kk := k H1 locs ls (na + 1) hpush.1 ⟨Nat.le_trans h2.1 (by omega), fun q q1 q2 => (o1 q (Nat.lt_of_lt_of_le q1 h2.1)).trans (h2.2.1 q q1 q2), h2.2.2⟩ h3 (Nat.le_succ_of_le h4) (Nat.le_trans h5 (Nat.le_add_right _ _))
  refine W.cs (cells' := mCt h + 1 - c0) (slots' := mSl h + mTN ci - s0) (by omega) (by omega) ?_
  rw [List.map_cons, rv_ref, hpush.2] at kk
  exact kk
def mKindT (t : ArrayType) : FieldType := newarray.typeOf t
theorem mi_newarray (hF : mFr y p s m args meth c) (hV : mV0 ad b0 D s) {t : ArrayType} {n : Int32} {a f i j : Nat} (hd : cd y pc = some (.newarray t)) (hnx : mNx h = some a) (hal : mAl a = (f, i, j)) {cf sf : Nat} (hR : cf - c0 ≤ R.cells ∧ sf - s0 ≤ R.slots)
    (ho : (!(decide (n < 0)) && Nat.ble (mix n) 100000 && Nat.blt (mKind t) 99 && (Nat.blt (mKind t) 23 || Nat.beq f 5) && (!(Nat.beq (mKind t) 23) || Nat.beq i 0 && Nat.beq j 0) && (!(Nat.beq (mKind t) 24) || Nat.beq i 1 && Nat.beq j 0)) = true)
    (hct : mCt h + 1 ≤ cf ∧ mSl h + mix n ≤ sf)
    (k : mW p l e R s m args below meth c D ad b0 y c0 s0 Z ((msset h.1.1 f i j (mKind t, mix n), h.1.2), (mfill h.2.1 f i j (mix n) 0, (match Nat.beq (mKind t) 23 with
            | true => fun _ => 0
            | false => h.2.2.1, match Nat.beq (mKind t) 24 with
            | true => fun _ => 0
            | false => h.2.2.2.1, some (a + 1), h.2.2.2.2.2.1 + 1, h.2.2.2.2.2.2 + mix n))) (pc + 2) lo (mR f i j :: st)) : mW p l e R s m args below meth c D ad b0 y c0 s0 Z h pc lo (.inl n :: st) := by
  intro H locs ls na h1 h2 h3 h4 h5
  have hdc := mDc hF.2.2.2.2.2.1.2 hd rfl rfl
  obtain ⟨hxx, hb, hml, hown, hts, -⟩ := hF
  simp only [Bool.and_eq_true, Bool.or_eq_true, Bool.not_eq_true', decide_eq_false_iff_not] at ho
  obtain ⟨⟨⟨⟨⟨g1, g2⟩, g3⟩, g4⟩, g5⟩, g6⟩ := ho
  have g2 := Nat.le_of_ble_eq_true g2
  have harr : (Cond.arrayClass (newarray.typeOf t)).before args s = true := by
    cases t <;> first | exact hts _ (mArrC_ok _ (by decide)) | exact absurd g3 (by decide)
  refine va_newaK hxx hb harr rfl hdc (n := n) (N := mix n) rfl g1 rfl (by
    cases t with
    | boolean => show mix n * 1 ≤ 536870912; omega
    | byte => show mix n * 1 ≤ 536870912; omega
    | int => show mix n * 4 ≤ 536870912; omega
    | long => show mix n * 8 ≤ 536870912; omega
    | double => show mix n * 8 ≤ 536870912; omega
    | _ => exact absurd g3 (by decide)) (by omega) (by omega) rfl fun H1 cA e1 z1 o1 hAr hNm => ?_
  have hRA : va_RA s cA (newarray.typeOf t) := by cases t <;> exact hNm
  have hb23 : ∀ z, Nat.beq z 23 = true → z = 23 := fun z h => Nat.eq_of_beq_eq_true h
  have hpush := mRel.push (kd := mKind t) (n := mix n) (h1 := ((msset h.1.1 f i j (mKind t, mix n), h.1.2), (mfill h.2.1 f i j (mix n) 0, (match Nat.beq (mKind t) 23 with
            | true => fun _ => 0
            | false => h.2.2.1, match Nat.beq (mKind t) 24 with
            | true => fun _ => 0
            | false => h.2.2.2.1, some (a + 1), h.2.2.2.2.2.1 + 1, h.2.2.2.2.2.2 + mix n)))) hV.1 h1 hnx hal z1 o1 (fun _ _ _ hne => msset_ne hne) msset_at (by cases t <;> decide)
    (fun z => by
      rw [z] at g4 g5
      exact ⟨Nat.eq_of_beq_eq_true (g4.resolve_left (by decide)), Nat.eq_of_beq_eq_true (g5.resolve_left (by decide)).1, Nat.eq_of_beq_eq_true (g5.resolve_left (by decide)).2⟩)
    (fun z => by
      rw [z] at g4 g6
      exact ⟨Nat.eq_of_beq_eq_true (g4.resolve_left (by decide)), Nat.eq_of_beq_eq_true (g6.resolve_left (by decide)).1, Nat.eq_of_beq_eq_true (g6.resolve_left (by decide)).2⟩)
    (fun _ _ _ _ => rfl)
    (fun _ _ _ hne => mfill_ne hne)
    (fun z => by
      show (match Nat.beq (mKind t) 23 with
            | true => fun _ => (0 : Int64)
            | false => h.2.2.1) = _
      rw [mBeqF (p := mKind t) (q := 23) (fun q => z q.symm)]
      rfl)
    (fun z => by
      show (match Nat.beq (mKind t) 24 with
            | true => fun _ => (0 : UInt64)
            | false => h.2.2.2.1) = _
      rw [mBeqF (p := mKind t) (q := 24) (fun q => z q.symm)]
      rfl) rfl
    (by
      have hi : ∀ (cA : ClassId), arrV cA (mix n) (fun _ => Value.int 0) = vp_cell cA (mix n, .inl (mfill h.2.1 f i j (mix n) 0 f i j)) := by
        intro cA
        rw [vp_cell_i]
        exact mArrV_ext (fun q hq => by rw [mfill_at hq])
      cases t with
      | boolean => exact ⟨fun z => absurd z (by decide), Or.inl (by decide), fun z => absurd z (by decide), fun z => absurd z (by decide), fun _ => ⟨cA, e1.trans (congrArg some (hi cA)), hAr, hRA⟩, fun z => absurd z (by decide), fun z => absurd z (by decide), fun z => absurd z (by decide), fun z => absurd z (by decide)⟩
      | byte => exact ⟨fun z => absurd z (by decide), Or.inl (by decide), fun z => absurd z (by decide), fun z => absurd z (by decide), fun z => absurd z (by decide), fun _ => ⟨cA, e1.trans (congrArg some (hi cA)), hAr, hRA⟩, fun z => absurd z (by decide), fun z => absurd z (by decide), fun z => absurd z (by decide)⟩
      | int => exact ⟨fun z => absurd z (by decide), Or.inl (by decide), fun z => absurd z (by decide), fun _ => ⟨cA, e1.trans (congrArg some (hi cA)), hAr, hRA⟩, fun z => absurd z (by decide), fun z => absurd z (by decide), fun z => absurd z (by decide), fun z => absurd z (by decide), fun z => absurd z (by decide)⟩
      | long => exact ⟨fun z => absurd z (by decide), Or.inl (by decide), fun z => absurd z (by decide), fun z => absurd z (by decide), fun z => absurd z (by decide), fun z => absurd z (by decide), fun _ => ⟨cA, e1, hAr, hRA⟩, fun z => absurd z (by decide), fun z => absurd z (by decide)⟩
      | double => exact ⟨fun z => absurd z (by decide), Or.inl (by decide), fun z => absurd z (by decide), fun z => absurd z (by decide), fun z => absurd z (by decide), fun z => absurd z (by decide), fun z => absurd z (by decide), fun _ => ⟨cA, e1, hAr, hRA⟩, fun z => absurd z (by decide)⟩
      | _ => exact absurd g3 (by decide))
  have kk := k H1 locs ls (na + 1) hpush.1 ⟨Nat.le_trans h2.1 (by omega), fun q q1 q2 => (o1 q (Nat.lt_of_lt_of_le q1 h2.1)).trans (h2.2.1 q q1 q2), h2.2.2⟩ h3 (Nat.le_succ_of_le h4) (Nat.le_trans h5 (Nat.le_add_right _ _))
  refine W.cs (cells' := mCt h + 1 - c0) (slots' := mSl h + mix n - s0) (by omega) (by omega) ?_
  rw [List.map_cons, rv_ref, hpush.2] at kk
  exact kk
theorem mi_anewarray (hF : mFr y p s m args meth c) (hV : mV0 ad b0 D s) (hAO : va_AO "CardCastle$Castle" s) {ix n2 : Nat} {n : Int32} {a f i j : Nat} (hd : cd y pc = some (.anewarray ix)) (hn : mNew (mOwn y) ix = some (1, n2)) (hnx : mNx h = some a) (hal : mAl a = (f, i, j)) {cf sf : Nat} (hR : cf - c0 ≤ R.cells ∧ sf - s0 ≤ R.slots)
    (ho : (!(decide (n < 0)) && Nat.ble (mix n) 100000) = true)
    (hct : mCt h + 1 ≤ cf ∧ mSl h + mix n ≤ sf)
    (k : mW p l e R s m args below meth c D ad b0 y c0 s0 Z ((msset h.1.1 f i j (25, mix n), fun f' i' j' p' => match Nat.beq f f' && Nat.beq i i' && Nat.beq j j' with
              | true => none
              | false => h.1.2 f' i' j' p'), (h.2.1, (h.2.2.1, h.2.2.2.1, some (a + 1), h.2.2.2.2.2.1 + 1, h.2.2.2.2.2.2 + mix n))) (pc + 3) lo (mR f i j :: st)) : mW p l e R s m args below meth c D ad b0 y c0 s0 Z h pc lo (.inl n :: st) := by
  intro H locs ls na h1 h2 h3 h4 h5
  have hdc := mDc hF.2.2.2.2.2.1.2 hd rfl rfl
  obtain ⟨hxx, hb, hml, hown, hts, -⟩ := hF
  simp only [Bool.and_eq_true, Bool.not_eq_true', decide_eq_false_iff_not] at ho
  obtain ⟨g1, g2⟩ := ho
  have g2 := Nat.le_of_ble_eq_true g2
  obtain ⟨hl, hci, -⟩ := mNew_ok hn rfl
  refine W.anew hxx hb hown (hts _ hl) hAO.use rfl hdc rfl g1 (by show mix n * 4 ≤ _; omega) (by omega) (by show _ + mix n ≤ _; omega) fun cA kA comp k1 k2 k3 k4 => ?_
  have z1 : (H.push { cls := cA, slots := Array.replicate n.toNatClampNeg .null, vm := .none }).size = H.size + 1 := by simp
  have o1 : ∀ q : Nat, q < H.size → (H.push { cls := cA, slots := Array.replicate n.toNatClampNeg .null, vm := .none })[q]? = H[q]? := fun q hq => by rw [Array.getElem?_push, if_neg (Nat.ne_of_lt hq)]
  have e1 : (H.push { cls := cA, slots := Array.replicate n.toNatClampNeg .null, vm := .none })[H.size]? = some (arrV cA (mix n) (fun _ => Value.null)) := by rw [← arrV_new]; simp
  generalize (H.push { cls := cA, slots := Array.replicate n.toNatClampNeg .null, vm := .none }) = H1 at z1 o1 e1
  have hpush := mRel.push (kd := 25) (n := mix n) (h1 := ((msset h.1.1 f i j (25, mix n), fun f' i' j' p' => match Nat.beq f f' && Nat.beq i i' && Nat.beq j j' with
              | true => none
              | false => h.1.2 f' i' j' p'), (h.2.1, (h.2.2.1, h.2.2.2.1, some (a + 1), h.2.2.2.2.2.1 + 1, h.2.2.2.2.2.2 + mix n)))) hV.1 h1 hnx hal z1 o1 (fun _ _ _ hne => msset_ne hne) msset_at (by decide) (fun z => absurd z (by decide)) (fun z => absurd z (by decide))
    (fun f' i' j' hne => by
      funext q
      show (match Nat.beq f f' && Nat.beq i i' && Nat.beq j j' with
        | true => none
        | false => h.1.2 f' i' j' q) = _
      rw [mBeq3 hne]
      rfl)
    (fun _ _ _ _ => rfl) (fun _ => rfl) (fun _ => rfl) rfl
    (by
      refine ⟨fun z => absurd z (by decide), Or.inl (by decide), fun z => absurd z (by decide), fun z => absurd z (by decide), fun z => absurd z (by decide), fun z => absurd z (by decide), fun z => absurd z (by decide), fun z => absurd z (by decide), fun _ => ⟨cA, e1.trans ?_, fun n z => ⟨fun k h => (by cases h), kA, k2, comp, k3⟩, ⟨kA, comp, k2, k3, k4, k1⟩⟩⟩
      rw [vp_cell_q]
      refine congrArg some (mArrV_ext fun q hq => ?_)
      show Value.null = va_rf (mOp ad (match Nat.beq f f && Nat.beq i i && Nat.beq j j with
        | true => none
        | false => h.1.2 f i j q))
      rw [mBeqT]
      rfl)
  have kk := k H1 locs ls (na + 1) hpush.1 ⟨Nat.le_trans h2.1 (by omega), fun q q1 q2 => (o1 q (Nat.lt_of_lt_of_le q1 h2.1)).trans (h2.2.1 q q1 q2), h2.2.2⟩ h3 (Nat.le_succ_of_le h4) (Nat.le_trans h5 (Nat.le_add_right _ _))
  refine W.cs (cells' := mCt h + 1 - c0) (slots' := mSl h + mix n - s0) (by omega) (by show _ + mix n = _; omega) ?_
  rw [List.map_cons, rv_ref, hpush.2] at kk
  exact kk
end MK
