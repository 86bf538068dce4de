/-! WHAT THE SMALL MACHINE'S MEMORY SAYS OF THE HEAP. ad: where each name lies; b0: the heap's size before the system was made; na: how many names have been given. -/
abbrev mAd : Type := Nat → Nat → Nat → Nat
def rv (ad : mAd) (v : mV) : Value := match v with
  | .inl x => .int x
  | .inr (.inl none) => .null
  | .inr (.inl (some (f, i, j))) => .ref (ad f i j)
  | .inr (.inr (.inl x)) => .long x
  | .inr (.inr (.inr (.inl x))) => .float x
  | .inr (.inr (.inr (.inr x))) => .double x
def mFdRef (c q : Nat) : Bool := match mTy c q with
  | .object _ => true
  | .array _ => true
  | _ => false
def mOp (ad : mAd) (o : Option mRf) : Option Nat := match o with
  | none => none
  | some (f, i, j) => some (ad f i j)
def mFV (ad : mAd) (rf : Nat → Option mRf) (mi : Nat → Int32) (c q : Nat) : Value := match mFdRef c q with
  | true => rv ad (.inr (.inl (rf q)))
  | false => .int (mi q)
def mArr (a : Nat) (U : State) (H : Heap) (ty : FieldType) (x : vp_A) : Prop := ∃ cA : ClassId, H[a]? = some (vp_cell cA x) ∧ ArrOfT U cA ty ∧ va_RA U cA ty
def mOld (a : Nat) (U : State) (H : Heap) (n : Nat) (g : Nat → Int32) : Prop := ∃ cell : Cell, H[a]? = some cell ∧ U.isArrayOf cell .int ∧ cell.vm ≠ .unknown ∧ n ≤ cell.slots.size ∧ cell.slots.size.toInt32 = Int32.ofNat n ∧ ∀ q, q < n → cell.slots[q]? = some (.int (g q))
/-- the contents of a cell of kind kd and length n at the address a: references rf, numbers mi, longs ml, doubles md -/
def mOldB (a : Nat) (U : State) (H : Heap) (n : Nat) (g : Nat → Int32) : Prop := ∃ cell : Cell, H[a]? = some cell ∧ U.isArrayOf cell .byte ∧ cell.vm ≠ .unknown ∧ n ≤ cell.slots.size ∧ cell.slots.size.toInt32 = Int32.ofNat n ∧ ∀ q, q < n → cell.slots[q]? = some (.int (g q))
def mCell (D : va_G) (ad : mAd) (rf : Nat → Option mRf) (mi : Nat → Int32) (U : State) (H : Heap) (a kd n : Nat) : Prop :=
    (kd = 30 → mOld a U H n mi) ∧ (kd ≤ 25 ∨ kd = 30) ∧
    (kd < 16 → t_OB a (D.1 kd) (mTN kd) (D.2 kd) H (mFV ad rf mi kd)) ∧
    (kd = 20 → mArr a U H .int (n, .inl mi)) ∧
    (kd = 21 → mArr a U H .boolean (n, .inl mi)) ∧
    (kd = 22 → mArr a U H .byte (n, .inl mi)) ∧
    (kd = 23 → mArr a U H (.array .int) (n, .inr (.inr (.inr (.inr fun q => mOp ad (rf q)))))) ∧
    (kd = 24 → mOldB a U H n mi) ∧
    (kd = 25 → mArr a U H (.object "CardCastle$Castle") (n, .inr (.inr (.inr (.inr fun q => mOp ad (rf q))))))
def mSh (h : mH) : Nat → Nat → Nat → Option (Nat × Nat) := h.1.1
def mRfO (h : mH) : Nat → Nat → Nat → Nat → Option mRf := h.1.2
def mMiO (h : mH) : mMi := h.2.1
def mQ (h : mH) : Nat × Nat := h.2.2.1
def mNx (h : mH) : Nat := h.2.2.2.1
def mCt (h : mH) : Nat := h.2.2.2.2.1
def mSl (h : mH) : Nat := h.2.2.2.2.2
/-- where a name of the class's lies in the order of making -/
def mIvF (l : List (Nat × Nat × Nat)) (f i j k : Nat) : Nat := match l with
  | [] => 0
  | (f', i', j') :: r => match Nat.beq f f' && Nat.beq i i' && Nat.beq j j' with
    | true => k
    | false => mIvF r f i j (k + 1)
def mAlAll : List (Nat × Nat × Nat) := mAlT_L.flatten
def mIv (f i j : Nat) : Nat := mIvF mAlAll f i j 0
/-- where a cell of a World's own lies from its base -/
def mWat6 (j : Nat) : Nat := match Nat.beq j 0 with
  | true => 0
  | false => match Nat.blt j 10 with
    | true => j + 2
    | false => match Nat.blt j 16 with
      | true => mWat j
      | false => 98
set_option maxRecDepth 100000 in
theorem mIv_key : ∀ a, a < mAlN → mIv (mAlT a).1 (mAlT a).2.1 (mAlT a).2.2 = a := by decide +kernel
set_option maxRecDepth 100000 in
theorem mAlT_f : ∀ a, a < mAlN → (mAlT a).1 < 3 := by decide +kernel
/-- how many cells stood when the name's cell was made -/
def mAdx (A0 f i j : Nat) : Nat := match Nat.blt f 3 with
  | true => A0 + mIv f i j
  | false => match Nat.beq f 6 with
    | true => i + mWat6 j
    | false => match Nat.beq f 7 with
      | true => 0
      | false => match Nat.blt f 20 with
        | true => i
        | false => match Nat.blt f 25 with
          | true => i + (13 + 11 * (f - 20) + j)
          | false => i + (68 + j)
/-- which names have which kinds: a name's number is below na, and no two have the same -/
def mOkN (A0 na : Nat) (sh : Nat → Nat → Nat → Option (Nat × Nat)) : Prop := ∀ f i j kd n, sh f i j = some (kd, n) → (f = 3 ↔ kd = 30 ∨ kd = 24) ∧ (f ≠ 3 → mAdx A0 f i j < na) ∧ ∀ f' i' j' kd' n', sh f' i' j' = some (kd', n') → f ≠ 3 → f' ≠ 3 → mAdx A0 f i j = mAdx A0 f' i' j' → f' = f ∧ i' = i ∧ j' = j
def mRel (D : va_G) (ad : mAd) (b0 na : Nat) (h : mH) (U : State) (H : Heap) : Prop :=
  mOkN (mQ h).1 na (mSh h) ∧ (∀ f i j kd n, mSh h f i j = some (kd, n) → mCell D ad (mRfO h f i j) (mMiO h f i j) U H (ad f i j) kd n) ∧
  mNx h = na ∧ H.size = b0 + na ∧ ad 2 0 0 = b0 + (mQ h).1
def mAdOk (ad : mAd) (b0 : Nat) : Prop := (∃ A0, ad 2 0 0 = b0 + A0 ∧ ∀ f i j, f ≠ 3 → ad f i j = b0 + mAdx A0 f i j) ∧ ∀ i j, ad 3 i j < b0
theorem rv_ref (ad : mAd) (f i j : Nat) : rv ad (mR f i j) = .ref (ad f i j) := rfl
theorem rv_cat (ad : mAd) (v : mV) : (rv ad v).category = mCat v := by
  rcases v with x | (_ | ⟨f, i, j⟩) | x | x | x <;> rfl
theorem mCell.kept {D : va_G} {ad : mAd} {rf : Nat → Option mRf} {mi : Nat → Int32} {U : State} {H H1 : Heap} {a kd n : Nat} (hc : mCell D ad rf mi U H a kd n) (hq : H1[a]? = H[a]?) : mCell D ad rf mi U H1 a kd n := by
  obtain ⟨h1, h3, h4, h5, h6, h7, h8, h9, h10⟩ := hc
  have ka : ∀ {ty : FieldType} {x : vp_A}, mArr a U H ty x → mArr a U H1 ty x := fun ⟨cA, e, r⟩ => ⟨cA, by rw [hq]; exact e, r⟩
  refine ⟨fun e => ?_, h3, fun e => (h4 e).kept hq, fun e => ka (h5 e), fun e => ka (h6 e), fun e => ka (h7 e), fun e => ka (h8 e), fun e => ?_, fun e => ka (h10 e)⟩
  · obtain ⟨cell, e1, e2⟩ := h1 e
    exact ⟨cell, by rw [hq]; exact e1, e2⟩
  · obtain ⟨cell, e1, e2⟩ := h9 e
    exact ⟨cell, by rw [hq]; exact e1, e2⟩
theorem mCell.moved {D : va_G} {ad : mAd} {rf : Nat → Option mRf} {mi : Nat → Int32} {u U : State} {H : Heap} {a kd n : Nat} (hvm : u.vm.Alike U.vm) (hc : mCell D ad rf mi u H a kd n) : mCell D ad rf mi U H a kd n := by
  obtain ⟨h1, h3, h4, h5, h6, h7, h8, h9, h10⟩ := hc
  have ka : ∀ {ty : FieldType} {x : vp_A}, mArr a u H ty x → mArr a U H ty x := fun ⟨cA, e, r, q⟩ => ⟨cA, e, arrOfT_moved hvm r, q.moved hvm⟩
  refine ⟨fun e => ?_, h3, h4, fun e => ka (h5 e), fun e => ka (h6 e), fun e => ka (h7 e), fun e => ka (h8 e), fun e => ?_, fun e => ka (h10 e)⟩
  · obtain ⟨cell, e1, e2, e3⟩ := h1 e
    exact ⟨cell, e1, State.isArrayOf_alike hvm e2, e3⟩
  · obtain ⟨cell, e1, e2, e3⟩ := h9 e
    exact ⟨cell, e1, State.isArrayOf_alike hvm e2, e3⟩
theorem mRel.moved {D : va_G} {ad : mAd} {b0 na : Nat} {h : mH} {u U : State} {H : Heap} (hvm : u.vm.Alike U.vm) (hr : mRel D ad b0 na h u H) : mRel D ad b0 na h U H :=
  ⟨hr.1, fun f i j kd n e => (hr.2.1 f i j kd n e).moved hvm, hr.2.2⟩
theorem mRel.at {D : va_G} {ad : mAd} {b0 na : Nat} {h : mH} {U : State} {H : Heap} (hr : mRel D ad b0 na h U H) {f i j kd n : Nat} (e : mSh h f i j = some (kd, n)) : mCell D ad (mRfO h f i j) (mMiO h f i j) U H (ad f i j) kd n := hr.2.1 f i j kd n e
theorem mAd_at {ad : mAd} {b0 na f i j : Nat} {h : mH} {D : va_G} {U : State} {H : Heap} (hA : mAdOk ad b0) (hr : mRel D ad b0 na h U H) (hf : f ≠ 3) : ad f i j = b0 + mAdx (mQ h).1 f i j := by
  obtain ⟨⟨A0, e1, e2⟩, -⟩ := hA
  have e3 := hr.2.2.2.2
  have : A0 = (mQ h).1 := by omega
  rw [← this]
  exact e2 f i j hf
theorem mAd_ge {ad : mAd} {b0 na f i j kd n : Nat} {h : mH} {D : va_G} {U : State} {H : Heap} (hA : mAdOk ad b0) (hr : mRel D ad b0 na h U H) (e : mSh h f i j = some (kd, n)) (hf : f ≠ 3) : ∃ a, a < na ∧ ad f i j = b0 + a :=
  ⟨_, (hr.1 f i j kd n e).2.1 hf, mAd_at hA hr hf⟩
theorem mAd_ne {ad : mAd} {b0 na f i j kd n f' i' j' kd' n' : Nat} {h : mH} {D : va_G} {U : State} {H : Heap} (hA : mAdOk ad b0) (hr : mRel D ad b0 na h U H) (e : mSh h f i j = some (kd, n)) (hf : f ≠ 3) (e' : mSh h f' i' j' = some (kd', n')) (hne : ¬ (f' = f ∧ i' = i ∧ j' = j)) : ad f' i' j' ≠ ad f i j := by
  have h2 := mAd_at hA hr hf (i := i) (j := j)
  by_cases h3 : f' = 3
  · subst h3
    have := hA.2 i' j'
    omega
  · have h2' := mAd_at hA hr h3 (i := i') (j := j')
    intro he
    exact hne ((hr.1 f i j kd n e).2.2 f' i' j' kd' n' e' hf h3 (by omega))
/-- one name's cell is written: the others' contents are the same -/
theorem mRel.upd {D : va_G} {ad : mAd} {b0 na : Nat} {h h1 : mH} {U : State} {H H1 : Heap} {f i j kd n : Nat} (hA : mAdOk ad b0) (hr : mRel D ad b0 na h U H) (e : mSh h f i j = some (kd, n)) (hf : f ≠ 3)
    (hsz : H1.size = H.size) (oq : ∀ q : Nat, q ≠ ad f i j → H1[q]? = H[q]?) (hsh : mSh h1 = mSh h) (hnx : h1.2.2 = h.2.2)
    (hrf : ∀ f' i' j', ¬ (f' = f ∧ i' = i ∧ j' = j) → mRfO h1 f' i' j' = mRfO h f' i' j') (hmi : ∀ f' i' j', ¬ (f' = f ∧ i' = i ∧ j' = j) → mMiO h1 f' i' j' = mMiO h f' i' j')
    (hnew : mCell D ad (mRfO h f i j) (mMiO h f i j) U H (ad f i j) kd n → mCell D ad (mRfO h1 f i j) (mMiO h1 f i j) U H1 (ad f i j) kd n) : mRel D ad b0 na h1 U H1 := by
  have hr0 := hr
  obtain ⟨ho, hc, h2, h3, h4⟩ := hr
  have hq : mQ h1 = mQ h := congrArg (fun x : mRm => x.1) hnx
  have hn : mNx h1 = mNx h := congrArg (fun x : mRm => x.2.1) hnx
  refine ⟨by rw [hsh, hq]; exact ho, fun f' i' j' kd' n' e' => ?_, by rw [hn]; exact h2, by rw [hsz]; exact h3, by rw [hq]; exact h4⟩
  rw [hsh] at e'
  have g1 := hc f' i' j' kd' n' e'
  by_cases hs : f' = f ∧ i' = i ∧ j' = j
  · obtain ⟨rfl, rfl, rfl⟩ := hs
    cases e.symm.trans e'
    exact hnew g1
  · have g2 := g1.kept (oq _ (mAd_ne hA hr0 e hf e' hs))
    rw [hrf f' i' j' hs, hmi f' i' j' hs]
    exact g2
theorem mBeq3 {f i j f' i' j' : Nat} (h : ¬ (f' = f ∧ i' = i ∧ j' = j)) : (Nat.beq f f' && Nat.beq i i' && Nat.beq j j') = false := by
  rw [Bool.eq_false_iff]
  intro e
  simp only [Bool.and_eq_true] at e
  exact h ⟨(Nat.eq_of_beq_eq_true e.1.1).symm, (Nat.eq_of_beq_eq_true e.1.2).symm, (Nat.eq_of_beq_eq_true e.2).symm⟩
theorem mBeqF {p q : Nat} (h : q ≠ p) : Nat.beq p q = false := by
  rw [Bool.eq_false_iff]
  intro e
  exact h (Nat.eq_of_beq_eq_true e).symm
theorem mset_ne {mi : mMi} {f i j p : Nat} {v : Int32} {f' i' j' : Nat} (h : ¬ (f' = f ∧ i' = i ∧ j' = j)) : mset mi f i j p v f' i' j' = mi f' i' j' := by
  funext q
  unfold mset
  rw [mBeq3 h]
  rfl
theorem mset_at {mi : mMi} {f i j p : Nat} {v : Int32} : mset mi f i j p v f i j = upd (mi f i j) p v := by
  funext q
  unfold mset upd
  simp only [Nat.beq_refl, Bool.true_and]
  by_cases h : q = p
  · subst h; simp [Nat.beq_refl]
  · rw [if_neg h, mBeqF h]
theorem mrset_ne {rf : Nat → Nat → Nat → Nat → Option mRf} {f i j p : Nat} {v : Option mRf} {f' i' j' : Nat} (h : ¬ (f' = f ∧ i' = i ∧ j' = j)) : mrset rf f i j p v f' i' j' = rf f' i' j' := by
  funext q
  unfold mrset
  rw [mBeq3 h]
  rfl
def mUpR (f : Nat → Option mRf) (k : Nat) (x : Option mRf) : Nat → Option mRf := fun q => if q = k then x else f q
theorem mrset_at {rf : Nat → Nat → Nat → Nat → Option mRf} {f i j p : Nat} {v : Option mRf} : mrset rf f i j p v f i j = mUpR (rf f i j) p v := by
  funext q
  unfold mrset mUpR
  simp only [Nat.beq_refl, Bool.true_and]
  by_cases h : q = p
  · subst h; simp [Nat.beq_refl]
  · rw [if_neg h, mBeqF h]
theorem mfill_ne {mi : mMi} {f i j n : Nat} {v : Int32} {f' i' j' : Nat} (h : ¬ (f' = f ∧ i' = i ∧ j' = j)) : mfill mi f i j n v f' i' j' = mi f' i' j' := by
  funext q
  unfold mfill
  rw [mBeq3 h]
  rfl
theorem mcopy_ne {mi : mMi} {f i j sp f2 i2 j2 dp n : Nat} {f' i' j' : Nat} (h : ¬ (f' = f2 ∧ i' = i2 ∧ j' = j2)) : mcopy mi f i j sp f2 i2 j2 dp n f' i' j' = mi f' i' j' := by
  funext q
  unfold mcopy
  rw [mBeq3 h]
  rfl
/-- a field of numbers is written -/
theorem mCell.putI {D : va_G} {ad : mAd} {rf : Nat → Option mRf} {mi : Nat → Int32} {U : State} {H1 : Heap} {a kd n q : Nat} {v : Int32} (hk : kd < 16) (hq : mFdRef kd q = false)
    (h : t_OB a (D.1 kd) (mTN kd) (D.2 kd) H1 (updV (mFV ad rf mi kd) q (.int v))) : mCell D ad rf (upd mi q v) U H1 a kd n := by
  refine ⟨fun z => absurd z (by omega), by omega, fun _ => h.to fun k _ => ?_, fun z => absurd z (by omega), fun z => absurd z (by omega), fun z => absurd z (by omega), fun z => absurd z (by omega), fun z => absurd z (by omega), fun z => absurd z (by omega)⟩
  unfold updV mFV upd
  by_cases hkq : k = q
  · subst hkq
    rw [if_pos rfl, if_pos rfl, hq]
  · rw [if_neg hkq, if_neg hkq]
/-- a field of references is written -/
theorem mCell.putR {D : va_G} {ad : mAd} {rf : Nat → Option mRf} {mi : Nat → Int32} {U : State} {H1 : Heap} {a kd n q : Nat} {v : Option mRf} (hk : kd < 16) (hq : mFdRef kd q = true)
    (h : t_OB a (D.1 kd) (mTN kd) (D.2 kd) H1 (updV (mFV ad rf mi kd) q (rv ad (.inr (.inl v))))) : mCell D ad (mUpR rf q v) mi U H1 a kd n := by
  refine ⟨fun z => absurd z (by omega), by omega, fun _ => h.to fun k _ => ?_, fun z => absurd z (by omega), fun z => absurd z (by omega), fun z => absurd z (by omega), fun z => absurd z (by omega), fun z => absurd z (by omega), fun z => absurd z (by omega)⟩
  unfold updV mFV mUpR
  by_cases hkq : k = q
  · subst hkq
    rw [if_pos rfl, if_pos rfl, hq]
  · rw [if_neg hkq, if_neg hkq]
