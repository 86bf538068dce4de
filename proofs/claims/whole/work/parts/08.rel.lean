/-! WHAT THE SMALL MACHINE'S MEMORY SAYS OF THE HEAP. ad: where each name lies; b0: the heap's size before the system was made; na: how many names have been given. -/
abbrev mAd : Type := Nat → Nat → Nat → Nat
def rv (ad : mAd) (v : mV) : Value := match v with
  | .inl x => .int x
  | .inr (.inl none) => .null
  | .inr (.inl (some (f, i, j))) => .ref (ad f i j)
  | .inr (.inr (.inl x)) => .long x
  | .inr (.inr (.inr (.inl x))) => .float x
  | .inr (.inr (.inr (.inr x))) => .double x
def mFdRef (c q : Nat) : Bool := match mTy c q with
  | .object _ => true
  | .array _ => true
  | _ => false
def mOp (ad : mAd) (o : Option mRf) : Option Nat := match o with
  | none => none
  | some (f, i, j) => some (ad f i j)
def mFV (ad : mAd) (rf : Nat → Option mRf) (mi : Nat → Int32) (c q : Nat) : Value := match mFdRef c q with
  | true => rv ad (.inr (.inl (rf q)))
  | false => .int (mi q)
def mArr (a : Nat) (U : State) (H : Heap) (ty : FieldType) (x : vp_A) : Prop := ∃ cA : ClassId, H[a]? = some (vp_cell cA x) ∧ ArrOfT U cA ty ∧ va_RA U cA ty
def mOld (a : Nat) (U : State) (H : Heap) (n : Nat) (g : Nat → Int32) : Prop := ∃ cell : Cell, H[a]? = some cell ∧ U.isArrayOf cell .int ∧ cell.vm ≠ .unknown ∧ n ≤ cell.slots.size ∧ cell.slots.size.toInt32 = Int32.ofNat n ∧ ∀ q, q < n → cell.slots[q]? = some (.int (g q))
/-- the contents of a cell of kind kd and length n at the address a: references rf, numbers mi, longs ml, doubles md -/
def mCell (D : va_G) (ad : mAd) (rf : Nat → Option mRf) (mi : Nat → Int32) (ml : Nat → Int64) (md : Nat → UInt64) (U : State) (H : Heap) (a kd n : Nat) : Prop :=
    (kd = 30 → mOld a U H n mi) ∧ (kd ≤ 25 ∨ kd = 30) ∧
    (kd < 13 → t_OB a (D.1 kd) (mTN kd) (D.2 kd) H (mFV ad rf mi kd)) ∧
    (kd = 20 → mArr a U H .int (n, .inl mi)) ∧
    (kd = 21 → mArr a U H .boolean (n, .inl mi)) ∧
    (kd = 22 → mArr a U H .byte (n, .inl mi)) ∧
    (kd = 23 → mArr a U H .long (n, .inr (.inl ml))) ∧
    (kd = 24 → mArr a U H .double (n, .inr (.inr (.inr (.inl md))))) ∧
    (kd = 25 → mArr a U H (.object "CardCastle$Castle") (n, .inr (.inr (.inr (.inr fun q => mOp ad (rf q))))))
def mSh (h : mH) : Nat → Nat → Nat → Option (Nat × Nat) := h.1.1
def mRfO (h : mH) : Nat → Nat → Nat → Nat → Option mRf := h.1.2
def mMiO (h : mH) : mMi := h.2.1
def mMlO (h : mH) : Nat → Int64 := h.2.2.1
def mMdO (h : mH) : Nat → UInt64 := h.2.2.2.1
def mNx (h : mH) : Option Nat := h.2.2.2.2.1
def mCt (h : mH) : Nat := h.2.2.2.2.2.1
def mSl (h : mH) : Nat := h.2.2.2.2.2.2
/-- which names have which kinds -/
def mOkN (na : Nat) (sh : Nat → Nat → Nat → Option (Nat × Nat)) : Prop := ∀ f i j kd n, sh f i j = some (kd, n) → (kd = 30 ↔ f = 3) ∧ (f ≠ 3 → ∃ a, a < na ∧ mAl a = (f, i, j)) ∧ (kd = 23 → f = 5 ∧ i = 0 ∧ j = 0) ∧ (kd = 24 → f = 5 ∧ i = 1 ∧ j = 0)
def mRel (D : va_G) (ad : mAd) (b0 na : Nat) (h : mH) (U : State) (H : Heap) : Prop :=
  mOkN na (mSh h) ∧ (∀ f i j kd n, mSh h f i j = some (kd, n) → mCell D ad (mRfO h f i j) (mMiO h f i j) (mMlO h) (mMdO h) U H (ad f i j) kd n) ∧
  b0 + na ≤ H.size ∧ ∀ a, mNx h = some a → a = na ∧ H.size = b0 + na
def mAdOk (ad : mAd) (b0 : Nat) : Prop := (∀ a f i j, mAl a = (f, i, j) → ad f i j = b0 + a) ∧ ∀ i j, ad 3 i j < b0
theorem rv_ref (ad : mAd) (f i j : Nat) : rv ad (mR f i j) = .ref (ad f i j) := rfl
theorem rv_cat (ad : mAd) (v : mV) : (rv ad v).category = mCat v := by
  rcases v with x | (_ | ⟨f, i, j⟩) | x | x | x <;> rfl
theorem mCell.kept {D : va_G} {ad : mAd} {rf : Nat → Option mRf} {mi : Nat → Int32} {ml : Nat → Int64} {md : Nat → UInt64} {U : State} {H H1 : Heap} {a kd n : Nat} (hc : mCell D ad rf mi ml md U H a kd n) (hq : H1[a]? = H[a]?) : mCell D ad rf mi ml md U H1 a kd n := by
  obtain ⟨h1, h3, h4, h5, h6, h7, h8, h9, h10⟩ := hc
  have ka : ∀ {ty : FieldType} {x : vp_A}, mArr a U H ty x → mArr a U H1 ty x := fun ⟨cA, e, r⟩ => ⟨cA, by rw [hq]; exact e, r⟩
  refine ⟨fun e => ?_, h3, fun e => (h4 e).kept hq, fun e => ka (h5 e), fun e => ka (h6 e), fun e => ka (h7 e), fun e => ka (h8 e), fun e => ka (h9 e), fun e => ka (h10 e)⟩
  obtain ⟨cell, e1, e2⟩ := h1 e
  exact ⟨cell, by rw [hq]; exact e1, e2⟩
theorem mCell.moved {D : va_G} {ad : mAd} {rf : Nat → Option mRf} {mi : Nat → Int32} {ml : Nat → Int64} {md : Nat → UInt64} {u U : State} {H : Heap} {a kd n : Nat} (hvm : u.vm.Alike U.vm) (hc : mCell D ad rf mi ml md u H a kd n) : mCell D ad rf mi ml md U H a kd n := by
  obtain ⟨h1, h3, h4, h5, h6, h7, h8, h9, h10⟩ := hc
  have ka : ∀ {ty : FieldType} {x : vp_A}, mArr a u H ty x → mArr a U H ty x := fun ⟨cA, e, r, q⟩ => ⟨cA, e, arrOfT_moved hvm r, q.moved hvm⟩
  refine ⟨fun e => ?_, h3, h4, fun e => ka (h5 e), fun e => ka (h6 e), fun e => ka (h7 e), fun e => ka (h8 e), fun e => ka (h9 e), fun e => ka (h10 e)⟩
  obtain ⟨cell, e1, e2, e3⟩ := h1 e
  exact ⟨cell, e1, State.isArrayOf_alike hvm e2, e3⟩
theorem mRel.moved {D : va_G} {ad : mAd} {b0 na : Nat} {h : mH} {u U : State} {H : Heap} (hvm : u.vm.Alike U.vm) (hr : mRel D ad b0 na h u H) : mRel D ad b0 na h U H :=
  ⟨hr.1, fun f i j kd n e => (hr.2.1 f i j kd n e).moved hvm, hr.2.2⟩
theorem mRel.at {D : va_G} {ad : mAd} {b0 na : Nat} {h : mH} {U : State} {H : Heap} (hr : mRel D ad b0 na h U H) {f i j kd n : Nat} (e : mSh h f i j = some (kd, n)) : mCell D ad (mRfO h f i j) (mMiO h f i j) (mMlO h) (mMdO h) U H (ad f i j) kd n := hr.2.1 f i j kd n e
theorem mAl_f {a f i j : Nat} (h : mAl a = (f, i, j)) : f ≠ 3 := by
  intro h3
  unfold mAl at h
  split at h
  · rename_i hb
    have hlt : a < mAlN := Nat.le_of_ble_eq_true hb
    have key : ∀ a, a < mAlN → (mAlT a).1 ≠ 3 := by decide +kernel
    exact key a hlt (by rw [h]; exact h3)
  · cases h
    cases h3
theorem mAd_ge {ad : mAd} {b0 na f i j kd n : Nat} {sh : Nat → Nat → Nat → Option (Nat × Nat)} (hA : mAdOk ad b0) (ho : mOkN na sh) (e : sh f i j = some (kd, n)) (hf : f ≠ 3) : ∃ a, a < na ∧ mAl a = (f, i, j) ∧ ad f i j = b0 + a := by
  obtain ⟨a, ha, he⟩ := (ho f i j kd n e).2.1 hf
  exact ⟨a, ha, he, hA.1 a f i j he⟩
theorem mAd_ne {ad : mAd} {b0 na f i j kd n f' i' j' kd' n' : Nat} {sh : Nat → Nat → Nat → Option (Nat × Nat)} (hA : mAdOk ad b0) (ho : mOkN na sh) (e : sh f i j = some (kd, n)) (hf : f ≠ 3) (e' : sh f' i' j' = some (kd', n')) (hne : ¬ (f' = f ∧ i' = i ∧ j' = j)) : ad f' i' j' ≠ ad f i j := by
  obtain ⟨a, ha, h1, h2⟩ := mAd_ge hA ho e hf
  by_cases h3 : f' = 3
  · subst h3
    have := hA.2 i' j'
    omega
  · obtain ⟨a', ha', h1', h2'⟩ := mAd_ge hA ho e' h3
    intro he
    have : a' = a := by omega
    subst this
    rw [h1] at h1'
    cases h1'
    exact hne ⟨rfl, rfl, rfl⟩
/-- one name's cell is written: the others' contents are the same -/
theorem mRel.upd {D : va_G} {ad : mAd} {b0 na : Nat} {h h1 : mH} {U : State} {H H1 : Heap} {f i j kd n : Nat} (hA : mAdOk ad b0) (hr : mRel D ad b0 na h U H) (e : mSh h f i j = some (kd, n)) (hf : f ≠ 3)
    (hsz : H1.size = H.size) (oq : ∀ q : Nat, q ≠ ad f i j → H1[q]? = H[q]?) (hsh : mSh h1 = mSh h) (hnx : mNx h1 = mNx h)
    (hrf : ∀ f' i' j', ¬ (f' = f ∧ i' = i ∧ j' = j) → mRfO h1 f' i' j' = mRfO h f' i' j') (hmi : ∀ f' i' j', ¬ (f' = f ∧ i' = i ∧ j' = j) → mMiO h1 f' i' j' = mMiO h f' i' j') (hml : kd ≠ 23 → mMlO h1 = mMlO h) (hmd : kd ≠ 24 → mMdO h1 = mMdO h)
    (hnew : mCell D ad (mRfO h f i j) (mMiO h f i j) (mMlO h) (mMdO h) U H (ad f i j) kd n → mCell D ad (mRfO h1 f i j) (mMiO h1 f i j) (mMlO h1) (mMdO h1) U H1 (ad f i j) kd n) : mRel D ad b0 na h1 U H1 := by
  obtain ⟨ho, hc, h2, h3⟩ := hr
  refine ⟨by rw [hsh]; exact ho, fun f' i' j' kd' n' e' => ?_, by rw [hsz]; exact h2, fun a ha => by rw [hsz]; rw [hnx] at ha; exact h3 a ha⟩
  rw [hsh] at e'
  have g1 := hc f' i' j' kd' n' e'
  by_cases hs : f' = f ∧ i' = i ∧ j' = j
  · obtain ⟨rfl, rfl, rfl⟩ := hs
    cases e.symm.trans e'
    exact hnew g1
  · have g2 := g1.kept (oq _ (mAd_ne hA ho e hf e' hs))
    rw [hrf f' i' j' hs, hmi f' i' j' hs]
    obtain ⟨q1, q3, q4, q5, q6, q7, q8, q9, q10⟩ := g2
    refine ⟨q1, q3, q4, q5, q6, q7, fun z => ?_, fun z => ?_, q10⟩
    · have k1 := (ho f' i' j' kd' n' e').2.2.1 z
      have k2 := (ho f i j kd n e).2.2.1
      rw [hml (fun z2 => hs ⟨k1.1.trans (k2 z2).1.symm, k1.2.1.trans (k2 z2).2.1.symm, k1.2.2.trans (k2 z2).2.2.symm⟩)]
      exact q8 z
    · have k1 := (ho f' i' j' kd' n' e').2.2.2 z
      have k2 := (ho f i j kd n e).2.2.2
      rw [hmd (fun z2 => hs ⟨k1.1.trans (k2 z2).1.symm, k1.2.1.trans (k2 z2).2.1.symm, k1.2.2.trans (k2 z2).2.2.symm⟩)]
      exact q9 z
theorem mBeq3 {f i j f' i' j' : Nat} (h : ¬ (f' = f ∧ i' = i ∧ j' = j)) : (Nat.beq f f' && Nat.beq i i' && Nat.beq j j') = false := by
  rw [Bool.eq_false_iff]
  intro e
  simp only [Bool.and_eq_true] at e
  exact h ⟨(Nat.eq_of_beq_eq_true e.1.1).symm, (Nat.eq_of_beq_eq_true e.1.2).symm, (Nat.eq_of_beq_eq_true e.2).symm⟩
theorem mBeqF {p q : Nat} (h : q ≠ p) : Nat.beq p q = false := by
  rw [Bool.eq_false_iff]
  intro e
  exact h (Nat.eq_of_beq_eq_true e).symm
theorem mset_ne {mi : mMi} {f i j p : Nat} {v : Int32} {f' i' j' : Nat} (h : ¬ (f' = f ∧ i' = i ∧ j' = j)) : mset mi f i j p v f' i' j' = mi f' i' j' := by
  funext q
  unfold mset
  rw [mBeq3 h]
  rfl
theorem mset_at {mi : mMi} {f i j p : Nat} {v : Int32} : mset mi f i j p v f i j = upd (mi f i j) p v := by
  funext q
  unfold mset upd
  simp only [Nat.beq_refl, Bool.true_and]
  by_cases h : q = p
  · subst h; simp [Nat.beq_refl]
  · rw [if_neg h, mBeqF h]
theorem mrset_ne {rf : Nat → Nat → Nat → Nat → Option mRf} {f i j p : Nat} {v : Option mRf} {f' i' j' : Nat} (h : ¬ (f' = f ∧ i' = i ∧ j' = j)) : mrset rf f i j p v f' i' j' = rf f' i' j' := by
  funext q
  unfold mrset
  rw [mBeq3 h]
  rfl
def mUpR (f : Nat → Option mRf) (k : Nat) (x : Option mRf) : Nat → Option mRf := fun q => if q = k then x else f q
theorem mrset_at {rf : Nat → Nat → Nat → Nat → Option mRf} {f i j p : Nat} {v : Option mRf} : mrset rf f i j p v f i j = mUpR (rf f i j) p v := by
  funext q
  unfold mrset mUpR
  simp only [Nat.beq_refl, Bool.true_and]
  by_cases h : q = p
  · subst h; simp [Nat.beq_refl]
  · rw [if_neg h, mBeqF h]
theorem mfill_ne {mi : mMi} {f i j n : Nat} {v : Int32} {f' i' j' : Nat} (h : ¬ (f' = f ∧ i' = i ∧ j' = j)) : mfill mi f i j n v f' i' j' = mi f' i' j' := by
  funext q
  unfold mfill
  rw [mBeq3 h]
  rfl
theorem mcopy_ne {mi : mMi} {f i j sp f2 i2 j2 dp n : Nat} {f' i' j' : Nat} (h : ¬ (f' = f2 ∧ i' = i2 ∧ j' = j2)) : mcopy mi f i j sp f2 i2 j2 dp n f' i' j' = mi f' i' j' := by
  funext q
  unfold mcopy
  rw [mBeq3 h]
  rfl
/-- a field of numbers is written -/
theorem mCell.putI {D : va_G} {ad : mAd} {rf : Nat → Option mRf} {mi : Nat → Int32} {ml : Nat → Int64} {md : Nat → UInt64} {U : State} {H1 : Heap} {a kd n q : Nat} {v : Int32} (hk : kd < 13) (hq : mFdRef kd q = false)
    (h : t_OB a (D.1 kd) (mTN kd) (D.2 kd) H1 (updV (mFV ad rf mi kd) q (.int v))) : mCell D ad rf (upd mi q v) ml md U H1 a kd n := by
  refine ⟨fun z => absurd z (by omega), by omega, fun _ => h.to fun k _ => ?_, fun z => absurd z (by omega), fun z => absurd z (by omega), fun z => absurd z (by omega), fun z => absurd z (by omega), fun z => absurd z (by omega), fun z => absurd z (by omega)⟩
  unfold updV mFV upd
  by_cases hkq : k = q
  · subst hkq
    rw [if_pos rfl, if_pos rfl, hq]
  · rw [if_neg hkq, if_neg hkq]
/-- a field of references is written -/
theorem mCell.putR {D : va_G} {ad : mAd} {rf : Nat → Option mRf} {mi : Nat → Int32} {ml : Nat → Int64} {md : Nat → UInt64} {U : State} {H1 : Heap} {a kd n q : Nat} {v : Option mRf} (hk : kd < 13) (hq : mFdRef kd q = true)
    (h : t_OB a (D.1 kd) (mTN kd) (D.2 kd) H1 (updV (mFV ad rf mi kd) q (rv ad (.inr (.inl v))))) : mCell D ad (mUpR rf q v) mi ml md U H1 a kd n := by
  refine ⟨fun z => absurd z (by omega), by omega, fun _ => h.to fun k _ => ?_, fun z => absurd z (by omega), fun z => absurd z (by omega), fun z => absurd z (by omega), fun z => absurd z (by omega), fun z => absurd z (by omega), fun z => absurd z (by omega)⟩
  unfold updV mFV mUpR
  by_cases hkq : k = q
  · subst hkq
    rw [if_pos rfl, if_pos rfl, hq]
  · rw [if_neg hkq, if_neg hkq]
