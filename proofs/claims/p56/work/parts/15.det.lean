/-! THE SMALL MACHINE IS DETERMINED. -/
def mckO {α : Type} (b : Bool) (x : Option α) : Option α := match b with
  | true => x
  | false => none
def mifO {α : Type} (b : Bool) (x y : Option α) : Option α := match b with
  | true => x
  | false => y
theorem mck_iff {b : Bool} {P : Prop} : mck b P ↔ b = true ∧ P := by
  cases b
  · exact ⟨fun h => h.elim, fun h => by cases h.1⟩
  · exact ⟨fun h => ⟨rfl, h⟩, fun h => h.2⟩
theorem mif_iff {b : Bool} {P Q : Prop} : mif b P Q ↔ (b = true ∧ P) ∨ (b = false ∧ Q) := by
  cases b
  · exact ⟨fun h => Or.inr ⟨rfl, h⟩, fun h => h.elim (fun q => by cases q.1) fun q => q.2⟩
  · exact ⟨fun h => Or.inl ⟨rfl, h⟩, fun h => h.elim (fun q => q.2) fun q => by cases q.1⟩
theorem mck_O {α : Type} {b : Bool} {P : Prop} {o : Option α} {k : α → Prop} (h : P ↔ ∃ x, o = some x ∧ k x) : mck b P ↔ ∃ x, mckO b o = some x ∧ k x := by
  cases b
  · exact ⟨fun h => h.elim, fun ⟨x, q, _⟩ => by cases q⟩
  · exact h
theorem mif_O {α : Type} {b : Bool} {P Q : Prop} {o o2 : Option α} {k : α → Prop} (h : P ↔ ∃ x, o = some x ∧ k x) (h2 : Q ↔ ∃ x, o2 = some x ∧ k x) : mif b P Q ↔ ∃ x, mifO b o o2 = some x ∧ k x := by
  cases b
  · exact h2
  · exact h
def mImp (a b : Prop) : Prop := a → b
theorem mk_O {α : Type} {x : α} {k : α → Prop} : k x ↔ ∃ z, some x = some z ∧ k z := ⟨fun h => ⟨x, rfl, h⟩, fun ⟨z, q, h⟩ => by cases q; exact h⟩
theorem mF_O {α : Type} {k : α → Prop} : False ↔ ∃ z, none = some z ∧ k z := ⟨fun h => h.elim, fun ⟨z, q, h⟩ => by cases q⟩
/-- what mx comes to, as a value -/
def mxF (own m pc : Nat) (ins : Instr) (lo : mLo) (st : mSt) (h : mH) : Option mS :=
  match ins, st with
  | .aload_n i, st => match lo[(i : Nat)]? with
    | some (some (.inr (.inl (some r)))) => some (.inl (pc + 1, lo, .inr (.inl (some r)) :: st, h))
    | _ => none
  | .aload i, st => match lo[i]? with
    | some (some (.inr (.inl (some r)))) => some (.inl (pc + 2, lo, .inr (.inl (some r)) :: st, h))
    | _ => none
  | .iload_n i, st => match lo[(i : Nat)]? with
    | some (some (.inl x)) => some (.inl (pc + 1, lo, .inl x :: st, h))
    | _ => none
  | .iload i, st => match lo[i]? with
    | some (some (.inl x)) => some (.inl (pc + 2, lo, .inl x :: st, h))
    | _ => none
  | .fload i, st => match lo[i]? with
    | some (some (.inr (.inr (.inr (.inl x))))) => some (.inl (pc + 2, lo, mF x :: st, h))
    | _ => none
  | .dload i, st => match lo[i]? with
    | some (some (.inr (.inr (.inr (.inr x))))) => some (.inl (pc + 2, lo, mD x :: st, h))
    | _ => none
  | .istore_n i, .inl x :: st => mckO (Nat.blt i lo.length && mOkSt lo i) (some (.inl (pc + 1, mPut lo i (.inl x), st, h)))
  | .istore i, .inl x :: st => mckO (Nat.blt i lo.length && mOkSt lo i) (some (.inl (pc + 2, mPut lo i (.inl x), st, h)))
  | .astore_n i, .inr (.inl (some r)) :: st => mckO (Nat.blt i lo.length && mOkSt lo i) (some (.inl (pc + 1, mPut lo i (.inr (.inl (some r))), st, h)))
  | .astore i, .inr (.inl (some r)) :: st => mckO (Nat.blt i lo.length && mOkSt lo i) (some (.inl (pc + 2, mPut lo i (.inr (.inl (some r))), st, h)))
  | .fstore i, .inr (.inr (.inr (.inl x))) :: st => mckO (Nat.blt i lo.length && mOkSt lo i) (some (.inl (pc + 2, mPut lo i (mF x), st, h)))
  | .dstore i, .inr (.inr (.inr (.inr x))) :: st => mckO (Nat.blt (i + 1) lo.length && mOkSt lo i && !(mCat2 lo[i + 1]?)) (some (.inl (pc + 2, mPut2 lo i (mD x), st, h)))
  | .iconst n, st => some (.inl (pc + 1, lo, mI (Int32.ofInt n) :: st, h))
  | .bipush n, st => some (.inl (pc + 2, lo, mI (Int8.ofInt n).toInt32 :: st, h))
  | .sipush n, st => some (.inl (pc + 3, lo, mI (Int16.ofInt n).toInt32 :: st, h))
  | .lconst n, st => some (.inl (pc + 1, lo, mL (Int64.ofNat (n : Nat)) :: st, h))
  | .fconst 0, st => some (.inl (pc + 1, lo, mF 0 :: st, h))
  | .dconst 0, st => some (.inl (pc + 1, lo, mD 0 :: st, h))
  | .ldc ix, st => match mStr own ix with
    | some s => some (.inl (pc + 2, lo, mR 3 3 s :: st, h))
    | none => match mCon own ix with
      | some x => some (.inl (pc + 2, lo, mI x :: st, h))
      | none => none
  | .ldc_w ix, st => match mStr own ix with
    | some s => some (.inl (pc + 3, lo, mR 3 3 s :: st, h))
    | none => match mCon own ix with
      | some x => some (.inl (pc + 3, lo, mI x :: st, h))
      | none => none
  | .ldc2_w ix, st => match mLon own ix with
    | some x => some (.inl (pc + 3, lo, mL x :: st, h))
    | none => none
  | .aconst_null, st => some (.inl (pc + 1, lo, .inr (.inl none) :: st, h))
  | .ifnonnull off, .inr (.inl (some _)) :: st => mckO (mFw pc off) (some (.inl (mTgt pc off, lo, st, h)))
  | .dup_x1, v :: w :: st => mckO (Nat.beq (mCat v) 1 && Nat.beq (mCat w) 1) (some (.inl (pc + 1, lo, v :: w :: v :: st, h)))
  | .i2c, .inl x :: st => mckO (!(decide (x < 0)) && Nat.blt (mix x) 65536) (some (.inl (pc + 1, lo, mI x :: st, h)))
  | .checkcast ix, .inr (.inl (some (f, i, j))) :: st => match h with
    | ((sh, rf), (mi, rs)) => mckO (mCst own ix && mIsObj (sh f i j) 22) (some (.inl (pc + 3, lo, mR f i j :: st, h)))
  | .dup, v :: st => mckO (Nat.beq (mCat v) 1) (some (.inl (pc + 1, lo, v :: v :: st, h)))
  | .dup2, v :: w :: st => mckO (Nat.beq (mCat v) 1 && Nat.beq (mCat w) 1) (some (.inl (pc + 1, lo, v :: w :: v :: w :: st, h)))
  | .pop, v :: st => mckO (Nat.beq (mCat v) 1) (some (.inl (pc + 1, lo, st, h)))
  | .iadd, .inl y :: .inl x :: st => some (.inl (pc + 1, lo, mI (x + y) :: st, h))
  | .isub, .inl y :: .inl x :: st => some (.inl (pc + 1, lo, mI (x - y) :: st, h))
  | .imul, .inl y :: .inl x :: st => some (.inl (pc + 1, lo, mI (x * y) :: st, h))
  | .idiv, .inl y :: .inl x :: st => mckO (!(decide (y = 0))) (some (.inl (pc + 1, lo, mI (x / y) :: st, h)))
  | .irem, .inl y :: .inl x :: st => mckO (!(decide (y = 0))) (some (.inl (pc + 1, lo, mI (x - x / y * y) :: st, h)))
  | .iand, .inl y :: .inl x :: st => some (.inl (pc + 1, lo, mI (x &&& y) :: st, h))
  | .ishr, .inl y :: .inl x :: st => some (.inl (pc + 1, lo, mI (x >>> (y &&& 31)) :: st, h))
  | .ior, .inl y :: .inl x :: st => some (.inl (pc + 1, lo, mI (x ||| y) :: st, h))
  | .ishl, .inl y :: .inl x :: st => some (.inl (pc + 1, lo, mI (x <<< (y &&& 31)) :: st, h))
  | .ineg, .inl x :: st => some (.inl (pc + 1, lo, mI (-x) :: st, h))
  | .i2b, .inl x :: st => some (.inl (pc + 1, lo, mI x.toInt8.toInt32 :: st, h))
  | .i2l, .inl x :: st => some (.inl (pc + 1, lo, mL x.toInt64 :: st, h))
  | .i2f, .inl x :: st => some (.inl (pc + 1, lo, mF (FP.i2f x) :: st, h))
  | .i2d, .inl x :: st => some (.inl (pc + 1, lo, mD (FP.i2d x) :: st, h))
  | .f2d, .inr (.inr (.inr (.inl x))) :: st => mckO (!(isNaN64 (FP.f2d x))) (some (.inl (pc + 1, lo, mD (FP.f2d x) :: st, h)))
  | .fdiv, .inr (.inr (.inr (.inl y))) :: .inr (.inr (.inr (.inl x))) :: st => mckO (!(isNaN32 (FP.fdiv x y))) (some (.inl (pc + 1, lo, mF (FP.fdiv x y) :: st, h)))
  | .ddiv, .inr (.inr (.inr (.inr y))) :: .inr (.inr (.inr (.inr x))) :: st => mckO (!(isNaN64 (FP.ddiv x y))) (some (.inl (pc + 1, lo, mD (FP.ddiv x y) :: st, h)))
  | .lcmp, .inr (.inr (.inl y)) :: .inr (.inr (.inl x)) :: st => some (.inl (pc + 1, lo, mI (if x < y then -1 else if x = y then 0 else 1) :: st, h))
  | .fcmp op, .inr (.inr (.inr (.inl y))) :: .inr (.inr (.inr (.inl x))) :: st => some (.inl (pc + 1, lo, mI (Op.cmpValue (FP.fcmp x y) op) :: st, h))
  | .dcmp op, .inr (.inr (.inr (.inr y))) :: .inr (.inr (.inr (.inr x))) :: st => some (.inl (pc + 1, lo, mI (Op.cmpValue (FP.dcmp x y) op) :: st, h))
  | .iinc i n, st => match lo[i]? with
    | some (some (.inl x)) => mckO (Nat.blt i lo.length && mOkSt lo i) (some (.inl (pc + 3, mPut lo i (.inl (x + Int32.ofInt n)), st, h)))
    | _ => none
  | .goto off, st => mckO (mFw pc off) (some (.inl (mTgt pc off, lo, st, h)))
  | .ifCond c off, .inl x :: st => mckO (mFw pc off) (mifO (mCmp c x 0) (some (.inl (mTgt pc off, lo, st, h))) (some (.inl (pc + 3, lo, st, h))))
  | .if_icmp c off, .inl y :: .inl x :: st => mckO (mFw pc off) (mifO (mCmp c x y) (some (.inl (mTgt pc off, lo, st, h))) (some (.inl (pc + 3, lo, st, h))))
  | .tableswitch d lw hi offs, .inl x :: st => mifO (decide (x.toInt < lw) || decide (hi < x.toInt)) (mckO (mFw pc d) (some (.inl (mTgt pc d, lo, st, h)))) (match offs[(x.toInt - lw).toNat]? with
    | some off => mckO (mFw pc off) (some (.inl (mTgt pc off, lo, st, h)))
    | none => none)
  | .getfield ix, .inr (.inl (some (f, i, j))) :: st => match mFld own ix, h with
    | some (ci, q, kd, _), ((sh, rf), (mi, rs)) => mckO (mIsObj (sh f i j) ci) (some (.inl (pc + 3, lo, mPick kd (.inr (.inl (rf f i j q))) (mI (mi f i j q)) :: st, h)))
    | none, _ => none
  | .putfield ix, .inl x :: .inr (.inl (some (f, i, j))) :: st => match mFld own ix, h with
    | some (ci, q, kd, fin), ((sh, rf), (mi, rs)) => mckO (mIsObj (sh f i j) ci && (!fin || (mInit m && Nat.beq own ci)) && ((Nat.beq kd 3 && decide (x = 0)) || Nat.beq kd 0 || (Nat.beq kd 2 && mZ x))) (some (.inl (pc + 3, lo, st, ((sh, rf), (mset mi f i j q x, rs)))))
    | none, _ => none
  | .putfield ix, .inr (.inl v) :: .inr (.inl (some (f, i, j))) :: st => match mFld own ix, h with
    | some (ci, q, kd, fin), ((sh, rf), (mi, rs)) => mckO (mIsObj (sh f i j) ci && (!fin || (mInit m && Nat.beq own ci)) && Nat.beq kd 1) (some (.inl (pc + 3, lo, st, ((sh, mrset rf f i j q v), (mi, rs)))))
    | none, _ => none
  | .getstatic ix, st => match mGet own ix with
    | some s => match Nat.beq s 100 with
      | true => some (.inl (pc + 3, lo, mI 1 :: st, h))
      | false => some (.inl (pc + 3, lo, mR 3 s 0 :: st, h))
    | none => none
  | .iaload, .inl x :: .inr (.inl (some (f, i, j))) :: st => match h with
    | ((sh, rf), (mi, rs)) => mckO (mIsInt (sh f i j) x) (some (.inl (pc + 1, lo, mI (mi f i j (mix x)) :: st, h)))
  | .iastore, .inl v :: .inl x :: .inr (.inl (some (f, i, j))) :: st => match h with
    | ((sh, rf), (mi, rs)) => mckO (mIsArr (sh f i j) 20 x) (some (.inl (pc + 1, lo, st, ((sh, rf), (mset mi f i j (mix x) v, rs)))))
  | .baload, .inl x :: .inr (.inl (some (f, i, j))) :: st => match h with
    | ((sh, rf), (mi, rs)) => mckO (mIsArr (sh f i j) 24 x || mIsArr (sh f i j) 21 x || mIsArr (sh f i j) 22 x) (some (.inl (pc + 1, lo, mI (mi f i j (mix x)) :: st, h)))
  | .bastore, .inl v :: .inl x :: .inr (.inl (some (f, i, j))) :: st => match h with
    | ((sh, rf), (mi, rs)) => mifO (mIsArr (sh f i j) 21 x) (some (.inl (pc + 1, lo, st, ((sh, rf), (mset mi f i j (mix x) (v &&& 1), rs)))))
        (mckO (mIsArr (sh f i j) 22 x) (some (.inl (pc + 1, lo, st, ((sh, rf), (mset mi f i j (mix x) v.toInt8.toInt32, rs))))))
  | .aaload, .inl x :: .inr (.inl (some (f, i, j))) :: st => match h with
    | ((sh, rf), (mi, rs)) => mckO (mIsArr (sh f i j) 23 x || mIsArr (sh f i j) 25 x) (match rf f i j (mix x) with
      | some r => some (.inl (pc + 1, lo, .inr (.inl (some r)) :: st, h))
      | none => none)
  | .aastore, .inr (.inl (some (f2, i2, j2))) :: .inl x :: .inr (.inl (some (f, i, j))) :: st => match h with
    | ((sh, rf), (mi, rs)) => mckO (mIsArr (sh f i j) 25 x && mIsObj (sh f2 i2 j2) 1) (some (.inl (pc + 1, lo, st, ((sh, mrset rf f i j (mix x) (some (f2, i2, j2))), (mi, rs)))))
  | .arraylength, .inr (.inl (some (f, i, j))) :: st => match h with
    | ((sh, rf), (mi, rs)) => match sh f i j with
      | some (kd, n) => mckO (Nat.blt 19 kd) (some (.inl (pc + 1, lo, mI (Int32.ofNat n) :: st, h)))
      | none => none
  | .new ix, st => match mNew own ix, h with
    | some (ci, n), ((sh, rf), (mi, (q, nx, c, s))) => match Nat.ble 900 ci with
      | true => mckO (mDeep st) (some (.inr (.inl (.inr (ci - 900), ((sh, rf), (mi, (q, nx + 1, c + 1, s + 6)))))))
      | false => match mNam (mNwb ci nx q) nx with
        | (f, i, j) => some (.inl (pc + 3, lo, mR f i j :: st, ((msset sh f i j (ci, 0), fun f' i' j' p' => match Nat.beq f f' && Nat.beq i i' && Nat.beq j j' with
              | true => none
              | false => rf f' i' j' p'), (mfill mi f i j n 0, (mNwb ci nx q, nx + 1, c + 1, s + n)))))
    | none, _ => none
  | .newarray t, .inl n :: st => match h with
    | ((sh, rf), (mi, (q, nx, c, s))) => match mNam q nx with
      | (f, i, j) => mckO (!(decide (n < 0)) && Nat.ble (mix n) 100000 && Nat.blt (mKind t) 99) (some (.inl (pc + 2, lo, mR f i j :: st, ((msset sh f i j (mKind t, mix n), rf), (mfill mi f i j (mix n) 0, (q, nx + 1, c + 1, s + mix n))))))
  | .anewarray ix, .inl n :: st => match mNew own ix, h with
    | some (ci, _), ((sh, rf), (mi, (q, nx, c, s))) => match mNam q nx with
      | (f, i, j) => mckO (!(decide (n < 0)) && Nat.ble (mix n) 100000 && Nat.beq ci 1) (some (.inl (pc + 3, lo, mR f i j :: st, ((msset sh f i j (25, mix n), fun f' i' j' p' => match Nat.beq f f' && Nat.beq i i' && Nat.beq j j' with
              | true => none
              | false => rf f' i' j' p'), (mi, (q, nx + 1, c + 1, s + mix n))))))
    | none, _ => none
  | .multianewarray ix 2, .inl n2 :: .inl n :: st => match h with
    | ((sh, rf), (mi, (q, nx, c, s))) => match mNam q nx with
      | (f, i, j) => mckO (mMul own ix && Nat.beq f 6 && mMsz j n n2 && Nat.beq nx (q.2 + mWat j) && Nat.beq i q.2) (some (.inl (pc + 4, lo, mR 6 i j :: st, ((mshM sh i j (mix n) (mix n2), mrfM rf i j (mix n)), (mmiM mi i j (mix n) (mix n2), (q, nx + (1 + mix n), c + (1 + mix n), s + (mix n + mix n * mix n2)))))))
  | .return_, [] => mckO (Nat.beq (mRet m) 0) (some (.inr (.inl (.inl none, h))))
  | .ireturn, [.inl x] => mckO ((Nat.beq (mRet m) 8 && decide (x = 0)) || Nat.beq (mRet m) 1 || (Nat.beq (mRet m) 2 && mZ x) || (Nat.beq (mRet m) 3 && !(decide (x < 0)) && Nat.blt (mix x) 65536)) (some (.inr (.inl (.inl (some (mI x)), h))))
  | .freturn, [.inr (.inr (.inr (.inl x)))] => mckO (Nat.beq (mRet m) 4) (some (.inr (.inl (.inl (some (mF x)), h))))
  | .lreturn, [.inr (.inr (.inl x))] => mckO (Nat.beq (mRet m) 6) (some (.inr (.inl (.inl (some (mL x)), h))))
  | .areturn, [.inr (.inl (some r))] => mckO (Nat.beq (mRet m) 7) (some (.inr (.inl (.inl (some (.inr (.inl (some r)))), h))))
  | .dreturn, [.inr (.inr (.inr (.inr x)))] => mckO (Nat.beq (mRet m) 5) (some (.inr (.inl (.inl (some (mD x)), h))))
  | _, _ => none
/-- what mxS comes to, as a value -/
def mxSF (own y i k : Nat) (as : List mV) (pc : Nat) (lo : mLo) (st : mSt) (h : mH) : Option mS := match Nat.beq i 3 with
  | false => none
  | true => match mStB y, as with
    | 4, [] => match Nat.blt own 12 with
      | true => mckO (Nat.blt 0 (mTxt k).length && mDeep st) (some (.inl (pc + 3, lo, mI (Int32.ofNat (mTxt k).length) :: st, h)))
      | false => mckO (mTxO k && mDeep st) (some (.inl (pc + 3, lo, mI (Int32.ofNat (mTxt k).length) :: st, h)))
    | 5, [.inl x] => mckO (mIn x (mTxt k).length && mDeep st) (some (.inl (pc + 3, lo, mI ((mTxt k).getD (mix x) 0) :: st, h)))
    | 11, [] => mckO (mTxO k && mDeep st) (some (.inl (pc + 3, lo, mI 0 :: st, h)))
    | 12, [.inr (.inl (some (f2, i2, j2))), .inl dp, .inl z] => match h with
      | ((sh, rf), (mi, rs)) => mckO (mTxO k && decide (z = 0) && mSpanB (sh f2 i2 j2) dp (mTxt k).length && mDeep st) (some (.inl (pc + 3, lo, st, ((sh, rf), (mput mi k f2 i2 j2 (mix dp), rs)))))
    | _, _ => none
/-- what mxK comes to, as a value -/
def mxKF (y pc : Nat) (lo : mLo) (st : mSt) (h : mH) : Option mS := match st, h with
  | .inr (.inl (some (f, i, j))) :: st, ((sh, rf), (mi, (q, nx, c, s))) => match sh f i j with
    | some (kd, L) => match mNam q nx with
      | (f2, i2, j2) => mckO (Nat.beq y 1010 && Nat.beq kd 22 && Nat.ble L 100000 && mByteOk mi f i j 0 L && mDeep st) (some (.inl (pc + 3, lo, mR f2 i2 j2 :: st, ((msset sh f2 i2 j2 (22, L), rf), (mcopy mi f i j 0 f2 i2 j2 0 L, (q, nx + 1, c + 1, s + L))))))
    | none => none
  | _, _ => none
/-- what mxV comes to, as a value -/
def mxVF (own y n pc : Nat) (lo : mLo) (st : mSt) (h : mH) : Option mS := match (st.take n).reverse, h with
  | .inr (.inl (some (f, i, j))) :: as, ((sh, rf), (mi, rs)) => match Nat.beq f 3 with
    | true => mxSF own y i j as pc lo (st.drop n) ((sh, rf), (mi, rs))
    | false => mckO (mVirtK y && mIsObj (sh f i j) (mRcv y) && Nat.beq as.length (n - 1) && mDeep (st.drop n)) (some (.inr (.inr (mSelY y, .inr (.inl (some (f, i, j))) :: as, pc + 3, lo, st.drop n, ((sh, rf), (mi, rs))))))
  | _, _ => none
/-- what mxB comes to, as a value -/
def mxBF (y pc : Nat) (lo : mLo) (st : mSt) (h : mH) : Option mS := match y - 1000, st, h with
  | 0, .inl n :: .inl dp :: .inr (.inl (some (f2, i2, j2))) :: .inl sp :: .inr (.inl (some (f, i, j))) :: st, ((sh, rf), (mi, rs)) => mckO ((mSpanY (sh f i j) sp n && mSpanY (sh f2 i2 j2) dp n && mByteOk mi f i j (mix sp) (mix n) || mSpan (sh f i j) sp n && mSpan (sh f2 i2 j2) dp n) && mDeep st) (some (.inl (pc + 3, lo, st, ((sh, rf), (mcopy mi f i j (mix sp) f2 i2 j2 (mix dp) (mix n), rs)))))
  | 1, .inl v :: .inr (.inl (some (f, i, j))) :: st, ((sh, rf), (mi, rs)) => mckO (mIsArI (sh f i j) && mDeep st) (some (.inl (pc + 3, lo, st, ((sh, rf), (mfill mi f i j (mLen (sh f i j)) v, rs)))))
  | 6, .inl z :: .inl x :: st, h => mckO (mDeep st) (some (.inl (pc + 3, lo, mI (if z < x then z else x) :: st, h)))
  | 7, .inl z :: .inl x :: st, h => mckO (mDeep st) (some (.inl (pc + 3, lo, mI (if x < z then z else x) :: st, h)))
  | 8, .inl x :: st, h => mckO (mDeep st) (some (.inl (pc + 3, lo, mI (if 0 ≤ x then x else 0 - x) :: st, h)))
  | 9, .inl n :: .inl x :: st, h => mckO (!(decide (x < 0)) && decide (x < n) && mDeep st) (some (.inl (pc + 3, lo, st, h)))
  | _, _, _ => none
/-- what mxI comes to, as a value -/
def mxIF (y pc : Nat) (lo : mLo) (st : mSt) (h : mH) : Option mS := match st with
  | .inr (.inl (some r)) :: st => mckO (Nat.beq y 1003 && mDeep st) (some (.inl (pc + 3, lo, st, h)))
  | _ => none
/-- what mxP comes to, as a value -/
def mxPF (own y n pc : Nat) (lo : mLo) (st : mSt) (h : mH) : Option mS := match (st.take n).reverse, h with
  | .inr (.inl (some (f, i, j))) :: as, ((sh, rf), (mi, rs)) => mckO ((mInit y || mSup y && Nat.beq own 14 && mIsObj (sh f i j) 14) && !(mStat y) && (mHH y).isNone && Nat.beq as.length (n - 1) && mDeep (st.drop n)) (some (.inr (.inr (y, .inr (.inl (some (f, i, j))) :: as, pc + 3, lo, st.drop n, ((sh, rf), (mi, rs))))))
  | _, _ => none
/-- what mxC comes to, as a value -/
def mxCF (own m pc : Nat) (ins : Instr) (lo : mLo) (st : mSt) (h : mH) : Option mS :=
  match ins with
  | .invokevirtual ix => match mMet own ix with
    | some (y, n) => match Nat.ble 1000 y with
      | true => mxKF y pc lo st h
      | false => mxVF own y n pc lo st h
    | none => none
  | .invokestatic ix => match mMet own ix with
    | some (y, n) => match Nat.ble 1000 y with
      | true => mxBF y pc lo st h
      | false => mckO (mStat y && Nat.beq (st.take n).length n && mDeep (st.drop n)) (some (.inr (.inr (y, (st.take n).reverse, pc + 3, lo, st.drop n, h))))
    | none => none
  | .invokespecial ix => match mMet own ix with
    | some (y, n) => match Nat.ble 1000 y with
      | true => mxIF y pc lo st h
      | false => mxPF own y n pc lo st h
    | none => none
  | _ => none
set_option maxRecDepth 100000 in
set_option maxHeartbeats 8000000 in
theorem mx_to {own m pc : Nat} {ins : Instr} {lo : mLo} {st : mSt} {h : mH} {k : mS → Prop} : mImp (mx own m pc ins lo st h k) (∃ x, mxF own m pc ins lo st h = some x ∧ k x) := by
  unfold mx mxF
  split
  all_goals first
    | exact fun h => h.elim
    | exact mk_O.mp
    | exact (mck_O mk_O).mp
    | exact (mif_O mk_O mk_O).mp
    | exact (mck_O (mif_O mk_O mk_O)).mp
    | exact (mif_O mk_O (mck_O mk_O)).mp
    | exact (mif_O (mck_O mk_O) (mck_O mk_O)).mp
    | exact (mif_O (mck_O mk_O) mF_O).mp
    | exact (mck_O mF_O).mp
    | (rename_i heq; rw [heq]; first
        | exact fun h => h.elim
        | exact mk_O.mp
        | exact (mck_O mk_O).mp
        | exact (mif_O mk_O mk_O).mp
        | exact (mck_O (mif_O mk_O mk_O)).mp
        | exact (mif_O mk_O (mck_O mk_O)).mp
        | exact (mif_O (mck_O mk_O) (mck_O mk_O)).mp
        | exact (mif_O (mck_O mk_O) mF_O).mp
        | exact (mck_O mF_O).mp
        | ((try dsimp only); split <;> first
          | exact fun h => h.elim
          | exact mk_O.mp
          | exact (mck_O mk_O).mp
          | exact (mif_O mk_O mk_O).mp
          | exact (mck_O (mif_O mk_O mk_O)).mp
          | exact (mif_O mk_O (mck_O mk_O)).mp
          | exact (mif_O (mck_O mk_O) (mck_O mk_O)).mp
          | exact (mif_O (mck_O mk_O) mF_O).mp
          | exact (mck_O mF_O).mp
          | (rename_i heq; rw [heq]; first
              | exact fun h => h.elim
              | exact mk_O.mp
              | exact (mck_O mk_O).mp
              | exact (mif_O mk_O mk_O).mp
              | exact (mck_O (mif_O mk_O mk_O)).mp
              | exact (mif_O mk_O (mck_O mk_O)).mp
              | exact (mif_O (mck_O mk_O) (mck_O mk_O)).mp
              | exact (mif_O (mck_O mk_O) mF_O).mp
              | exact (mck_O mF_O).mp
              | ((try dsimp only); split <;> first
                | exact fun h => h.elim
                | exact mk_O.mp
                | exact (mck_O mk_O).mp
                | exact (mif_O mk_O mk_O).mp
                | exact (mck_O (mif_O mk_O mk_O)).mp
                | exact (mif_O mk_O (mck_O mk_O)).mp
                | exact (mif_O (mck_O mk_O) (mck_O mk_O)).mp
                | exact (mif_O (mck_O mk_O) mF_O).mp
                | exact (mck_O mF_O).mp
                | (rename_i heq; rw [heq]; first
                    | exact fun h => h.elim
                    | exact mk_O.mp
                    | exact (mck_O mk_O).mp
                    | exact (mif_O mk_O mk_O).mp
                    | exact (mck_O (mif_O mk_O mk_O)).mp
                    | exact (mif_O mk_O (mck_O mk_O)).mp
                    | exact (mif_O (mck_O mk_O) (mck_O mk_O)).mp
                    | exact (mif_O (mck_O mk_O) mF_O).mp
                    | exact (mck_O mF_O).mp
                    | ((try dsimp only); split <;> first
                      | exact fun h => h.elim
                      | exact mk_O.mp
                      | exact (mck_O mk_O).mp
                      | exact (mif_O mk_O mk_O).mp
                      | exact (mck_O (mif_O mk_O mk_O)).mp
                      | exact (mif_O mk_O (mck_O mk_O)).mp
                      | exact (mif_O (mck_O mk_O) (mck_O mk_O)).mp
                      | exact (mif_O (mck_O mk_O) mF_O).mp
                      | exact (mck_O mF_O).mp
                      ))
                | ((try dsimp only); split <;> first
                    | exact fun h => h.elim
                    | exact mk_O.mp
                    | exact (mck_O mk_O).mp
                    | exact (mif_O mk_O mk_O).mp
                    | exact (mck_O (mif_O mk_O mk_O)).mp
                    | exact (mif_O mk_O (mck_O mk_O)).mp
                    | exact (mif_O (mck_O mk_O) (mck_O mk_O)).mp
                    | exact (mif_O (mck_O mk_O) mF_O).mp
                    | exact (mck_O mF_O).mp
                  )
                ))
          | ((try dsimp only); split <;> first
              | exact fun h => h.elim
              | exact mk_O.mp
              | exact (mck_O mk_O).mp
              | exact (mif_O mk_O mk_O).mp
              | exact (mck_O (mif_O mk_O mk_O)).mp
              | exact (mif_O mk_O (mck_O mk_O)).mp
              | exact (mif_O (mck_O mk_O) (mck_O mk_O)).mp
              | exact (mif_O (mck_O mk_O) mF_O).mp
              | exact (mck_O mF_O).mp
              | (rename_i heq; rw [heq]; first
                  | exact fun h => h.elim
                  | exact mk_O.mp
                  | exact (mck_O mk_O).mp
                  | exact (mif_O mk_O mk_O).mp
                  | exact (mck_O (mif_O mk_O mk_O)).mp
                  | exact (mif_O mk_O (mck_O mk_O)).mp
                  | exact (mif_O (mck_O mk_O) (mck_O mk_O)).mp
                  | exact (mif_O (mck_O mk_O) mF_O).mp
                  | exact (mck_O mF_O).mp
                  | ((try dsimp only); split <;> first
                    | exact fun h => h.elim
                    | exact mk_O.mp
                    | exact (mck_O mk_O).mp
                    | exact (mif_O mk_O mk_O).mp
                    | exact (mck_O (mif_O mk_O mk_O)).mp
                    | exact (mif_O mk_O (mck_O mk_O)).mp
                    | exact (mif_O (mck_O mk_O) (mck_O mk_O)).mp
                    | exact (mif_O (mck_O mk_O) mF_O).mp
                    | exact (mck_O mF_O).mp
                    ))
              | ((try dsimp only); split <;> first
                  | exact fun h => h.elim
                  | exact mk_O.mp
                  | exact (mck_O mk_O).mp
                  | exact (mif_O mk_O mk_O).mp
                  | exact (mck_O (mif_O mk_O mk_O)).mp
                  | exact (mif_O mk_O (mck_O mk_O)).mp
                  | exact (mif_O (mck_O mk_O) (mck_O mk_O)).mp
                  | exact (mif_O (mck_O mk_O) mF_O).mp
                  | exact (mck_O mF_O).mp
                )
            )
          ))
    | ((try dsimp only); split <;> first
        | exact fun h => h.elim
        | exact mk_O.mp
        | exact (mck_O mk_O).mp
        | exact (mif_O mk_O mk_O).mp
        | exact (mck_O (mif_O mk_O mk_O)).mp
        | exact (mif_O mk_O (mck_O mk_O)).mp
        | exact (mif_O (mck_O mk_O) (mck_O mk_O)).mp
        | exact (mif_O (mck_O mk_O) mF_O).mp
        | exact (mck_O mF_O).mp
        | (rename_i heq; rw [heq]; first
            | exact fun h => h.elim
            | exact mk_O.mp
            | exact (mck_O mk_O).mp
            | exact (mif_O mk_O mk_O).mp
            | exact (mck_O (mif_O mk_O mk_O)).mp
            | exact (mif_O mk_O (mck_O mk_O)).mp
            | exact (mif_O (mck_O mk_O) (mck_O mk_O)).mp
            | exact (mif_O (mck_O mk_O) mF_O).mp
            | exact (mck_O mF_O).mp
            | ((try dsimp only); split <;> first
              | exact fun h => h.elim
              | exact mk_O.mp
              | exact (mck_O mk_O).mp
              | exact (mif_O mk_O mk_O).mp
              | exact (mck_O (mif_O mk_O mk_O)).mp
              | exact (mif_O mk_O (mck_O mk_O)).mp
              | exact (mif_O (mck_O mk_O) (mck_O mk_O)).mp
              | exact (mif_O (mck_O mk_O) mF_O).mp
              | exact (mck_O mF_O).mp
              | (rename_i heq; rw [heq]; first
                  | exact fun h => h.elim
                  | exact mk_O.mp
                  | exact (mck_O mk_O).mp
                  | exact (mif_O mk_O mk_O).mp
                  | exact (mck_O (mif_O mk_O mk_O)).mp
                  | exact (mif_O mk_O (mck_O mk_O)).mp
                  | exact (mif_O (mck_O mk_O) (mck_O mk_O)).mp
                  | exact (mif_O (mck_O mk_O) mF_O).mp
                  | exact (mck_O mF_O).mp
                  | ((try dsimp only); split <;> first
                    | exact fun h => h.elim
                    | exact mk_O.mp
                    | exact (mck_O mk_O).mp
                    | exact (mif_O mk_O mk_O).mp
                    | exact (mck_O (mif_O mk_O mk_O)).mp
                    | exact (mif_O mk_O (mck_O mk_O)).mp
                    | exact (mif_O (mck_O mk_O) (mck_O mk_O)).mp
                    | exact (mif_O (mck_O mk_O) mF_O).mp
                    | exact (mck_O mF_O).mp
                    ))
              | ((try dsimp only); split <;> first
                  | exact fun h => h.elim
                  | exact mk_O.mp
                  | exact (mck_O mk_O).mp
                  | exact (mif_O mk_O mk_O).mp
                  | exact (mck_O (mif_O mk_O mk_O)).mp
                  | exact (mif_O mk_O (mck_O mk_O)).mp
                  | exact (mif_O (mck_O mk_O) (mck_O mk_O)).mp
                  | exact (mif_O (mck_O mk_O) mF_O).mp
                  | exact (mck_O mF_O).mp
                )
              ))
        | ((try dsimp only); split <;> first
            | exact fun h => h.elim
            | exact mk_O.mp
            | exact (mck_O mk_O).mp
            | exact (mif_O mk_O mk_O).mp
            | exact (mck_O (mif_O mk_O mk_O)).mp
            | exact (mif_O mk_O (mck_O mk_O)).mp
            | exact (mif_O (mck_O mk_O) (mck_O mk_O)).mp
            | exact (mif_O (mck_O mk_O) mF_O).mp
            | exact (mck_O mF_O).mp
            | (rename_i heq; rw [heq]; first
                | exact fun h => h.elim
                | exact mk_O.mp
                | exact (mck_O mk_O).mp
                | exact (mif_O mk_O mk_O).mp
                | exact (mck_O (mif_O mk_O mk_O)).mp
                | exact (mif_O mk_O (mck_O mk_O)).mp
                | exact (mif_O (mck_O mk_O) (mck_O mk_O)).mp
                | exact (mif_O (mck_O mk_O) mF_O).mp
                | exact (mck_O mF_O).mp
                | ((try dsimp only); split <;> first
                  | exact fun h => h.elim
                  | exact mk_O.mp
                  | exact (mck_O mk_O).mp
                  | exact (mif_O mk_O mk_O).mp
                  | exact (mck_O (mif_O mk_O mk_O)).mp
                  | exact (mif_O mk_O (mck_O mk_O)).mp
                  | exact (mif_O (mck_O mk_O) (mck_O mk_O)).mp
                  | exact (mif_O (mck_O mk_O) mF_O).mp
                  | exact (mck_O mF_O).mp
                  ))
            | ((try dsimp only); split <;> first
                | exact fun h => h.elim
                | exact mk_O.mp
                | exact (mck_O mk_O).mp
                | exact (mif_O mk_O mk_O).mp
                | exact (mck_O (mif_O mk_O mk_O)).mp
                | exact (mif_O mk_O (mck_O mk_O)).mp
                | exact (mif_O (mck_O mk_O) (mck_O mk_O)).mp
                | exact (mif_O (mck_O mk_O) mF_O).mp
                | exact (mck_O mF_O).mp
              )
          )
      )
    | skip
  all_goals done
set_option maxRecDepth 100000 in
set_option maxHeartbeats 8000000 in
theorem mx_of {own m pc : Nat} {ins : Instr} {lo : mLo} {st : mSt} {h : mH} {k : mS → Prop} : mImp (∃ x, mxF own m pc ins lo st h = some x ∧ k x) (mx own m pc ins lo st h k) := by
  unfold mx mxF
  split
  all_goals first
    | exact fun h => (mF_O.mpr h).elim
    | exact mk_O.mpr
    | exact (mck_O mk_O).mpr
    | exact (mif_O mk_O mk_O).mpr
    | exact (mck_O (mif_O mk_O mk_O)).mpr
    | exact (mif_O mk_O (mck_O mk_O)).mpr
    | exact (mif_O (mck_O mk_O) (mck_O mk_O)).mpr
    | exact (mif_O (mck_O mk_O) mF_O).mpr
    | exact (mck_O mF_O).mpr
    | (rename_i heq; rw [heq]; first
        | exact fun h => (mF_O.mpr h).elim
        | exact mk_O.mpr
        | exact (mck_O mk_O).mpr
        | exact (mif_O mk_O mk_O).mpr
        | exact (mck_O (mif_O mk_O mk_O)).mpr
        | exact (mif_O mk_O (mck_O mk_O)).mpr
        | exact (mif_O (mck_O mk_O) (mck_O mk_O)).mpr
        | exact (mif_O (mck_O mk_O) mF_O).mpr
        | exact (mck_O mF_O).mpr
        | ((try dsimp only); split <;> first
          | exact fun h => (mF_O.mpr h).elim
          | exact mk_O.mpr
          | exact (mck_O mk_O).mpr
          | exact (mif_O mk_O mk_O).mpr
          | exact (mck_O (mif_O mk_O mk_O)).mpr
          | exact (mif_O mk_O (mck_O mk_O)).mpr
          | exact (mif_O (mck_O mk_O) (mck_O mk_O)).mpr
          | exact (mif_O (mck_O mk_O) mF_O).mpr
          | exact (mck_O mF_O).mpr
          | (rename_i heq; rw [heq]; first
              | exact fun h => (mF_O.mpr h).elim
              | exact mk_O.mpr
              | exact (mck_O mk_O).mpr
              | exact (mif_O mk_O mk_O).mpr
              | exact (mck_O (mif_O mk_O mk_O)).mpr
              | exact (mif_O mk_O (mck_O mk_O)).mpr
              | exact (mif_O (mck_O mk_O) (mck_O mk_O)).mpr
              | exact (mif_O (mck_O mk_O) mF_O).mpr
              | exact (mck_O mF_O).mpr
              | ((try dsimp only); split <;> first
                | exact fun h => (mF_O.mpr h).elim
                | exact mk_O.mpr
                | exact (mck_O mk_O).mpr
                | exact (mif_O mk_O mk_O).mpr
                | exact (mck_O (mif_O mk_O mk_O)).mpr
                | exact (mif_O mk_O (mck_O mk_O)).mpr
                | exact (mif_O (mck_O mk_O) (mck_O mk_O)).mpr
                | exact (mif_O (mck_O mk_O) mF_O).mpr
                | exact (mck_O mF_O).mpr
                | (rename_i heq; rw [heq]; first
                    | exact fun h => (mF_O.mpr h).elim
                    | exact mk_O.mpr
                    | exact (mck_O mk_O).mpr
                    | exact (mif_O mk_O mk_O).mpr
                    | exact (mck_O (mif_O mk_O mk_O)).mpr
                    | exact (mif_O mk_O (mck_O mk_O)).mpr
                    | exact (mif_O (mck_O mk_O) (mck_O mk_O)).mpr
                    | exact (mif_O (mck_O mk_O) mF_O).mpr
                    | exact (mck_O mF_O).mpr
                    | ((try dsimp only); split <;> first
                      | exact fun h => (mF_O.mpr h).elim
                      | exact mk_O.mpr
                      | exact (mck_O mk_O).mpr
                      | exact (mif_O mk_O mk_O).mpr
                      | exact (mck_O (mif_O mk_O mk_O)).mpr
                      | exact (mif_O mk_O (mck_O mk_O)).mpr
                      | exact (mif_O (mck_O mk_O) (mck_O mk_O)).mpr
                      | exact (mif_O (mck_O mk_O) mF_O).mpr
                      | exact (mck_O mF_O).mpr
                      ))
                | ((try dsimp only); split <;> first
                    | exact fun h => (mF_O.mpr h).elim
                    | exact mk_O.mpr
                    | exact (mck_O mk_O).mpr
                    | exact (mif_O mk_O mk_O).mpr
                    | exact (mck_O (mif_O mk_O mk_O)).mpr
                    | exact (mif_O mk_O (mck_O mk_O)).mpr
                    | exact (mif_O (mck_O mk_O) (mck_O mk_O)).mpr
                    | exact (mif_O (mck_O mk_O) mF_O).mpr
                    | exact (mck_O mF_O).mpr
                  )
                ))
          | ((try dsimp only); split <;> first
              | exact fun h => (mF_O.mpr h).elim
              | exact mk_O.mpr
              | exact (mck_O mk_O).mpr
              | exact (mif_O mk_O mk_O).mpr
              | exact (mck_O (mif_O mk_O mk_O)).mpr
              | exact (mif_O mk_O (mck_O mk_O)).mpr
              | exact (mif_O (mck_O mk_O) (mck_O mk_O)).mpr
              | exact (mif_O (mck_O mk_O) mF_O).mpr
              | exact (mck_O mF_O).mpr
              | (rename_i heq; rw [heq]; first
                  | exact fun h => (mF_O.mpr h).elim
                  | exact mk_O.mpr
                  | exact (mck_O mk_O).mpr
                  | exact (mif_O mk_O mk_O).mpr
                  | exact (mck_O (mif_O mk_O mk_O)).mpr
                  | exact (mif_O mk_O (mck_O mk_O)).mpr
                  | exact (mif_O (mck_O mk_O) (mck_O mk_O)).mpr
                  | exact (mif_O (mck_O mk_O) mF_O).mpr
                  | exact (mck_O mF_O).mpr
                  | ((try dsimp only); split <;> first
                    | exact fun h => (mF_O.mpr h).elim
                    | exact mk_O.mpr
                    | exact (mck_O mk_O).mpr
                    | exact (mif_O mk_O mk_O).mpr
                    | exact (mck_O (mif_O mk_O mk_O)).mpr
                    | exact (mif_O mk_O (mck_O mk_O)).mpr
                    | exact (mif_O (mck_O mk_O) (mck_O mk_O)).mpr
                    | exact (mif_O (mck_O mk_O) mF_O).mpr
                    | exact (mck_O mF_O).mpr
                    ))
              | ((try dsimp only); split <;> first
                  | exact fun h => (mF_O.mpr h).elim
                  | exact mk_O.mpr
                  | exact (mck_O mk_O).mpr
                  | exact (mif_O mk_O mk_O).mpr
                  | exact (mck_O (mif_O mk_O mk_O)).mpr
                  | exact (mif_O mk_O (mck_O mk_O)).mpr
                  | exact (mif_O (mck_O mk_O) (mck_O mk_O)).mpr
                  | exact (mif_O (mck_O mk_O) mF_O).mpr
                  | exact (mck_O mF_O).mpr
                )
            )
          ))
    | ((try dsimp only); split <;> first
        | exact fun h => (mF_O.mpr h).elim
        | exact mk_O.mpr
        | exact (mck_O mk_O).mpr
        | exact (mif_O mk_O mk_O).mpr
        | exact (mck_O (mif_O mk_O mk_O)).mpr
        | exact (mif_O mk_O (mck_O mk_O)).mpr
        | exact (mif_O (mck_O mk_O) (mck_O mk_O)).mpr
        | exact (mif_O (mck_O mk_O) mF_O).mpr
        | exact (mck_O mF_O).mpr
        | (rename_i heq; rw [heq]; first
            | exact fun h => (mF_O.mpr h).elim
            | exact mk_O.mpr
            | exact (mck_O mk_O).mpr
            | exact (mif_O mk_O mk_O).mpr
            | exact (mck_O (mif_O mk_O mk_O)).mpr
            | exact (mif_O mk_O (mck_O mk_O)).mpr
            | exact (mif_O (mck_O mk_O) (mck_O mk_O)).mpr
            | exact (mif_O (mck_O mk_O) mF_O).mpr
            | exact (mck_O mF_O).mpr
            | ((try dsimp only); split <;> first
              | exact fun h => (mF_O.mpr h).elim
              | exact mk_O.mpr
              | exact (mck_O mk_O).mpr
              | exact (mif_O mk_O mk_O).mpr
              | exact (mck_O (mif_O mk_O mk_O)).mpr
              | exact (mif_O mk_O (mck_O mk_O)).mpr
              | exact (mif_O (mck_O mk_O) (mck_O mk_O)).mpr
              | exact (mif_O (mck_O mk_O) mF_O).mpr
              | exact (mck_O mF_O).mpr
              | (rename_i heq; rw [heq]; first
                  | exact fun h => (mF_O.mpr h).elim
                  | exact mk_O.mpr
                  | exact (mck_O mk_O).mpr
                  | exact (mif_O mk_O mk_O).mpr
                  | exact (mck_O (mif_O mk_O mk_O)).mpr
                  | exact (mif_O mk_O (mck_O mk_O)).mpr
                  | exact (mif_O (mck_O mk_O) (mck_O mk_O)).mpr
                  | exact (mif_O (mck_O mk_O) mF_O).mpr
                  | exact (mck_O mF_O).mpr
                  | ((try dsimp only); split <;> first
                    | exact fun h => (mF_O.mpr h).elim
                    | exact mk_O.mpr
                    | exact (mck_O mk_O).mpr
                    | exact (mif_O mk_O mk_O).mpr
                    | exact (mck_O (mif_O mk_O mk_O)).mpr
                    | exact (mif_O mk_O (mck_O mk_O)).mpr
                    | exact (mif_O (mck_O mk_O) (mck_O mk_O)).mpr
                    | exact (mif_O (mck_O mk_O) mF_O).mpr
                    | exact (mck_O mF_O).mpr
                    ))
              | ((try dsimp only); split <;> first
                  | exact fun h => (mF_O.mpr h).elim
                  | exact mk_O.mpr
                  | exact (mck_O mk_O).mpr
                  | exact (mif_O mk_O mk_O).mpr
                  | exact (mck_O (mif_O mk_O mk_O)).mpr
                  | exact (mif_O mk_O (mck_O mk_O)).mpr
                  | exact (mif_O (mck_O mk_O) (mck_O mk_O)).mpr
                  | exact (mif_O (mck_O mk_O) mF_O).mpr
                  | exact (mck_O mF_O).mpr
                )
              ))
        | ((try dsimp only); split <;> first
            | exact fun h => (mF_O.mpr h).elim
            | exact mk_O.mpr
            | exact (mck_O mk_O).mpr
            | exact (mif_O mk_O mk_O).mpr
            | exact (mck_O (mif_O mk_O mk_O)).mpr
            | exact (mif_O mk_O (mck_O mk_O)).mpr
            | exact (mif_O (mck_O mk_O) (mck_O mk_O)).mpr
            | exact (mif_O (mck_O mk_O) mF_O).mpr
            | exact (mck_O mF_O).mpr
            | (rename_i heq; rw [heq]; first
                | exact fun h => (mF_O.mpr h).elim
                | exact mk_O.mpr
                | exact (mck_O mk_O).mpr
                | exact (mif_O mk_O mk_O).mpr
                | exact (mck_O (mif_O mk_O mk_O)).mpr
                | exact (mif_O mk_O (mck_O mk_O)).mpr
                | exact (mif_O (mck_O mk_O) (mck_O mk_O)).mpr
                | exact (mif_O (mck_O mk_O) mF_O).mpr
                | exact (mck_O mF_O).mpr
                | ((try dsimp only); split <;> first
                  | exact fun h => (mF_O.mpr h).elim
                  | exact mk_O.mpr
                  | exact (mck_O mk_O).mpr
                  | exact (mif_O mk_O mk_O).mpr
                  | exact (mck_O (mif_O mk_O mk_O)).mpr
                  | exact (mif_O mk_O (mck_O mk_O)).mpr
                  | exact (mif_O (mck_O mk_O) (mck_O mk_O)).mpr
                  | exact (mif_O (mck_O mk_O) mF_O).mpr
                  | exact (mck_O mF_O).mpr
                  ))
            | ((try dsimp only); split <;> first
                | exact fun h => (mF_O.mpr h).elim
                | exact mk_O.mpr
                | exact (mck_O mk_O).mpr
                | exact (mif_O mk_O mk_O).mpr
                | exact (mck_O (mif_O mk_O mk_O)).mpr
                | exact (mif_O mk_O (mck_O mk_O)).mpr
                | exact (mif_O (mck_O mk_O) (mck_O mk_O)).mpr
                | exact (mif_O (mck_O mk_O) mF_O).mpr
                | exact (mck_O mF_O).mpr
              )
          )
      )
    | skip
  all_goals done
set_option maxRecDepth 100000 in
set_option maxHeartbeats 8000000 in
theorem mxS_to {own y i k : Nat} {as : List mV} {pc : Nat} {lo : mLo} {st : mSt} {h : mH} {kk : mS → Prop} : mImp (mxS own y i k as pc lo st h kk) (∃ x, mxSF own y i k as pc lo st h = some x ∧ kk x) := by
  unfold mxS mxSF
  generalize mStB y = z
  split
  all_goals first
    | exact fun h => h.elim
    | exact mk_O.mp
    | exact (mck_O mk_O).mp
    | (rename_i heq; rw [heq]; first
        | exact fun h => h.elim
        | exact mk_O.mp
        | exact (mck_O mk_O).mp
        | ((try dsimp only); split <;> first
          | exact fun h => h.elim
          | exact mk_O.mp
          | exact (mck_O mk_O).mp
          | (rename_i heq; rw [heq]; first
              | exact fun h => h.elim
              | exact mk_O.mp
              | exact (mck_O mk_O).mp
              | ((try dsimp only); split <;> first
                | exact fun h => h.elim
                | exact mk_O.mp
                | exact (mck_O mk_O).mp
                | (rename_i heq; rw [heq]; first
                    | exact fun h => h.elim
                    | exact mk_O.mp
                    | exact (mck_O mk_O).mp
                    | ((try dsimp only); split <;> first
                      | exact fun h => h.elim
                      | exact mk_O.mp
                      | exact (mck_O mk_O).mp
                      ))
                | ((try dsimp only); split <;> first
                    | exact fun h => h.elim
                    | exact mk_O.mp
                    | exact (mck_O mk_O).mp
                  )
                ))
          | ((try dsimp only); split <;> first
              | exact fun h => h.elim
              | exact mk_O.mp
              | exact (mck_O mk_O).mp
              | (rename_i heq; rw [heq]; first
                  | exact fun h => h.elim
                  | exact mk_O.mp
                  | exact (mck_O mk_O).mp
                  | ((try dsimp only); split <;> first
                    | exact fun h => h.elim
                    | exact mk_O.mp
                    | exact (mck_O mk_O).mp
                    ))
              | ((try dsimp only); split <;> first
                  | exact fun h => h.elim
                  | exact mk_O.mp
                  | exact (mck_O mk_O).mp
                )
            )
          ))
    | ((try dsimp only); split <;> first
        | exact fun h => h.elim
        | exact mk_O.mp
        | exact (mck_O mk_O).mp
        | (rename_i heq; rw [heq]; first
            | exact fun h => h.elim
            | exact mk_O.mp
            | exact (mck_O mk_O).mp
            | ((try dsimp only); split <;> first
              | exact fun h => h.elim
              | exact mk_O.mp
              | exact (mck_O mk_O).mp
              | (rename_i heq; rw [heq]; first
                  | exact fun h => h.elim
                  | exact mk_O.mp
                  | exact (mck_O mk_O).mp
                  | ((try dsimp only); split <;> first
                    | exact fun h => h.elim
                    | exact mk_O.mp
                    | exact (mck_O mk_O).mp
                    ))
              | ((try dsimp only); split <;> first
                  | exact fun h => h.elim
                  | exact mk_O.mp
                  | exact (mck_O mk_O).mp
                )
              ))
        | ((try dsimp only); split <;> first
            | exact fun h => h.elim
            | exact mk_O.mp
            | exact (mck_O mk_O).mp
            | (rename_i heq; rw [heq]; first
                | exact fun h => h.elim
                | exact mk_O.mp
                | exact (mck_O mk_O).mp
                | ((try dsimp only); split <;> first
                  | exact fun h => h.elim
                  | exact mk_O.mp
                  | exact (mck_O mk_O).mp
                  ))
            | ((try dsimp only); split <;> first
                | exact fun h => h.elim
                | exact mk_O.mp
                | exact (mck_O mk_O).mp
              )
          )
      )
    | skip
  all_goals done
set_option maxRecDepth 100000 in
set_option maxHeartbeats 8000000 in
theorem mxS_of {own y i k : Nat} {as : List mV} {pc : Nat} {lo : mLo} {st : mSt} {h : mH} {kk : mS → Prop} : mImp (∃ x, mxSF own y i k as pc lo st h = some x ∧ kk x) (mxS own y i k as pc lo st h kk) := by
  unfold mxS mxSF
  generalize mStB y = z
  split
  all_goals first
    | exact fun h => (mF_O.mpr h).elim
    | exact mk_O.mpr
    | exact (mck_O mk_O).mpr
    | (rename_i heq; rw [heq]; first
        | exact fun h => (mF_O.mpr h).elim
        | exact mk_O.mpr
        | exact (mck_O mk_O).mpr
        | ((try dsimp only); split <;> first
          | exact fun h => (mF_O.mpr h).elim
          | exact mk_O.mpr
          | exact (mck_O mk_O).mpr
          | (rename_i heq; rw [heq]; first
              | exact fun h => (mF_O.mpr h).elim
              | exact mk_O.mpr
              | exact (mck_O mk_O).mpr
              | ((try dsimp only); split <;> first
                | exact fun h => (mF_O.mpr h).elim
                | exact mk_O.mpr
                | exact (mck_O mk_O).mpr
                | (rename_i heq; rw [heq]; first
                    | exact fun h => (mF_O.mpr h).elim
                    | exact mk_O.mpr
                    | exact (mck_O mk_O).mpr
                    | ((try dsimp only); split <;> first
                      | exact fun h => (mF_O.mpr h).elim
                      | exact mk_O.mpr
                      | exact (mck_O mk_O).mpr
                      ))
                | ((try dsimp only); split <;> first
                    | exact fun h => (mF_O.mpr h).elim
                    | exact mk_O.mpr
                    | exact (mck_O mk_O).mpr
                  )
                ))
          | ((try dsimp only); split <;> first
              | exact fun h => (mF_O.mpr h).elim
              | exact mk_O.mpr
              | exact (mck_O mk_O).mpr
              | (rename_i heq; rw [heq]; first
                  | exact fun h => (mF_O.mpr h).elim
                  | exact mk_O.mpr
                  | exact (mck_O mk_O).mpr
                  | ((try dsimp only); split <;> first
                    | exact fun h => (mF_O.mpr h).elim
                    | exact mk_O.mpr
                    | exact (mck_O mk_O).mpr
                    ))
              | ((try dsimp only); split <;> first
                  | exact fun h => (mF_O.mpr h).elim
                  | exact mk_O.mpr
                  | exact (mck_O mk_O).mpr
                )
            )
          ))
    | ((try dsimp only); split <;> first
        | exact fun h => (mF_O.mpr h).elim
        | exact mk_O.mpr
        | exact (mck_O mk_O).mpr
        | (rename_i heq; rw [heq]; first
            | exact fun h => (mF_O.mpr h).elim
            | exact mk_O.mpr
            | exact (mck_O mk_O).mpr
            | ((try dsimp only); split <;> first
              | exact fun h => (mF_O.mpr h).elim
              | exact mk_O.mpr
              | exact (mck_O mk_O).mpr
              | (rename_i heq; rw [heq]; first
                  | exact fun h => (mF_O.mpr h).elim
                  | exact mk_O.mpr
                  | exact (mck_O mk_O).mpr
                  | ((try dsimp only); split <;> first
                    | exact fun h => (mF_O.mpr h).elim
                    | exact mk_O.mpr
                    | exact (mck_O mk_O).mpr
                    ))
              | ((try dsimp only); split <;> first
                  | exact fun h => (mF_O.mpr h).elim
                  | exact mk_O.mpr
                  | exact (mck_O mk_O).mpr
                )
              ))
        | ((try dsimp only); split <;> first
            | exact fun h => (mF_O.mpr h).elim
            | exact mk_O.mpr
            | exact (mck_O mk_O).mpr
            | (rename_i heq; rw [heq]; first
                | exact fun h => (mF_O.mpr h).elim
                | exact mk_O.mpr
                | exact (mck_O mk_O).mpr
                | ((try dsimp only); split <;> first
                  | exact fun h => (mF_O.mpr h).elim
                  | exact mk_O.mpr
                  | exact (mck_O mk_O).mpr
                  ))
            | ((try dsimp only); split <;> first
                | exact fun h => (mF_O.mpr h).elim
                | exact mk_O.mpr
                | exact (mck_O mk_O).mpr
              )
          )
      )
    | skip
  all_goals done
set_option maxRecDepth 100000 in
set_option maxHeartbeats 8000000 in
theorem mxK_to {y pc : Nat} {lo : mLo} {st : mSt} {h : mH} {kk : mS → Prop} : mImp (mxK y pc lo st h kk) (∃ x, mxKF y pc lo st h = some x ∧ kk x) := by
  unfold mxK mxKF
  split
  all_goals first
    | exact fun h => h.elim
    | exact mk_O.mp
    | exact (mck_O mk_O).mp
    | (rename_i heq; rw [heq]; first
        | exact fun h => h.elim
        | exact mk_O.mp
        | exact (mck_O mk_O).mp
        | ((try dsimp only); split <;> first
          | exact fun h => h.elim
          | exact mk_O.mp
          | exact (mck_O mk_O).mp
          | (rename_i heq; rw [heq]; first
              | exact fun h => h.elim
              | exact mk_O.mp
              | exact (mck_O mk_O).mp
              | ((try dsimp only); split <;> first
                | exact fun h => h.elim
                | exact mk_O.mp
                | exact (mck_O mk_O).mp
                | (rename_i heq; rw [heq]; first
                    | exact fun h => h.elim
                    | exact mk_O.mp
                    | exact (mck_O mk_O).mp
                    | ((try dsimp only); split <;> first
                      | exact fun h => h.elim
                      | exact mk_O.mp
                      | exact (mck_O mk_O).mp
                      ))
                | ((try dsimp only); split <;> first
                    | exact fun h => h.elim
                    | exact mk_O.mp
                    | exact (mck_O mk_O).mp
                  )
                ))
          | ((try dsimp only); split <;> first
              | exact fun h => h.elim
              | exact mk_O.mp
              | exact (mck_O mk_O).mp
              | (rename_i heq; rw [heq]; first
                  | exact fun h => h.elim
                  | exact mk_O.mp
                  | exact (mck_O mk_O).mp
                  | ((try dsimp only); split <;> first
                    | exact fun h => h.elim
                    | exact mk_O.mp
                    | exact (mck_O mk_O).mp
                    ))
              | ((try dsimp only); split <;> first
                  | exact fun h => h.elim
                  | exact mk_O.mp
                  | exact (mck_O mk_O).mp
                )
            )
          ))
    | ((try dsimp only); split <;> first
        | exact fun h => h.elim
        | exact mk_O.mp
        | exact (mck_O mk_O).mp
        | (rename_i heq; rw [heq]; first
            | exact fun h => h.elim
            | exact mk_O.mp
            | exact (mck_O mk_O).mp
            | ((try dsimp only); split <;> first
              | exact fun h => h.elim
              | exact mk_O.mp
              | exact (mck_O mk_O).mp
              | (rename_i heq; rw [heq]; first
                  | exact fun h => h.elim
                  | exact mk_O.mp
                  | exact (mck_O mk_O).mp
                  | ((try dsimp only); split <;> first
                    | exact fun h => h.elim
                    | exact mk_O.mp
                    | exact (mck_O mk_O).mp
                    ))
              | ((try dsimp only); split <;> first
                  | exact fun h => h.elim
                  | exact mk_O.mp
                  | exact (mck_O mk_O).mp
                )
              ))
        | ((try dsimp only); split <;> first
            | exact fun h => h.elim
            | exact mk_O.mp
            | exact (mck_O mk_O).mp
            | (rename_i heq; rw [heq]; first
                | exact fun h => h.elim
                | exact mk_O.mp
                | exact (mck_O mk_O).mp
                | ((try dsimp only); split <;> first
                  | exact fun h => h.elim
                  | exact mk_O.mp
                  | exact (mck_O mk_O).mp
                  ))
            | ((try dsimp only); split <;> first
                | exact fun h => h.elim
                | exact mk_O.mp
                | exact (mck_O mk_O).mp
              )
          )
      )
    | skip
  all_goals done
set_option maxRecDepth 100000 in
set_option maxHeartbeats 8000000 in
theorem mxK_of {y pc : Nat} {lo : mLo} {st : mSt} {h : mH} {kk : mS → Prop} : mImp (∃ x, mxKF y pc lo st h = some x ∧ kk x) (mxK y pc lo st h kk) := by
  unfold mxK mxKF
  split
  all_goals first
    | exact fun h => (mF_O.mpr h).elim
    | exact mk_O.mpr
    | exact (mck_O mk_O).mpr
    | (rename_i heq; rw [heq]; first
        | exact fun h => (mF_O.mpr h).elim
        | exact mk_O.mpr
        | exact (mck_O mk_O).mpr
        | ((try dsimp only); split <;> first
          | exact fun h => (mF_O.mpr h).elim
          | exact mk_O.mpr
          | exact (mck_O mk_O).mpr
          | (rename_i heq; rw [heq]; first
              | exact fun h => (mF_O.mpr h).elim
              | exact mk_O.mpr
              | exact (mck_O mk_O).mpr
              | ((try dsimp only); split <;> first
                | exact fun h => (mF_O.mpr h).elim
                | exact mk_O.mpr
                | exact (mck_O mk_O).mpr
                | (rename_i heq; rw [heq]; first
                    | exact fun h => (mF_O.mpr h).elim
                    | exact mk_O.mpr
                    | exact (mck_O mk_O).mpr
                    | ((try dsimp only); split <;> first
                      | exact fun h => (mF_O.mpr h).elim
                      | exact mk_O.mpr
                      | exact (mck_O mk_O).mpr
                      ))
                | ((try dsimp only); split <;> first
                    | exact fun h => (mF_O.mpr h).elim
                    | exact mk_O.mpr
                    | exact (mck_O mk_O).mpr
                  )
                ))
          | ((try dsimp only); split <;> first
              | exact fun h => (mF_O.mpr h).elim
              | exact mk_O.mpr
              | exact (mck_O mk_O).mpr
              | (rename_i heq; rw [heq]; first
                  | exact fun h => (mF_O.mpr h).elim
                  | exact mk_O.mpr
                  | exact (mck_O mk_O).mpr
                  | ((try dsimp only); split <;> first
                    | exact fun h => (mF_O.mpr h).elim
                    | exact mk_O.mpr
                    | exact (mck_O mk_O).mpr
                    ))
              | ((try dsimp only); split <;> first
                  | exact fun h => (mF_O.mpr h).elim
                  | exact mk_O.mpr
                  | exact (mck_O mk_O).mpr
                )
            )
          ))
    | ((try dsimp only); split <;> first
        | exact fun h => (mF_O.mpr h).elim
        | exact mk_O.mpr
        | exact (mck_O mk_O).mpr
        | (rename_i heq; rw [heq]; first
            | exact fun h => (mF_O.mpr h).elim
            | exact mk_O.mpr
            | exact (mck_O mk_O).mpr
            | ((try dsimp only); split <;> first
              | exact fun h => (mF_O.mpr h).elim
              | exact mk_O.mpr
              | exact (mck_O mk_O).mpr
              | (rename_i heq; rw [heq]; first
                  | exact fun h => (mF_O.mpr h).elim
                  | exact mk_O.mpr
                  | exact (mck_O mk_O).mpr
                  | ((try dsimp only); split <;> first
                    | exact fun h => (mF_O.mpr h).elim
                    | exact mk_O.mpr
                    | exact (mck_O mk_O).mpr
                    ))
              | ((try dsimp only); split <;> first
                  | exact fun h => (mF_O.mpr h).elim
                  | exact mk_O.mpr
                  | exact (mck_O mk_O).mpr
                )
              ))
        | ((try dsimp only); split <;> first
            | exact fun h => (mF_O.mpr h).elim
            | exact mk_O.mpr
            | exact (mck_O mk_O).mpr
            | (rename_i heq; rw [heq]; first
                | exact fun h => (mF_O.mpr h).elim
                | exact mk_O.mpr
                | exact (mck_O mk_O).mpr
                | ((try dsimp only); split <;> first
                  | exact fun h => (mF_O.mpr h).elim
                  | exact mk_O.mpr
                  | exact (mck_O mk_O).mpr
                  ))
            | ((try dsimp only); split <;> first
                | exact fun h => (mF_O.mpr h).elim
                | exact mk_O.mpr
                | exact (mck_O mk_O).mpr
              )
          )
      )
    | skip
  all_goals done
set_option maxRecDepth 100000 in
set_option maxHeartbeats 8000000 in
theorem mxV_to {own y n pc : Nat} {lo : mLo} {st : mSt} {h : mH} {kk : mS → Prop} : mImp (mxV own y n pc lo st h kk) (∃ x, mxVF own y n pc lo st h = some x ∧ kk x) := by
  unfold mxV mxVF
  split
  all_goals first
    | exact fun h => h.elim
    | exact mk_O.mp
    | exact (mck_O mk_O).mp
    | exact mxS_to
    | (rename_i heq; rw [heq]; first
        | exact fun h => h.elim
        | exact mk_O.mp
        | exact (mck_O mk_O).mp
        | exact mxS_to
        | ((try dsimp only); split <;> first
          | exact fun h => h.elim
          | exact mk_O.mp
          | exact (mck_O mk_O).mp
          | exact mxS_to
          | (rename_i heq; rw [heq]; first
              | exact fun h => h.elim
              | exact mk_O.mp
              | exact (mck_O mk_O).mp
              | exact mxS_to
              | ((try dsimp only); split <;> first
                | exact fun h => h.elim
                | exact mk_O.mp
                | exact (mck_O mk_O).mp
                | exact mxS_to
                ))
          | ((try dsimp only); split <;> first
              | exact fun h => h.elim
              | exact mk_O.mp
              | exact (mck_O mk_O).mp
              | exact mxS_to
            )
          ))
    | ((try dsimp only); split <;> first
        | exact fun h => h.elim
        | exact mk_O.mp
        | exact (mck_O mk_O).mp
        | exact mxS_to
        | (rename_i heq; rw [heq]; first
            | exact fun h => h.elim
            | exact mk_O.mp
            | exact (mck_O mk_O).mp
            | exact mxS_to
            | ((try dsimp only); split <;> first
              | exact fun h => h.elim
              | exact mk_O.mp
              | exact (mck_O mk_O).mp
              | exact mxS_to
              ))
        | ((try dsimp only); split <;> first
            | exact fun h => h.elim
            | exact mk_O.mp
            | exact (mck_O mk_O).mp
            | exact mxS_to
          )
      )
    | skip
  all_goals done
set_option maxRecDepth 100000 in
set_option maxHeartbeats 8000000 in
theorem mxV_of {own y n pc : Nat} {lo : mLo} {st : mSt} {h : mH} {kk : mS → Prop} : mImp (∃ x, mxVF own y n pc lo st h = some x ∧ kk x) (mxV own y n pc lo st h kk) := by
  unfold mxV mxVF
  split
  all_goals first
    | exact fun h => (mF_O.mpr h).elim
    | exact mk_O.mpr
    | exact (mck_O mk_O).mpr
    | exact mxS_of
    | (rename_i heq; rw [heq]; first
        | exact fun h => (mF_O.mpr h).elim
        | exact mk_O.mpr
        | exact (mck_O mk_O).mpr
        | exact mxS_of
        | ((try dsimp only); split <;> first
          | exact fun h => (mF_O.mpr h).elim
          | exact mk_O.mpr
          | exact (mck_O mk_O).mpr
          | exact mxS_of
          | (rename_i heq; rw [heq]; first
              | exact fun h => (mF_O.mpr h).elim
              | exact mk_O.mpr
              | exact (mck_O mk_O).mpr
              | exact mxS_of
              | ((try dsimp only); split <;> first
                | exact fun h => (mF_O.mpr h).elim
                | exact mk_O.mpr
                | exact (mck_O mk_O).mpr
                | exact mxS_of
                ))
          | ((try dsimp only); split <;> first
              | exact fun h => (mF_O.mpr h).elim
              | exact mk_O.mpr
              | exact (mck_O mk_O).mpr
              | exact mxS_of
            )
          ))
    | ((try dsimp only); split <;> first
        | exact fun h => (mF_O.mpr h).elim
        | exact mk_O.mpr
        | exact (mck_O mk_O).mpr
        | exact mxS_of
        | (rename_i heq; rw [heq]; first
            | exact fun h => (mF_O.mpr h).elim
            | exact mk_O.mpr
            | exact (mck_O mk_O).mpr
            | exact mxS_of
            | ((try dsimp only); split <;> first
              | exact fun h => (mF_O.mpr h).elim
              | exact mk_O.mpr
              | exact (mck_O mk_O).mpr
              | exact mxS_of
              ))
        | ((try dsimp only); split <;> first
            | exact fun h => (mF_O.mpr h).elim
            | exact mk_O.mpr
            | exact (mck_O mk_O).mpr
            | exact mxS_of
          )
      )
    | skip
  all_goals done
set_option maxRecDepth 100000 in
set_option maxHeartbeats 8000000 in
theorem mxB_to {y pc : Nat} {lo : mLo} {st : mSt} {h : mH} {kk : mS → Prop} : mImp (mxB y pc lo st h kk) (∃ x, mxBF y pc lo st h = some x ∧ kk x) := by
  unfold mxB mxBF
  split
  all_goals first
    | exact fun h => h.elim
    | exact mk_O.mp
    | exact (mck_O mk_O).mp
    | (rename_i heq; rw [heq]; first
        | exact fun h => h.elim
        | exact mk_O.mp
        | exact (mck_O mk_O).mp
        | ((try dsimp only); split <;> first
          | exact fun h => h.elim
          | exact mk_O.mp
          | exact (mck_O mk_O).mp
          ))
    | ((try dsimp only); split <;> first
        | exact fun h => h.elim
        | exact mk_O.mp
        | exact (mck_O mk_O).mp
      )
    | skip
  all_goals done
set_option maxRecDepth 100000 in
set_option maxHeartbeats 8000000 in
theorem mxB_of {y pc : Nat} {lo : mLo} {st : mSt} {h : mH} {kk : mS → Prop} : mImp (∃ x, mxBF y pc lo st h = some x ∧ kk x) (mxB y pc lo st h kk) := by
  unfold mxB mxBF
  split
  all_goals first
    | exact fun h => (mF_O.mpr h).elim
    | exact mk_O.mpr
    | exact (mck_O mk_O).mpr
    | (rename_i heq; rw [heq]; first
        | exact fun h => (mF_O.mpr h).elim
        | exact mk_O.mpr
        | exact (mck_O mk_O).mpr
        | ((try dsimp only); split <;> first
          | exact fun h => (mF_O.mpr h).elim
          | exact mk_O.mpr
          | exact (mck_O mk_O).mpr
          ))
    | ((try dsimp only); split <;> first
        | exact fun h => (mF_O.mpr h).elim
        | exact mk_O.mpr
        | exact (mck_O mk_O).mpr
      )
    | skip
  all_goals done
set_option maxRecDepth 100000 in
set_option maxHeartbeats 8000000 in
theorem mxI_to {y pc : Nat} {lo : mLo} {st : mSt} {h : mH} {kk : mS → Prop} : mImp (mxI y pc lo st h kk) (∃ x, mxIF y pc lo st h = some x ∧ kk x) := by
  unfold mxI mxIF
  split
  all_goals first
    | exact fun h => h.elim
    | exact mk_O.mp
    | exact (mck_O mk_O).mp
    | (rename_i heq; rw [heq]; first
        | exact fun h => h.elim
        | exact mk_O.mp
        | exact (mck_O mk_O).mp
        | ((try dsimp only); split <;> first
          | exact fun h => h.elim
          | exact mk_O.mp
          | exact (mck_O mk_O).mp
          ))
    | ((try dsimp only); split <;> first
        | exact fun h => h.elim
        | exact mk_O.mp
        | exact (mck_O mk_O).mp
      )
    | skip
  all_goals done
set_option maxRecDepth 100000 in
set_option maxHeartbeats 8000000 in
theorem mxI_of {y pc : Nat} {lo : mLo} {st : mSt} {h : mH} {kk : mS → Prop} : mImp (∃ x, mxIF y pc lo st h = some x ∧ kk x) (mxI y pc lo st h kk) := by
  unfold mxI mxIF
  split
  all_goals first
    | exact fun h => (mF_O.mpr h).elim
    | exact mk_O.mpr
    | exact (mck_O mk_O).mpr
    | (rename_i heq; rw [heq]; first
        | exact fun h => (mF_O.mpr h).elim
        | exact mk_O.mpr
        | exact (mck_O mk_O).mpr
        | ((try dsimp only); split <;> first
          | exact fun h => (mF_O.mpr h).elim
          | exact mk_O.mpr
          | exact (mck_O mk_O).mpr
          ))
    | ((try dsimp only); split <;> first
        | exact fun h => (mF_O.mpr h).elim
        | exact mk_O.mpr
        | exact (mck_O mk_O).mpr
      )
    | skip
  all_goals done
set_option maxRecDepth 100000 in
set_option maxHeartbeats 8000000 in
theorem mxP_to {own y n pc : Nat} {lo : mLo} {st : mSt} {h : mH} {kk : mS → Prop} : mImp (mxP own y n pc lo st h kk) (∃ x, mxPF own y n pc lo st h = some x ∧ kk x) := by
  unfold mxP mxPF
  split
  all_goals first
    | exact fun h => h.elim
    | exact mk_O.mp
    | exact (mck_O mk_O).mp
    | (rename_i heq; rw [heq]; first
        | exact fun h => h.elim
        | exact mk_O.mp
        | exact (mck_O mk_O).mp
        | ((try dsimp only); split <;> first
          | exact fun h => h.elim
          | exact mk_O.mp
          | exact (mck_O mk_O).mp
          ))
    | ((try dsimp only); split <;> first
        | exact fun h => h.elim
        | exact mk_O.mp
        | exact (mck_O mk_O).mp
      )
    | skip
  all_goals done
set_option maxRecDepth 100000 in
set_option maxHeartbeats 8000000 in
theorem mxP_of {own y n pc : Nat} {lo : mLo} {st : mSt} {h : mH} {kk : mS → Prop} : mImp (∃ x, mxPF own y n pc lo st h = some x ∧ kk x) (mxP own y n pc lo st h kk) := by
  unfold mxP mxPF
  split
  all_goals first
    | exact fun h => (mF_O.mpr h).elim
    | exact mk_O.mpr
    | exact (mck_O mk_O).mpr
    | (rename_i heq; rw [heq]; first
        | exact fun h => (mF_O.mpr h).elim
        | exact mk_O.mpr
        | exact (mck_O mk_O).mpr
        | ((try dsimp only); split <;> first
          | exact fun h => (mF_O.mpr h).elim
          | exact mk_O.mpr
          | exact (mck_O mk_O).mpr
          ))
    | ((try dsimp only); split <;> first
        | exact fun h => (mF_O.mpr h).elim
        | exact mk_O.mpr
        | exact (mck_O mk_O).mpr
      )
    | skip
  all_goals done
set_option maxRecDepth 100000 in
set_option maxHeartbeats 8000000 in
theorem mxC_to {own m pc : Nat} {ins : Instr} {lo : mLo} {st : mSt} {h : mH} {k : mS → Prop} : mImp (mxC own m pc ins lo st h k) (∃ x, mxCF own m pc ins lo st h = some x ∧ k x) := by
  unfold mxC mxCF
  split
  all_goals first
    | exact fun h => h.elim
    | exact mk_O.mp
    | exact (mck_O mk_O).mp
    | exact mxK_to
    | exact mxV_to
    | exact mxB_to
    | exact mxI_to
    | exact mxP_to
    | (rename_i heq; rw [heq]; first
        | exact fun h => h.elim
        | exact mk_O.mp
        | exact (mck_O mk_O).mp
        | exact mxK_to
        | exact mxV_to
        | exact mxB_to
        | exact mxI_to
        | exact mxP_to
        | ((try dsimp only); split <;> first
          | exact fun h => h.elim
          | exact mk_O.mp
          | exact (mck_O mk_O).mp
          | exact mxK_to
          | exact mxV_to
          | exact mxB_to
          | exact mxI_to
          | exact mxP_to
          | (rename_i heq; rw [heq]; first
              | exact fun h => h.elim
              | exact mk_O.mp
              | exact (mck_O mk_O).mp
              | exact mxK_to
              | exact mxV_to
              | exact mxB_to
              | exact mxI_to
              | exact mxP_to
              | ((try dsimp only); split <;> first
                | exact fun h => h.elim
                | exact mk_O.mp
                | exact (mck_O mk_O).mp
                | exact mxK_to
                | exact mxV_to
                | exact mxB_to
                | exact mxI_to
                | exact mxP_to
                | (rename_i heq; rw [heq]; first
                    | exact fun h => h.elim
                    | exact mk_O.mp
                    | exact (mck_O mk_O).mp
                    | exact mxK_to
                    | exact mxV_to
                    | exact mxB_to
                    | exact mxI_to
                    | exact mxP_to
                    | ((try dsimp only); split <;> first
                      | exact fun h => h.elim
                      | exact mk_O.mp
                      | exact (mck_O mk_O).mp
                      | exact mxK_to
                      | exact mxV_to
                      | exact mxB_to
                      | exact mxI_to
                      | exact mxP_to
                      ))
                | ((try dsimp only); split <;> first
                    | exact fun h => h.elim
                    | exact mk_O.mp
                    | exact (mck_O mk_O).mp
                    | exact mxK_to
                    | exact mxV_to
                    | exact mxB_to
                    | exact mxI_to
                    | exact mxP_to
                  )
                ))
          | ((try dsimp only); split <;> first
              | exact fun h => h.elim
              | exact mk_O.mp
              | exact (mck_O mk_O).mp
              | exact mxK_to
              | exact mxV_to
              | exact mxB_to
              | exact mxI_to
              | exact mxP_to
              | (rename_i heq; rw [heq]; first
                  | exact fun h => h.elim
                  | exact mk_O.mp
                  | exact (mck_O mk_O).mp
                  | exact mxK_to
                  | exact mxV_to
                  | exact mxB_to
                  | exact mxI_to
                  | exact mxP_to
                  | ((try dsimp only); split <;> first
                    | exact fun h => h.elim
                    | exact mk_O.mp
                    | exact (mck_O mk_O).mp
                    | exact mxK_to
                    | exact mxV_to
                    | exact mxB_to
                    | exact mxI_to
                    | exact mxP_to
                    ))
              | ((try dsimp only); split <;> first
                  | exact fun h => h.elim
                  | exact mk_O.mp
                  | exact (mck_O mk_O).mp
                  | exact mxK_to
                  | exact mxV_to
                  | exact mxB_to
                  | exact mxI_to
                  | exact mxP_to
                )
            )
          ))
    | ((try dsimp only); split <;> first
        | exact fun h => h.elim
        | exact mk_O.mp
        | exact (mck_O mk_O).mp
        | exact mxK_to
        | exact mxV_to
        | exact mxB_to
        | exact mxI_to
        | exact mxP_to
        | (rename_i heq; rw [heq]; first
            | exact fun h => h.elim
            | exact mk_O.mp
            | exact (mck_O mk_O).mp
            | exact mxK_to
            | exact mxV_to
            | exact mxB_to
            | exact mxI_to
            | exact mxP_to
            | ((try dsimp only); split <;> first
              | exact fun h => h.elim
              | exact mk_O.mp
              | exact (mck_O mk_O).mp
              | exact mxK_to
              | exact mxV_to
              | exact mxB_to
              | exact mxI_to
              | exact mxP_to
              | (rename_i heq; rw [heq]; first
                  | exact fun h => h.elim
                  | exact mk_O.mp
                  | exact (mck_O mk_O).mp
                  | exact mxK_to
                  | exact mxV_to
                  | exact mxB_to
                  | exact mxI_to
                  | exact mxP_to
                  | ((try dsimp only); split <;> first
                    | exact fun h => h.elim
                    | exact mk_O.mp
                    | exact (mck_O mk_O).mp
                    | exact mxK_to
                    | exact mxV_to
                    | exact mxB_to
                    | exact mxI_to
                    | exact mxP_to
                    ))
              | ((try dsimp only); split <;> first
                  | exact fun h => h.elim
                  | exact mk_O.mp
                  | exact (mck_O mk_O).mp
                  | exact mxK_to
                  | exact mxV_to
                  | exact mxB_to
                  | exact mxI_to
                  | exact mxP_to
                )
              ))
        | ((try dsimp only); split <;> first
            | exact fun h => h.elim
            | exact mk_O.mp
            | exact (mck_O mk_O).mp
            | exact mxK_to
            | exact mxV_to
            | exact mxB_to
            | exact mxI_to
            | exact mxP_to
            | (rename_i heq; rw [heq]; first
                | exact fun h => h.elim
                | exact mk_O.mp
                | exact (mck_O mk_O).mp
                | exact mxK_to
                | exact mxV_to
                | exact mxB_to
                | exact mxI_to
                | exact mxP_to
                | ((try dsimp only); split <;> first
                  | exact fun h => h.elim
                  | exact mk_O.mp
                  | exact (mck_O mk_O).mp
                  | exact mxK_to
                  | exact mxV_to
                  | exact mxB_to
                  | exact mxI_to
                  | exact mxP_to
                  ))
            | ((try dsimp only); split <;> first
                | exact fun h => h.elim
                | exact mk_O.mp
                | exact (mck_O mk_O).mp
                | exact mxK_to
                | exact mxV_to
                | exact mxB_to
                | exact mxI_to
                | exact mxP_to
              )
          )
      )
    | skip
  all_goals done
set_option maxRecDepth 100000 in
set_option maxHeartbeats 8000000 in
theorem mxC_of {own m pc : Nat} {ins : Instr} {lo : mLo} {st : mSt} {h : mH} {k : mS → Prop} : mImp (∃ x, mxCF own m pc ins lo st h = some x ∧ k x) (mxC own m pc ins lo st h k) := by
  unfold mxC mxCF
  split
  all_goals first
    | exact fun h => (mF_O.mpr h).elim
    | exact mk_O.mpr
    | exact (mck_O mk_O).mpr
    | exact mxK_of
    | exact mxV_of
    | exact mxB_of
    | exact mxI_of
    | exact mxP_of
    | (rename_i heq; rw [heq]; first
        | exact fun h => (mF_O.mpr h).elim
        | exact mk_O.mpr
        | exact (mck_O mk_O).mpr
        | exact mxK_of
        | exact mxV_of
        | exact mxB_of
        | exact mxI_of
        | exact mxP_of
        | ((try dsimp only); split <;> first
          | exact fun h => (mF_O.mpr h).elim
          | exact mk_O.mpr
          | exact (mck_O mk_O).mpr
          | exact mxK_of
          | exact mxV_of
          | exact mxB_of
          | exact mxI_of
          | exact mxP_of
          | (rename_i heq; rw [heq]; first
              | exact fun h => (mF_O.mpr h).elim
              | exact mk_O.mpr
              | exact (mck_O mk_O).mpr
              | exact mxK_of
              | exact mxV_of
              | exact mxB_of
              | exact mxI_of
              | exact mxP_of
              | ((try dsimp only); split <;> first
                | exact fun h => (mF_O.mpr h).elim
                | exact mk_O.mpr
                | exact (mck_O mk_O).mpr
                | exact mxK_of
                | exact mxV_of
                | exact mxB_of
                | exact mxI_of
                | exact mxP_of
                | (rename_i heq; rw [heq]; first
                    | exact fun h => (mF_O.mpr h).elim
                    | exact mk_O.mpr
                    | exact (mck_O mk_O).mpr
                    | exact mxK_of
                    | exact mxV_of
                    | exact mxB_of
                    | exact mxI_of
                    | exact mxP_of
                    | ((try dsimp only); split <;> first
                      | exact fun h => (mF_O.mpr h).elim
                      | exact mk_O.mpr
                      | exact (mck_O mk_O).mpr
                      | exact mxK_of
                      | exact mxV_of
                      | exact mxB_of
                      | exact mxI_of
                      | exact mxP_of
                      ))
                | ((try dsimp only); split <;> first
                    | exact fun h => (mF_O.mpr h).elim
                    | exact mk_O.mpr
                    | exact (mck_O mk_O).mpr
                    | exact mxK_of
                    | exact mxV_of
                    | exact mxB_of
                    | exact mxI_of
                    | exact mxP_of
                  )
                ))
          | ((try dsimp only); split <;> first
              | exact fun h => (mF_O.mpr h).elim
              | exact mk_O.mpr
              | exact (mck_O mk_O).mpr
              | exact mxK_of
              | exact mxV_of
              | exact mxB_of
              | exact mxI_of
              | exact mxP_of
              | (rename_i heq; rw [heq]; first
                  | exact fun h => (mF_O.mpr h).elim
                  | exact mk_O.mpr
                  | exact (mck_O mk_O).mpr
                  | exact mxK_of
                  | exact mxV_of
                  | exact mxB_of
                  | exact mxI_of
                  | exact mxP_of
                  | ((try dsimp only); split <;> first
                    | exact fun h => (mF_O.mpr h).elim
                    | exact mk_O.mpr
                    | exact (mck_O mk_O).mpr
                    | exact mxK_of
                    | exact mxV_of
                    | exact mxB_of
                    | exact mxI_of
                    | exact mxP_of
                    ))
              | ((try dsimp only); split <;> first
                  | exact fun h => (mF_O.mpr h).elim
                  | exact mk_O.mpr
                  | exact (mck_O mk_O).mpr
                  | exact mxK_of
                  | exact mxV_of
                  | exact mxB_of
                  | exact mxI_of
                  | exact mxP_of
                )
            )
          ))
    | ((try dsimp only); split <;> first
        | exact fun h => (mF_O.mpr h).elim
        | exact mk_O.mpr
        | exact (mck_O mk_O).mpr
        | exact mxK_of
        | exact mxV_of
        | exact mxB_of
        | exact mxI_of
        | exact mxP_of
        | (rename_i heq; rw [heq]; first
            | exact fun h => (mF_O.mpr h).elim
            | exact mk_O.mpr
            | exact (mck_O mk_O).mpr
            | exact mxK_of
            | exact mxV_of
            | exact mxB_of
            | exact mxI_of
            | exact mxP_of
            | ((try dsimp only); split <;> first
              | exact fun h => (mF_O.mpr h).elim
              | exact mk_O.mpr
              | exact (mck_O mk_O).mpr
              | exact mxK_of
              | exact mxV_of
              | exact mxB_of
              | exact mxI_of
              | exact mxP_of
              | (rename_i heq; rw [heq]; first
                  | exact fun h => (mF_O.mpr h).elim
                  | exact mk_O.mpr
                  | exact (mck_O mk_O).mpr
                  | exact mxK_of
                  | exact mxV_of
                  | exact mxB_of
                  | exact mxI_of
                  | exact mxP_of
                  | ((try dsimp only); split <;> first
                    | exact fun h => (mF_O.mpr h).elim
                    | exact mk_O.mpr
                    | exact (mck_O mk_O).mpr
                    | exact mxK_of
                    | exact mxV_of
                    | exact mxB_of
                    | exact mxI_of
                    | exact mxP_of
                    ))
              | ((try dsimp only); split <;> first
                  | exact fun h => (mF_O.mpr h).elim
                  | exact mk_O.mpr
                  | exact (mck_O mk_O).mpr
                  | exact mxK_of
                  | exact mxV_of
                  | exact mxB_of
                  | exact mxI_of
                  | exact mxP_of
                )
              ))
        | ((try dsimp only); split <;> first
            | exact fun h => (mF_O.mpr h).elim
            | exact mk_O.mpr
            | exact (mck_O mk_O).mpr
            | exact mxK_of
            | exact mxV_of
            | exact mxB_of
            | exact mxI_of
            | exact mxP_of
            | (rename_i heq; rw [heq]; first
                | exact fun h => (mF_O.mpr h).elim
                | exact mk_O.mpr
                | exact (mck_O mk_O).mpr
                | exact mxK_of
                | exact mxV_of
                | exact mxB_of
                | exact mxI_of
                | exact mxP_of
                | ((try dsimp only); split <;> first
                  | exact fun h => (mF_O.mpr h).elim
                  | exact mk_O.mpr
                  | exact (mck_O mk_O).mpr
                  | exact mxK_of
                  | exact mxV_of
                  | exact mxB_of
                  | exact mxI_of
                  | exact mxP_of
                  ))
            | ((try dsimp only); split <;> first
                | exact fun h => (mF_O.mpr h).elim
                | exact mk_O.mpr
                | exact (mck_O mk_O).mpr
                | exact mxK_of
                | exact mxV_of
                | exact mxB_of
                | exact mxI_of
                | exact mxP_of
              )
          )
      )
    | skip
  all_goals done
