/-! THE SMALL MACHINE's step: 'mx i .. k': the instruction i, with k for what comes next. -/
def mTgt (pc : Nat) (off : Int) : Nat := ((pc : Int) + off).toNat
/-- no branch goes ahead of the code -/
def mFw (pc : Nat) (off : Int) : Bool := match off with
  | .ofNat _ => true
  | .negSucc n => Nat.blt n pc
/-- the stack's depth behind the arguments -/
def mDeep (st : mSt) : Bool := Nat.ble ((st.map mCat).foldr (· + ·) 0) 8
/-- the cells of a World, in the order of making, by their place from its base -/
def mWN (B k : Nat) : Nat × Nat × Nat := match Nat.beq k 0 with
  | true => (6, B, 0)
  | false => match Nat.blt k 3 with
    | true => (9, B + k, 0)
    | false => match Nat.blt k 12 with
      | true => (6, B, k - 2)
      | false => match Nat.blt k 67 with
        | true => match Nat.beq ((k - 12) % 11) 0 with
          | true => (6, B, 10 + (k - 12) / 11)
          | false => (20 + (k - 12) / 11, B, (k - 12) % 11 - 1)
        | false => match Nat.beq k 67 with
          | true => (6, B, 15)
          | false => match Nat.blt k 98 with
            | true => (25, B, k - 68)
            | false => (6, B, 16)
/-- the name of the cell that is made as number nx: the Draws' own first; the cells of the World made last (base wb); the system's (from A0 on); else by its number -/
def mNam (q : Nat × Nat) (nx : Nat) : Nat × Nat × Nat := match Nat.beq nx 0 with
  | true => (7, 0, 0)
  | false => match Nat.ble q.2 nx && Nat.blt nx (q.2 + 99) with
    | true => mWN q.2 (nx - q.2)
    | false => match Nat.blt 0 q.1 && (Nat.ble q.1 nx && Nat.blt nx (q.1 + mAlN)) with
      | true => mAlT (nx - q.1)
      | false => (9, nx, 0)
/-- a World of its own begins -/
def mNwb (ci nx : Nat) (q : Nat × Nat) : Nat × Nat := match Nat.beq ci 13 with
  | true => (q.1, nx)
  | false => q
def mIsInt (v : Option (Nat × Nat)) (x : Int32) : Bool := match v with
  | some (20, n) => mIn x n
  | some (30, n) => mIn x n
  | _ => false
def mIsArr (v : Option (Nat × Nat)) (kd : Nat) (x : Int32) : Bool := match v with
  | some (k, n) => Nat.beq k kd && mIn x n
  | none => false
def mIsObj (v : Option (Nat × Nat)) (c : Nat) : Bool := match v with
  | some (k, _) => Nat.beq k c
  | none => false
/-- an array of whole numbers, of no great length -/
def mIsArI (v : Option (Nat × Nat)) : Bool := match v with
  | some (k, n) => Nat.beq k 20 && Nat.ble n 100000
  | none => false
def mLen (v : Option (Nat × Nat)) : Nat := match v with
  | some (_, n) => n
  | none => 0
def mZ (x : Int32) : Bool := decide (x = 0) || decide (x = 1)
def mCmp (c : ClassFile.Cond) (x y : Int32) : Bool := match c with
  | .eq => decide (x = y)
  | .ne => decide (x ≠ y)
  | .lt => decide (x < y)
  | .ge => decide (y ≤ x)
  | .gt => decide (y < x)
  | .le => decide (x ≤ y)
/-- the locals behind a store at i -/
def mPut (lo : mLo) (i : Nat) (v : mV) : mLo := lo.set i (some v)
def mPut2 (lo : mLo) (i : Nat) (v : mV) : mLo := (lo.set i (some v)).set (i + 1) none
/-- a part of an array of whole numbers: the places sp .. sp + n - 1 -/
def mSpan (v : Option (Nat × Nat)) (sp n : Int32) : Bool := match v with
  | some (20, N) => !(decide (sp < 0)) && !(decide (n < 0)) && Nat.ble (mix sp + mix n) N
  | _ => false
def mSpanB (v : Option (Nat × Nat)) (sp : Int32) (n : Nat) : Bool := match v with
  | some (22, N) => !(decide (sp < 0)) && Nat.ble (mix sp + n) N
  | _ => false
/-- a part of a row of bytes -/
def mSpanY (v : Option (Nat × Nat)) (sp n : Int32) : Bool := match v with
  | some (22, N) => !(decide (sp < 0)) && !(decide (n < 0)) && Nat.ble (mix sp + mix n) N
  | _ => false
/-- the letters of a text of the pools laid onto a row -/
def mput (mi : mMi) (k f i j dp : Nat) : mMi := fun f' i' j' p' => match Nat.beq f f' && Nat.beq i i' && Nat.beq j j' && Nat.ble dp p' && Nat.blt p' (dp + (mTxt k).length) with
  | true => (mTxt k).getD (p' - dp) 0
  | false => mi f' i' j' p'
/-- the kind of the cells that newarray makes -/
def mKind (t : ArrayType) : Nat := match t with
  | .int => 20
  | .boolean => 21
  | .byte => 22
  | _ => 99
/-- a field's value: a reference (kind 1) or a number -/
def mPick (kd : Nat) (a b : mV) : mV := match kd with
  | 1 => a
  | _ => b
/-- rows of rows: where the outer row lies in its World, how long it and its rows are -/
def mWat (j : Nat) : Nat := match Nat.blt j 15 with
  | true => 12 + 11 * (j - 10)
  | false => 67
def mMsz (j : Nat) (n n2 : Int32) : Bool := match Nat.beq j 15 with
  | true => decide (n = 30) && decide (n2 = 5)
  | false => Nat.ble 10 j && Nat.blt j 15 && decide (n = 10) && decide (n2 = 14)
def mshM (sh : Nat → Nat → Nat → Option (Nat × Nat)) (i j n n2 : Nat) : Nat → Nat → Nat → Option (Nat × Nat) := fun f' i' j' => match Nat.beq f' 6 && Nat.beq i' i && Nat.beq j' j with
  | true => some (23, n)
  | false => match Nat.beq f' (10 + j) && Nat.beq i' i && Nat.blt j' n with
    | true => some (20, n2)
    | false => sh f' i' j'
def mrfM (rf : Nat → Nat → Nat → Nat → Option mRf) (i j n : Nat) : Nat → Nat → Nat → Nat → Option mRf := fun f' i' j' p' => match Nat.beq f' 6 && Nat.beq i' i && Nat.beq j' j with
  | true => some (10 + j, i, p')
  | false => rf f' i' j' p'
def mmiM (mi : mMi) (i j n n2 : Nat) : mMi := fun f' i' j' p' => match Nat.beq f' (10 + j) && Nat.beq i' i && Nat.blt j' n && Nat.blt p' n2 with
  | true => 0
  | false => mi f' i' j' p'
/-- no throw, no call: the instructions on locals, stack and numbers -/
def mx (own m pc : Nat) (ins : Instr) (lo : mLo) (st : mSt) (h : mH) (k : mS → Prop) : Prop :=
  match ins, st with
  | .aload_n i, st => match lo[(i : Nat)]? with
    | some (some (.inr (.inl (some r)))) => k (.inl (pc + 1, lo, .inr (.inl (some r)) :: st, h))
    | _ => False
  | .aload i, st => match lo[i]? with
    | some (some (.inr (.inl (some r)))) => k (.inl (pc + 2, lo, .inr (.inl (some r)) :: st, h))
    | _ => False
  | .iload_n i, st => match lo[(i : Nat)]? with
    | some (some (.inl x)) => k (.inl (pc + 1, lo, .inl x :: st, h))
    | _ => False
  | .iload i, st => match lo[i]? with
    | some (some (.inl x)) => k (.inl (pc + 2, lo, .inl x :: st, h))
    | _ => False
  | .fload i, st => match lo[i]? with
    | some (some (.inr (.inr (.inr (.inl x))))) => k (.inl (pc + 2, lo, mF x :: st, h))
    | _ => False
  | .dload i, st => match lo[i]? with
    | some (some (.inr (.inr (.inr (.inr x))))) => k (.inl (pc + 2, lo, mD x :: st, h))
    | _ => False
  | .istore_n i, .inl x :: st => mck (Nat.blt i lo.length && mOkSt lo i) (k (.inl (pc + 1, mPut lo i (.inl x), st, h)))
  | .istore i, .inl x :: st => mck (Nat.blt i lo.length && mOkSt lo i) (k (.inl (pc + 2, mPut lo i (.inl x), st, h)))
  | .astore_n i, .inr (.inl (some r)) :: st => mck (Nat.blt i lo.length && mOkSt lo i) (k (.inl (pc + 1, mPut lo i (.inr (.inl (some r))), st, h)))
  | .astore i, .inr (.inl (some r)) :: st => mck (Nat.blt i lo.length && mOkSt lo i) (k (.inl (pc + 2, mPut lo i (.inr (.inl (some r))), st, h)))
  | .fstore i, .inr (.inr (.inr (.inl x))) :: st => mck (Nat.blt i lo.length && mOkSt lo i) (k (.inl (pc + 2, mPut lo i (mF x), st, h)))
  | .dstore i, .inr (.inr (.inr (.inr x))) :: st => mck (Nat.blt (i + 1) lo.length && mOkSt lo i && !(mCat2 lo[i + 1]?)) (k (.inl (pc + 2, mPut2 lo i (mD x), st, h)))
  | .iconst n, st => k (.inl (pc + 1, lo, mI (Int32.ofInt n) :: st, h))
  | .bipush n, st => k (.inl (pc + 2, lo, mI (Int8.ofInt n).toInt32 :: st, h))
  | .sipush n, st => k (.inl (pc + 3, lo, mI (Int16.ofInt n).toInt32 :: st, h))
  | .lconst n, st => k (.inl (pc + 1, lo, mL (Int64.ofNat (n : Nat)) :: st, h))
  | .fconst 0, st => k (.inl (pc + 1, lo, mF 0 :: st, h))
  | .dconst 0, st => k (.inl (pc + 1, lo, mD 0 :: st, h))
  | .ldc ix, st => match mStr own ix with
    | some s => k (.inl (pc + 2, lo, mR 3 3 s :: st, h))
    | none => match mCon own ix with
      | some x => k (.inl (pc + 2, lo, mI x :: st, h))
      | none => False
  | .ldc_w ix, st => match mStr own ix with
    | some s => k (.inl (pc + 3, lo, mR 3 3 s :: st, h))
    | none => match mCon own ix with
      | some x => k (.inl (pc + 3, lo, mI x :: st, h))
      | none => False
  | .ldc2_w ix, st => match mLon own ix with
    | some x => k (.inl (pc + 3, lo, mL x :: st, h))
    | none => False
  | .aconst_null, st => k (.inl (pc + 1, lo, .inr (.inl none) :: st, h))
  | .ifnonnull off, .inr (.inl (some _)) :: st => mck (mFw pc off) (k (.inl (mTgt pc off, lo, st, h)))
  | .dup_x1, v :: w :: st => mck (Nat.beq (mCat v) 1 && Nat.beq (mCat w) 1) (k (.inl (pc + 1, lo, v :: w :: v :: st, h)))
  | .i2c, .inl x :: st => mck (!(decide (x < 0)) && Nat.blt (mix x) 65536) (k (.inl (pc + 1, lo, mI x :: st, h)))
  | .checkcast ix, .inr (.inl (some (f, i, j))) :: st => match h with
    | ((sh, rf), (mi, rs)) => mck (mCst own ix && mIsObj (sh f i j) 22) (k (.inl (pc + 3, lo, mR f i j :: st, h)))
  | .dup, v :: st => mck (Nat.beq (mCat v) 1) (k (.inl (pc + 1, lo, v :: v :: st, h)))
  | .dup2, v :: w :: st => mck (Nat.beq (mCat v) 1 && Nat.beq (mCat w) 1) (k (.inl (pc + 1, lo, v :: w :: v :: w :: st, h)))
  | .pop, v :: st => mck (Nat.beq (mCat v) 1) (k (.inl (pc + 1, lo, st, h)))
  | .iadd, .inl y :: .inl x :: st => k (.inl (pc + 1, lo, mI (x + y) :: st, h))
  | .isub, .inl y :: .inl x :: st => k (.inl (pc + 1, lo, mI (x - y) :: st, h))
  | .imul, .inl y :: .inl x :: st => k (.inl (pc + 1, lo, mI (x * y) :: st, h))
  | .idiv, .inl y :: .inl x :: st => mck (!(decide (y = 0))) (k (.inl (pc + 1, lo, mI (x / y) :: st, h)))
  | .irem, .inl y :: .inl x :: st => mck (!(decide (y = 0))) (k (.inl (pc + 1, lo, mI (x - x / y * y) :: st, h)))
  | .iand, .inl y :: .inl x :: st => k (.inl (pc + 1, lo, mI (x &&& y) :: st, h))
  | .ishr, .inl y :: .inl x :: st => k (.inl (pc + 1, lo, mI (x >>> (y &&& 31)) :: st, h))
  | .ior, .inl y :: .inl x :: st => k (.inl (pc + 1, lo, mI (x ||| y) :: st, h))
  | .ishl, .inl y :: .inl x :: st => k (.inl (pc + 1, lo, mI (x <<< (y &&& 31)) :: st, h))
  | .ineg, .inl x :: st => k (.inl (pc + 1, lo, mI (-x) :: st, h))
  | .i2b, .inl x :: st => k (.inl (pc + 1, lo, mI x.toInt8.toInt32 :: st, h))
  | .i2l, .inl x :: st => k (.inl (pc + 1, lo, mL x.toInt64 :: st, h))
  | .i2f, .inl x :: st => k (.inl (pc + 1, lo, mF (FP.i2f x) :: st, h))
  | .i2d, .inl x :: st => k (.inl (pc + 1, lo, mD (FP.i2d x) :: st, h))
  | .f2d, .inr (.inr (.inr (.inl x))) :: st => mck (!(isNaN64 (FP.f2d x))) (k (.inl (pc + 1, lo, mD (FP.f2d x) :: st, h)))
  | .fdiv, .inr (.inr (.inr (.inl y))) :: .inr (.inr (.inr (.inl x))) :: st => mck (!(isNaN32 (FP.fdiv x y))) (k (.inl (pc + 1, lo, mF (FP.fdiv x y) :: st, h)))
  | .ddiv, .inr (.inr (.inr (.inr y))) :: .inr (.inr (.inr (.inr x))) :: st => mck (!(isNaN64 (FP.ddiv x y))) (k (.inl (pc + 1, lo, mD (FP.ddiv x y) :: st, h)))
  | .lcmp, .inr (.inr (.inl y)) :: .inr (.inr (.inl x)) :: st => k (.inl (pc + 1, lo, mI (if x < y then -1 else if x = y then 0 else 1) :: st, h))
  | .fcmp op, .inr (.inr (.inr (.inl y))) :: .inr (.inr (.inr (.inl x))) :: st => k (.inl (pc + 1, lo, mI (Op.cmpValue (FP.fcmp x y) op) :: st, h))
  | .dcmp op, .inr (.inr (.inr (.inr y))) :: .inr (.inr (.inr (.inr x))) :: st => k (.inl (pc + 1, lo, mI (Op.cmpValue (FP.dcmp x y) op) :: st, h))
  | .iinc i n, st => match lo[i]? with
    | some (some (.inl x)) => mck (Nat.blt i lo.length && mOkSt lo i) (k (.inl (pc + 3, mPut lo i (.inl (x + Int32.ofInt n)), st, h)))
    | _ => False
  | .goto off, st => mck (mFw pc off) (k (.inl (mTgt pc off, lo, st, h)))
  | .ifCond c off, .inl x :: st => mck (mFw pc off) (mif (mCmp c x 0) (k (.inl (mTgt pc off, lo, st, h))) (k (.inl (pc + 3, lo, st, h))))
  | .if_icmp c off, .inl y :: .inl x :: st => mck (mFw pc off) (mif (mCmp c x y) (k (.inl (mTgt pc off, lo, st, h))) (k (.inl (pc + 3, lo, st, h))))
  | .tableswitch d lw hi offs, .inl x :: st => mif (decide (x.toInt < lw) || decide (hi < x.toInt)) (mck (mFw pc d) (k (.inl (mTgt pc d, lo, st, h)))) (match offs[(x.toInt - lw).toNat]? with
    | some off => mck (mFw pc off) (k (.inl (mTgt pc off, lo, st, h)))
    | none => False)
  | .getfield ix, .inr (.inl (some (f, i, j))) :: st => match mFld own ix, h with
    | some (ci, q, kd, _), ((sh, rf), (mi, rs)) => mck (mIsObj (sh f i j) ci) (k (.inl (pc + 3, lo, mPick kd (.inr (.inl (rf f i j q))) (mI (mi f i j q)) :: st, h)))
    | none, _ => False
  | .putfield ix, .inl x :: .inr (.inl (some (f, i, j))) :: st => match mFld own ix, h with
    | some (ci, q, kd, fin), ((sh, rf), (mi, rs)) => mck (mIsObj (sh f i j) ci && (!fin || (mInit m && Nat.beq own ci)) && ((Nat.beq kd 3 && decide (x = 0)) || Nat.beq kd 0 || (Nat.beq kd 2 && mZ x))) (k (.inl (pc + 3, lo, st, ((sh, rf), (mset mi f i j q x, rs)))))
    | none, _ => False
  | .putfield ix, .inr (.inl v) :: .inr (.inl (some (f, i, j))) :: st => match mFld own ix, h with
    | some (ci, q, kd, fin), ((sh, rf), (mi, rs)) => mck (mIsObj (sh f i j) ci && (!fin || (mInit m && Nat.beq own ci)) && Nat.beq kd 1) (k (.inl (pc + 3, lo, st, ((sh, mrset rf f i j q v), (mi, rs)))))
    | none, _ => False
  | .getstatic ix, st => match mGet own ix with
    | some s => match Nat.beq s 100 with
      | true => k (.inl (pc + 3, lo, mI 1 :: st, h))
      | false => k (.inl (pc + 3, lo, mR 3 s 0 :: st, h))
    | none => False
  | .iaload, .inl x :: .inr (.inl (some (f, i, j))) :: st => match h with
    | ((sh, rf), (mi, rs)) => mck (mIsInt (sh f i j) x) (k (.inl (pc + 1, lo, mI (mi f i j (mix x)) :: st, h)))
  | .iastore, .inl v :: .inl x :: .inr (.inl (some (f, i, j))) :: st => match h with
    | ((sh, rf), (mi, rs)) => mck (mIsArr (sh f i j) 20 x) (k (.inl (pc + 1, lo, st, ((sh, rf), (mset mi f i j (mix x) v, rs)))))
  | .baload, .inl x :: .inr (.inl (some (f, i, j))) :: st => match h with
    | ((sh, rf), (mi, rs)) => mck (mIsArr (sh f i j) 24 x || mIsArr (sh f i j) 21 x || mIsArr (sh f i j) 22 x) (k (.inl (pc + 1, lo, mI (mi f i j (mix x)) :: st, h)))
  | .bastore, .inl v :: .inl x :: .inr (.inl (some (f, i, j))) :: st => match h with
    | ((sh, rf), (mi, rs)) => mif (mIsArr (sh f i j) 21 x) (k (.inl (pc + 1, lo, st, ((sh, rf), (mset mi f i j (mix x) (v &&& 1), rs)))))
        (mck (mIsArr (sh f i j) 22 x) (k (.inl (pc + 1, lo, st, ((sh, rf), (mset mi f i j (mix x) v.toInt8.toInt32, rs))))))
  | .aaload, .inl x :: .inr (.inl (some (f, i, j))) :: st => match h with
    | ((sh, rf), (mi, rs)) => mck (mIsArr (sh f i j) 23 x || mIsArr (sh f i j) 25 x) (match rf f i j (mix x) with
      | some r => k (.inl (pc + 1, lo, .inr (.inl (some r)) :: st, h))
      | none => False)
  | .aastore, .inr (.inl (some (f2, i2, j2))) :: .inl x :: .inr (.inl (some (f, i, j))) :: st => match h with
    | ((sh, rf), (mi, rs)) => mck (mIsArr (sh f i j) 25 x && mIsObj (sh f2 i2 j2) 1) (k (.inl (pc + 1, lo, st, ((sh, mrset rf f i j (mix x) (some (f2, i2, j2))), (mi, rs)))))
  | .arraylength, .inr (.inl (some (f, i, j))) :: st => match h with
    | ((sh, rf), (mi, rs)) => match sh f i j with
      | some (kd, n) => mck (Nat.blt 19 kd) (k (.inl (pc + 1, lo, mI (Int32.ofNat n) :: st, h)))
      | none => False
  | .new ix, st => match mNew own ix, h with
    | some (ci, n), ((sh, rf), (mi, (q, nx, c, s))) => match Nat.ble 900 ci with
      | true => mck (mDeep st) (k (.inr (.inl (.inr (ci - 900), ((sh, rf), (mi, (q, nx + 1, c + 1, s + 6)))))))
      | false => match mNam (mNwb ci nx q) nx with
        | (f, i, j) => k (.inl (pc + 3, lo, mR f i j :: st, ((msset sh f i j (ci, 0), fun f' i' j' p' => match Nat.beq f f' && Nat.beq i i' && Nat.beq j j' with
              | true => none
              | false => rf f' i' j' p'), (mfill mi f i j n 0, (mNwb ci nx q, nx + 1, c + 1, s + n)))))
    | none, _ => False
  | .newarray t, .inl n :: st => match h with
    | ((sh, rf), (mi, (q, nx, c, s))) => match mNam q nx with
      | (f, i, j) => mck (!(decide (n < 0)) && Nat.ble (mix n) 100000 && Nat.blt (mKind t) 99) (k (.inl (pc + 2, lo, mR f i j :: st, ((msset sh f i j (mKind t, mix n), rf), (mfill mi f i j (mix n) 0, (q, nx + 1, c + 1, s + mix n))))))
  | .anewarray ix, .inl n :: st => match mNew own ix, h with
    | some (ci, _), ((sh, rf), (mi, (q, nx, c, s))) => match mNam q nx with
      | (f, i, j) => mck (!(decide (n < 0)) && Nat.ble (mix n) 100000 && Nat.beq ci 1) (k (.inl (pc + 3, lo, mR f i j :: st, ((msset sh f i j (25, mix n), fun f' i' j' p' => match Nat.beq f f' && Nat.beq i i' && Nat.beq j j' with
              | true => none
              | false => rf f' i' j' p'), (mi, (q, nx + 1, c + 1, s + mix n))))))
    | none, _ => False
  | .multianewarray ix 2, .inl n2 :: .inl n :: st => match h with
    | ((sh, rf), (mi, (q, nx, c, s))) => match mNam q nx with
      | (f, i, j) => mck (mMul own ix && Nat.beq f 6 && mMsz j n n2 && Nat.beq nx (q.2 + mWat j) && Nat.beq i q.2) (k (.inl (pc + 4, lo, mR 6 i j :: st, ((mshM sh i j (mix n) (mix n2), mrfM rf i j (mix n)), (mmiM mi i j (mix n) (mix n2), (q, nx + (1 + mix n), c + (1 + mix n), s + (mix n + mix n * mix n2)))))))
  | .return_, [] => mck (Nat.beq (mRet m) 0) (k (.inr (.inl (.inl none, h))))
  | .ireturn, [.inl x] => mck ((Nat.beq (mRet m) 8 && decide (x = 0)) || Nat.beq (mRet m) 1 || (Nat.beq (mRet m) 2 && mZ x) || (Nat.beq (mRet m) 3 && !(decide (x < 0)) && Nat.blt (mix x) 65536)) (k (.inr (.inl (.inl (some (mI x)), h))))
  | .freturn, [.inr (.inr (.inr (.inl x)))] => mck (Nat.beq (mRet m) 4) (k (.inr (.inl (.inl (some (mF x)), h))))
  | .lreturn, [.inr (.inr (.inl x))] => mck (Nat.beq (mRet m) 6) (k (.inr (.inl (.inl (some (mL x)), h))))
  | .areturn, [.inr (.inl (some r))] => mck (Nat.beq (mRet m) 7) (k (.inr (.inl (.inl (some (.inr (.inl (some r)))), h))))
  | .dreturn, [.inr (.inr (.inr (.inr x)))] => mck (Nat.beq (mRet m) 5) (k (.inr (.inl (.inl (some (mD x)), h))))
  | _, _ => False
/-- a method of an object, found by its class; no table of handlers -/
def mVirtK (y : Nat) : Bool := !(mStat y) && !(Nat.beq (mSelP y) 9999) && (mHH y).isNone
/-- String's methods on a text of the pools (number k), as one step: 4 length, 5 charAt, 11 coder, 12 getBytes -/
def mxS (own y i k : Nat) (as : List mV) (pc : Nat) (lo : mLo) (st : mSt) (h : mH) (kk : mS → Prop) : Prop := match Nat.beq i 3 with
  | false => False
  | true => match mStB y, as with
    | 4, [] => match Nat.blt own 12 with
      | true => mck (Nat.blt 0 (mTxt k).length && mDeep st) (kk (.inl (pc + 3, lo, mI (Int32.ofNat (mTxt k).length) :: st, h)))
      | false => mck (mTxO k && mDeep st) (kk (.inl (pc + 3, lo, mI (Int32.ofNat (mTxt k).length) :: st, h)))
    | 5, [.inl x] => mck (mIn x (mTxt k).length && mDeep st) (kk (.inl (pc + 3, lo, mI ((mTxt k).getD (mix x) 0) :: st, h)))
    | 11, [] => mck (mTxO k && mDeep st) (kk (.inl (pc + 3, lo, mI 0 :: st, h)))
    | 12, [.inr (.inl (some (f2, i2, j2))), .inl dp, .inl z] => match h with
      | ((sh, rf), (mi, rs)) => mck (mTxO k && decide (z = 0) && mSpanB (sh f2 i2 j2) dp (mTxt k).length && mDeep st) (kk (.inl (pc + 3, lo, st, ((sh, rf), (mput mi k f2 i2 j2 (mix dp), rs)))))
    | _, _ => False
/-- places of a row that hold bytes -/
def mByte1 (x : Int32) : Bool := decide (-128 ≤ x) && decide (x ≤ 127)
def mByteOk (mi : mMi) (f i j sp n : Nat) : Bool := (List.range n).all fun q => mByte1 (mi f i j (sp + q))
/-- a row of bytes, cloned -/
def mxK (y pc : Nat) (lo : mLo) (st : mSt) (h : mH) (kk : mS → Prop) : Prop := match st, h with
  | .inr (.inl (some (f, i, j))) :: st, ((sh, rf), (mi, (q, nx, c, s))) => match sh f i j with
    | some (kd, L) => match mNam q nx with
      | (f2, i2, j2) => mck (Nat.beq y 1010 && Nat.beq kd 22 && Nat.ble L 100000 && mByteOk mi f i j 0 L && mDeep st) (kk (.inl (pc + 3, lo, mR f2 i2 j2 :: st, ((msset sh f2 i2 j2 (22, L), rf), (mcopy mi f i j 0 f2 i2 j2 0 L, (q, nx + 1, c + 1, s + L))))))
    | none => False
  | _, _ => False
/-- a call by reference -/
def mxV (own y n pc : Nat) (lo : mLo) (st : mSt) (h : mH) (kk : mS → Prop) : Prop := match (st.take n).reverse, h with
  | .inr (.inl (some (f, i, j))) :: as, ((sh, rf), (mi, rs)) => match Nat.beq f 3 with
    | true => mxS own y i j as pc lo (st.drop n) ((sh, rf), (mi, rs)) kk
    | false => mck (mVirtK y && mIsObj (sh f i j) (mRcv y) && Nat.beq as.length (n - 1) && mDeep (st.drop n)) (kk (.inr (.inr (mSelY y, .inr (.inl (some (f, i, j))) :: as, pc + 3, lo, st.drop n, ((sh, rf), (mi, rs))))))
  | _, _ => False
/-- the JDK's static methods that are one step: 0 arraycopy, 1 fill, 6 min, 7 max, 8 abs, 9 checkIndex -/
def mxB (y pc : Nat) (lo : mLo) (st : mSt) (h : mH) (kk : mS → Prop) : Prop := match y - 1000, st, h with
  | 0, .inl n :: .inl dp :: .inr (.inl (some (f2, i2, j2))) :: .inl sp :: .inr (.inl (some (f, i, j))) :: st, ((sh, rf), (mi, rs)) => mck ((mSpanY (sh f i j) sp n && mSpanY (sh f2 i2 j2) dp n && mByteOk mi f i j (mix sp) (mix n) || mSpan (sh f i j) sp n && mSpan (sh f2 i2 j2) dp n) && mDeep st) (kk (.inl (pc + 3, lo, st, ((sh, rf), (mcopy mi f i j (mix sp) f2 i2 j2 (mix dp) (mix n), rs)))))
  | 1, .inl v :: .inr (.inl (some (f, i, j))) :: st, ((sh, rf), (mi, rs)) => mck (mIsArI (sh f i j) && mDeep st) (kk (.inl (pc + 3, lo, st, ((sh, rf), (mfill mi f i j (mLen (sh f i j)) v, rs)))))
  | 6, .inl z :: .inl x :: st, h => mck (mDeep st) (kk (.inl (pc + 3, lo, mI (if z < x then z else x) :: st, h)))
  | 7, .inl z :: .inl x :: st, h => mck (mDeep st) (kk (.inl (pc + 3, lo, mI (if x < z then z else x) :: st, h)))
  | 8, .inl x :: st, h => mck (mDeep st) (kk (.inl (pc + 3, lo, mI (if 0 ≤ x then x else 0 - x) :: st, h)))
  | 9, .inl n :: .inl x :: st, h => mck (!(decide (x < 0)) && decide (x < n) && mDeep st) (kk (.inl (pc + 3, lo, st, h)))
  | _, _, _ => False
/-- Object's constructor -/
def mxI (y pc : Nat) (lo : mLo) (st : mSt) (h : mH) (kk : mS → Prop) : Prop := match st with
  | .inr (.inl (some r)) :: st => mck (Nat.beq y 1003 && mDeep st) (kk (.inl (pc + 3, lo, st, h)))
  | _ => False
/-- constructors, and the class above's methods -/
def mxP (own y n pc : Nat) (lo : mLo) (st : mSt) (h : mH) (kk : mS → Prop) : Prop := match (st.take n).reverse, h with
  | .inr (.inl (some (f, i, j))) :: as, ((sh, rf), (mi, rs)) => mck ((mInit y || mSup y && Nat.beq own 14 && mIsObj (sh f i j) 14) && !(mStat y) && (mHH y).isNone && Nat.beq as.length (n - 1) && mDeep (st.drop n)) (kk (.inr (.inr (y, .inr (.inl (some (f, i, j))) :: as, pc + 3, lo, st.drop n, ((sh, rf), (mi, rs))))))
  | _, _ => False
/-- the calls -/
def mxC (own m pc : Nat) (ins : Instr) (lo : mLo) (st : mSt) (h : mH) (k : mS → Prop) : Prop :=
  match ins with
  | .invokevirtual ix => match mMet own ix with
    | some (y, n) => match Nat.ble 1000 y with
      | true => mxK y pc lo st h k
      | false => mxV own y n pc lo st h k
    | none => False
  | .invokestatic ix => match mMet own ix with
    | some (y, n) => match Nat.ble 1000 y with
      | true => mxB y pc lo st h k
      | false => mck (mStat y && Nat.beq (st.take n).length n && mDeep (st.drop n)) (k (.inr (.inr (y, (st.take n).reverse, pc + 3, lo, st.drop n, h))))
    | none => False
  | .invokespecial ix => match mMet own ix with
    | some (y, n) => match Nat.ble 1000 y with
      | true => mxI y pc lo st h k
      | false => mxP own y n pc lo st h k
    | none => False
  | _ => False
def mIsCall (ins : Instr) : Bool := match ins with
  | .invokevirtual _ => true
  | .invokestatic _ => true
  | .invokespecial _ => true
  | _ => false
def mexO (o : Option Instr) (own m pc : Nat) (lo : mLo) (st : mSt) (h : mH) (k : mS → Prop) : Prop := match o with
  | some ins => match mIsCall ins with
    | true => mxC own m pc ins lo st h k
    | false => mx own m pc ins lo st h k
  | none => False
def mEntry (m : Nat) (args : List mV) : mLo := args.map some ++ List.replicate (mMaxL m - args.length) none
/-- what a call hands over: whole numbers and references alone -/
def mAll1 (as : List mV) : Bool := as.all fun v => Nat.beq (mCat v) 1
def wp : Nat → Nat → Nat → Nat → mLo → mSt → mH → (mOut → mH → Prop) → Prop
  | 0, _, _, _, _, _, _, _ => False
  | n + 1, D, m, pc, lo, st, h, Q => mexO (cd m pc) (mOwn m) m pc lo st h (fun x => match x with
    | .inl (pc', lo', st', h') => wp n D m pc' lo' st' h' Q
    | .inr (.inl (r, h')) => Q r h'
    | .inr (.inr (y, args, pc', lo', st', h')) => mck (mAll1 args) (match D with
      | 0 => False
      | D' + 1 => wp n D' y 0 (mEntry y args) [] h' (fun r h2 => match r with
        | .inl v => wp n (D' + 1) m pc' lo' (v.toList ++ st') h2 Q
        | .inr E => match mHnd m pc E with
          | none => Q (.inr E) h2
          | some (pc2, i) => mck (Nat.blt i lo'.length && mOkSt lo' i) (wp n (D' + 1) m pc2 (lo'.set i none) [] h2 Q))))
def WP (D m pc : Nat) (lo : mLo) (st : mSt) (h : mH) (Q : mOut → mH → Prop) : Prop := ∃ n, wp n D m pc lo st h Q
