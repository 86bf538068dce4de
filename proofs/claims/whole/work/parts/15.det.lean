/-! THE SMALL MACHINE IS DETERMINED. -/
def mckO {α : Type} (b : Bool) (x : Option α) : Option α := match b with
  | true => x
  | false => none
def mifO {α : Type} (b : Bool) (x y : Option α) : Option α := match b with
  | true => x
  | false => y
theorem mck_iff {b : Bool} {P : Prop} : mck b P ↔ b = true ∧ P := by
  cases b
  · exact ⟨fun h => h.elim, fun h => by cases h.1⟩
  · exact ⟨fun h => ⟨rfl, h⟩, fun h => h.2⟩
theorem mif_iff {b : Bool} {P Q : Prop} : mif b P Q ↔ (b = true ∧ P) ∨ (b = false ∧ Q) := by
  cases b
  · exact ⟨fun h => Or.inr ⟨rfl, h⟩, fun h => h.elim (fun q => by cases q.1) fun q => q.2⟩
  · exact ⟨fun h => Or.inl ⟨rfl, h⟩, fun h => h.elim (fun q => q.2) fun q => by cases q.1⟩
theorem mck_O {α : Type} {b : Bool} {P : Prop} {o : Option α} {k : α → Prop} (h : P ↔ ∃ x, o = some x ∧ k x) : mck b P ↔ ∃ x, mckO b o = some x ∧ k x := by
  cases b
  · exact ⟨fun h => h.elim, fun ⟨x, q, _⟩ => by cases q⟩
  · exact h
theorem mif_O {α : Type} {b : Bool} {P Q : Prop} {o o2 : Option α} {k : α → Prop} (h : P ↔ ∃ x, o = some x ∧ k x) (h2 : Q ↔ ∃ x, o2 = some x ∧ k x) : mif b P Q ↔ ∃ x, mifO b o o2 = some x ∧ k x := by
  cases b
  · exact h2
  · exact h
def mImp (a b : Prop) : Prop := a → b
theorem mk_O {α : Type} {x : α} {k : α → Prop} : k x ↔ ∃ z, some x = some z ∧ k z := ⟨fun h => ⟨x, rfl, h⟩, fun ⟨z, q, h⟩ => by cases q; exact h⟩
theorem mF_O {α : Type} {k : α → Prop} : False ↔ ∃ z, none = some z ∧ k z := ⟨fun h => h.elim, fun ⟨z, q, h⟩ => by cases q⟩
/-- what mx comes to, as a value -/
def mxF (own m pc : Nat) (ins : Instr) (lo : mLo) (st : mSt) (h : mH)   : Option mS :=
  match ins, st with
  | .aload_n i, st => match lo[(i : Nat)]? with
    | some (some (.inr (.inl (some r)))) => some (.inl (pc + 1, lo, .inr (.inl (some r)) :: st, h))
    | _ => none
  | .aload i, st => match lo[i]? with
    | some (some (.inr (.inl (some r)))) => some (.inl (pc + 2, lo, .inr (.inl (some r)) :: st, h))
    | _ => none
  | .iload_n i, st => match lo[(i : Nat)]? with
    | some (some (.inl x)) => some (.inl (pc + 1, lo, .inl x :: st, h))
    | _ => none
  | .iload i, st => match lo[i]? with
    | some (some (.inl x)) => some (.inl (pc + 2, lo, .inl x :: st, h))
    | _ => none
  | .fload i, st => match lo[i]? with
    | some (some (.inr (.inr (.inr (.inl x))))) => some (.inl (pc + 2, lo, mF x :: st, h))
    | _ => none
  | .dload i, st => match lo[i]? with
    | some (some (.inr (.inr (.inr (.inr x))))) => some (.inl (pc + 2, lo, mD x :: st, h))
    | _ => none
  | .istore_n i, .inl x :: st => mckO (Nat.blt i lo.length && mOkSt lo i) (some (.inl (pc + 1, mPut lo i (.inl x), st, h)))
  | .istore i, .inl x :: st => mckO (Nat.blt i lo.length && mOkSt lo i) (some (.inl (pc + 2, mPut lo i (.inl x), st, h)))
  | .astore_n i, .inr (.inl (some r)) :: st => mckO (Nat.blt i lo.length && mOkSt lo i) (some (.inl (pc + 1, mPut lo i (.inr (.inl (some r))), st, h)))
  | .astore i, .inr (.inl (some r)) :: st => mckO (Nat.blt i lo.length && mOkSt lo i) (some (.inl (pc + 2, mPut lo i (.inr (.inl (some r))), st, h)))
  | .fstore i, .inr (.inr (.inr (.inl x))) :: st => mckO (Nat.blt i lo.length && mOkSt lo i) (some (.inl (pc + 2, mPut lo i (mF x), st, h)))
  | .dstore i, .inr (.inr (.inr (.inr x))) :: st => mckO (Nat.blt (i + 1) lo.length && mOkSt lo i && !(mCat2 lo[i + 1]?)) (some (.inl (pc + 2, mPut2 lo i (mD x), st, h)))
  | .iconst n, st => some (.inl (pc + 1, lo, mI (Int32.ofInt n) :: st, h))
  | .bipush n, st => some (.inl (pc + 2, lo, mI (Int8.ofInt n).toInt32 :: st, h))
  | .sipush n, st => some (.inl (pc + 3, lo, mI (Int16.ofInt n).toInt32 :: st, h))
  | .lconst n, st => some (.inl (pc + 1, lo, mL (Int64.ofNat (n : Nat)) :: st, h))
  | .fconst 0, st => some (.inl (pc + 1, lo, mF 0 :: st, h))
  | .dconst 0, st => some (.inl (pc + 1, lo, mD 0 :: st, h))
  | .ldc ix, st => match mStr own ix with
    | some s => some (.inl (pc + 2, lo, mR 3 3 s :: st, h))
    | none => none
  | .ldc_w ix, st => match mStr own ix with
    | some s => some (.inl (pc + 3, lo, mR 3 3 s :: st, h))
    | none => match mCon own ix with
      | some x => some (.inl (pc + 3, lo, mI x :: st, h))
      | none => none
  | .dup, v :: st => mckO (Nat.beq (mCat v) 1) (some (.inl (pc + 1, lo, v :: v :: st, h)))
  | .dup2, v :: w :: st => mckO (Nat.beq (mCat v) 1 && Nat.beq (mCat w) 1) (some (.inl (pc + 1, lo, v :: w :: v :: w :: st, h)))
  | .pop, v :: st => mckO (Nat.beq (mCat v) 1) (some (.inl (pc + 1, lo, st, h)))
  | .iadd, .inl y :: .inl x :: st => some (.inl (pc + 1, lo, mI (x + y) :: st, h))
  | .isub, .inl y :: .inl x :: st => some (.inl (pc + 1, lo, mI (x - y) :: st, h))
  | .imul, .inl y :: .inl x :: st => some (.inl (pc + 1, lo, mI (x * y) :: st, h))
  | .idiv, .inl y :: .inl x :: st => mckO (!(decide (y = 0))) (some (.inl (pc + 1, lo, mI (x / y) :: st, h)))
  | .irem, .inl y :: .inl x :: st => mckO (!(decide (y = 0))) (some (.inl (pc + 1, lo, mI (x - x / y * y) :: st, h)))
  | .iand, .inl y :: .inl x :: st => some (.inl (pc + 1, lo, mI (x &&& y) :: st, h))
  | .ishr, .inl y :: .inl x :: st => some (.inl (pc + 1, lo, mI (x >>> (y &&& 31)) :: st, h))
  | .ior, .inl y :: .inl x :: st => some (.inl (pc + 1, lo, mI (x ||| y) :: st, h))
  | .ishl, .inl y :: .inl x :: st => some (.inl (pc + 1, lo, mI (x <<< (y &&& 31)) :: st, h))
  | .ineg, .inl x :: st => some (.inl (pc + 1, lo, mI (-x) :: st, h))
  | .i2b, .inl x :: st => some (.inl (pc + 1, lo, mI x.toInt8.toInt32 :: st, h))
  | .i2l, .inl x :: st => some (.inl (pc + 1, lo, mL x.toInt64 :: st, h))
  | .i2f, .inl x :: st => some (.inl (pc + 1, lo, mF (FP.i2f x) :: st, h))
  | .i2d, .inl x :: st => some (.inl (pc + 1, lo, mD (FP.i2d x) :: st, h))
  | .f2d, .inr (.inr (.inr (.inl x))) :: st => mckO (!(isNaN64 (FP.f2d x))) (some (.inl (pc + 1, lo, mD (FP.f2d x) :: st, h)))
  | .fdiv, .inr (.inr (.inr (.inl y))) :: .inr (.inr (.inr (.inl x))) :: st => mckO (!(isNaN32 (FP.fdiv x y))) (some (.inl (pc + 1, lo, mF (FP.fdiv x y) :: st, h)))
  | .ddiv, .inr (.inr (.inr (.inr y))) :: .inr (.inr (.inr (.inr x))) :: st => mckO (!(isNaN64 (FP.ddiv x y))) (some (.inl (pc + 1, lo, mD (FP.ddiv x y) :: st, h)))
  | .lcmp, .inr (.inr (.inl y)) :: .inr (.inr (.inl x)) :: st => some (.inl (pc + 1, lo, mI (if x < y then -1 else if x = y then 0 else 1) :: st, h))
  | .fcmp op, .inr (.inr (.inr (.inl y))) :: .inr (.inr (.inr (.inl x))) :: st => some (.inl (pc + 1, lo, mI (Op.cmpValue (FP.fcmp x y) op) :: st, h))
  | .dcmp op, .inr (.inr (.inr (.inr y))) :: .inr (.inr (.inr (.inr x))) :: st => some (.inl (pc + 1, lo, mI (Op.cmpValue (FP.dcmp x y) op) :: st, h))
  | .iinc i n, st => match lo[i]? with
    | some (some (.inl x)) => mckO (Nat.blt i lo.length && mOkSt lo i) (some (.inl (pc + 3, mPut lo i (.inl (x + Int32.ofInt n)), st, h)))
    | _ => none
  | .goto off, st => mckO (mFw pc off) (some (.inl (mTgt pc off, lo, st, h)))
  | .ifCond c off, .inl x :: st => mckO (mFw pc off) (mifO (mCmp c x 0) (some (.inl (mTgt pc off, lo, st, h))) (some (.inl (pc + 3, lo, st, h))))
  | .if_icmp c off, .inl y :: .inl x :: st => mckO (mFw pc off) (mifO (mCmp c x y) (some (.inl (mTgt pc off, lo, st, h))) (some (.inl (pc + 3, lo, st, h))))
  | .tableswitch d lw hi offs, .inl x :: st => mifO (decide (x.toInt < lw) || decide (hi < x.toInt)) (mckO (mFw pc d) (some (.inl (mTgt pc d, lo, st, h)))) (match offs[(x.toInt - lw).toNat]? with
    | some off => mckO (mFw pc off) (some (.inl (mTgt pc off, lo, st, h)))
    | none => none)
  | .getfield ix, .inr (.inl (some (f, i, j))) :: st => match mFld own ix, h with
    | some (ci, q, kd, _), ((sh, rf), (mi, rs)) => mckO (mIsObj (sh f i j) ci) (some (.inl (pc + 3, lo, mPick kd (.inr (.inl (rf f i j q))) (mI (mi f i j q)) :: st, h)))
    | none, _ => none
  | .putfield ix, .inl x :: .inr (.inl (some (f, i, j))) :: st => match mFld own ix, h with
    | some (ci, q, kd, fin), ((sh, rf), (mi, rs)) => mckO (mIsObj (sh f i j) ci && (!fin || (mInit m && Nat.beq own ci)) && (Nat.beq kd 0 || (Nat.beq kd 2 && mZ x))) (some (.inl (pc + 3, lo, st, ((sh, rf), (mset mi f i j q x, rs)))))
    | none, _ => none
  | .putfield ix, .inr (.inl v) :: .inr (.inl (some (f, i, j))) :: st => match mFld own ix, h with
    | some (ci, q, kd, fin), ((sh, rf), (mi, rs)) => mckO (mIsObj (sh f i j) ci && (!fin || (mInit m && Nat.beq own ci)) && Nat.beq kd 1) (some (.inl (pc + 3, lo, st, ((sh, mrset rf f i j q v), (mi, rs)))))
    | none, _ => none
  | .getstatic ix, st => match mGet own ix with
    | some s => some (.inl (pc + 3, lo, mR 3 s 0 :: st, h))
    | none => none
  | .iaload, .inl x :: .inr (.inl (some (f, i, j))) :: st => match h with
    | ((sh, rf), (mi, rs)) => mckO (mIsInt (sh f i j) x) (some (.inl (pc + 1, lo, mI (mi f i j (mix x)) :: st, h)))
  | .iastore, .inl v :: .inl x :: .inr (.inl (some (f, i, j))) :: st => match h with
    | ((sh, rf), (mi, rs)) => mckO (mIsArr (sh f i j) 20 x) (some (.inl (pc + 1, lo, st, ((sh, rf), (mset mi f i j (mix x) v, rs)))))
  | .baload, .inl x :: .inr (.inl (some (f, i, j))) :: st => match h with
    | ((sh, rf), (mi, rs)) => mckO (mIsArr (sh f i j) 21 x || mIsArr (sh f i j) 22 x) (some (.inl (pc + 1, lo, mI (mi f i j (mix x)) :: st, h)))
  | .bastore, .inl v :: .inl x :: .inr (.inl (some (f, i, j))) :: st => match h with
    | ((sh, rf), (mi, rs)) => mifO (mIsArr (sh f i j) 21 x) (some (.inl (pc + 1, lo, st, ((sh, rf), (mset mi f i j (mix x) (v &&& 1), rs)))))
        (mckO (mIsArr (sh f i j) 22 x) (some (.inl (pc + 1, lo, st, ((sh, rf), (mset mi f i j (mix x) v.toInt8.toInt32, rs))))))
  | .laload, .inl x :: .inr (.inl (some (f, i, j))) :: st => match h with
    | ((sh, rf), (mi, (ml, md, rs))) => mckO (mIsArr (sh f i j) 23 x && Nat.beq f 5 && Nat.beq i 0 && Nat.beq j 0) (some (.inl (pc + 1, lo, mL (ml (mix x)) :: st, h)))
  | .lastore, .inr (.inr (.inl v)) :: .inl x :: .inr (.inl (some (f, i, j))) :: st => match h with
    | ((sh, rf), (mi, (ml, md, rs))) => mckO (mIsArr (sh f i j) 23 x && Nat.beq f 5 && Nat.beq i 0 && Nat.beq j 0) (some (.inl (pc + 1, lo, st, ((sh, rf), (mi, (vp_updL ml (mix x) v, md, rs))))))
  | .daload, .inl x :: .inr (.inl (some (f, i, j))) :: st => match h with
    | ((sh, rf), (mi, (ml, md, rs))) => mckO (mIsArr (sh f i j) 24 x && Nat.beq f 5 && Nat.beq i 1 && Nat.beq j 0) (some (.inl (pc + 1, lo, mD (md (mix x)) :: st, h)))
  | .dastore, .inr (.inr (.inr (.inr v))) :: .inl x :: .inr (.inl (some (f, i, j))) :: st => match h with
    | ((sh, rf), (mi, (ml, md, rs))) => mckO (mIsArr (sh f i j) 24 x && Nat.beq f 5 && Nat.beq i 1 && Nat.beq j 0) (some (.inl (pc + 1, lo, st, ((sh, rf), (mi, (ml, (fun p => match Nat.beq (mix x) p with
      | true => v
      | false => md p), rs))))))
  | .aaload, .inl x :: .inr (.inl (some (f, i, j))) :: st => match h with
    | ((sh, rf), (mi, rs)) => mckO (mIsArr (sh f i j) 25 x) (match rf f i j (mix x) with
      | some r => some (.inl (pc + 1, lo, .inr (.inl (some r)) :: st, h))
      | none => none)
  | .aastore, .inr (.inl (some (f2, i2, j2))) :: .inl x :: .inr (.inl (some (f, i, j))) :: st => match h with
    | ((sh, rf), (mi, rs)) => mckO (mIsArr (sh f i j) 25 x && mIsObj (sh f2 i2 j2) 1) (some (.inl (pc + 1, lo, st, ((sh, mrset rf f i j (mix x) (some (f2, i2, j2))), (mi, rs)))))
  | .arraylength, .inr (.inl (some (f, i, j))) :: st => match h with
    | ((sh, rf), (mi, rs)) => match sh f i j with
      | some (kd, n) => mckO (Nat.blt 19 kd) (some (.inl (pc + 1, lo, mI (Int32.ofNat n) :: st, h)))
      | none => none
  | .new ix, st => match mNew own ix, h with
    | some (ci, n), ((sh, rf), (mi, (ml, md, nx, c, s))) => match Nat.ble 900 ci with
      | true => mckO (mDeep st) (some (.inr (.inl (.inr (ci - 900), ((sh, rf), (mi, (ml, md, none, c + 1, s + 6)))))))
      | false => match nx with
        | some a => match mAl a with
          | (f, i, j) => some (.inl (pc + 3, lo, mR f i j :: st, ((msset sh f i j (ci, 0), fun f' i' j' p' => match Nat.beq f f' && Nat.beq i i' && Nat.beq j j' with
              | true => none
              | false => rf f' i' j' p'), (mfill mi f i j n 0, (ml, md, some (a + 1), c + 1, s + n)))))
        | none => none
    | none, _ => none
  | .newarray t, .inl n :: st => match h with
    | ((sh, rf), (mi, (ml, md, nx, c, s))) => match nx with
      | some a => match mAl a with
        | (f, i, j) => mckO (!(decide (n < 0)) && Nat.ble (mix n) 100000 && Nat.blt (mKind t) 99 && (Nat.blt (mKind t) 23 || Nat.beq f 5) && (!(Nat.beq (mKind t) 23) || Nat.beq i 0 && Nat.beq j 0) && (!(Nat.beq (mKind t) 24) || Nat.beq i 1 && Nat.beq j 0)) (some (.inl (pc + 2, lo, mR f i j :: st, ((msset sh f i j (mKind t, mix n), rf), (mfill mi f i j (mix n) 0, (match Nat.beq (mKind t) 23 with
            | true => fun _ => 0
            | false => ml, match Nat.beq (mKind t) 24 with
            | true => fun _ => 0
            | false => md, some (a + 1), c + 1, s + mix n))))))
      | none => none
  | .anewarray ix, .inl n :: st => match mNew own ix, h with
    | some (ci, _), ((sh, rf), (mi, (ml, md, nx, c, s))) => match nx with
      | some a => match mAl a with
        | (f, i, j) => mckO (!(decide (n < 0)) && Nat.ble (mix n) 100000 && Nat.beq ci 1) (some (.inl (pc + 3, lo, mR f i j :: st, ((msset sh f i j (25, mix n), fun f' i' j' p' => match Nat.beq f f' && Nat.beq i i' && Nat.beq j j' with
              | true => none
              | false => rf f' i' j' p'), (mi, (ml, md, some (a + 1), c + 1, s + mix n))))))
      | none => none
    | none, _ => none
  | .return_, [] => mckO (Nat.beq (mRet m) 0) (some (.inr (.inl (.inl none, h))))
  | .ireturn, [.inl x] => mckO (Nat.beq (mRet m) 1 || (Nat.beq (mRet m) 2 && mZ x) || (Nat.beq (mRet m) 3 && !(decide (x < 0)) && Nat.blt (mix x) 65536)) (some (.inr (.inl (.inl (some (mI x)), h))))
  | .freturn, [.inr (.inr (.inr (.inl x)))] => mckO (Nat.beq (mRet m) 4) (some (.inr (.inl (.inl (some (mF x)), h))))
  | .dreturn, [.inr (.inr (.inr (.inr x)))] => mckO (Nat.beq (mRet m) 5) (some (.inr (.inl (.inl (some (mD x)), h))))
  | _, _ => none

def mxCF (own m pc : Nat) (ins : Instr) (lo : mLo) (st : mSt) (h : mH)   : Option mS :=
  match ins with
  | .invokevirtual ix => match mMet own ix with
    | some (y, n) => match Nat.ble 1000 y with
      | true => match Nat.beq y 1004, st with
        | true, .inr (.inl (some (f, i, j))) :: st => mckO (Nat.beq f 3 && Nat.beq i 3 && Nat.blt 0 (mTxt j).length && mDeep st) (some (.inl (pc + 3, lo, mI (Int32.ofNat (mTxt j).length) :: st, h)))
        | false, .inl x :: .inr (.inl (some (f, i, j))) :: st => mckO (Nat.beq y 1005 && Nat.beq f 3 && Nat.beq i 3 && mIn x (mTxt j).length && mDeep st) (some (.inl (pc + 3, lo, mI ((mTxt j).getD (mix x) 0) :: st, h)))
        | _, _ => none
      | false => match (st.take n).reverse, h with
        | .inr (.inl (some (f, i, j))) :: as, ((sh, rf), (mi, rs)) => mckO (mVirtK y && mIsObj (sh f i j) (mOwn y) && Nat.beq as.length (n - 1) && mDeep (st.drop n)) (some (.inr (.inr (y, .inr (.inl (some (f, i, j))) :: as, pc + 3, lo, st.drop n, h))))
        | _, _ => none
    | none => none
  | .invokestatic ix => match mMet own ix with
    | some (y, n) => match Nat.ble 1000 y with
      | true => match Nat.beq y 1000 with
        | true => match st, h with
          | .inl n :: .inl dp :: .inr (.inl (some (f2, i2, j2))) :: .inl sp :: .inr (.inl (some (f, i, j))) :: st, ((sh, rf), (mi, rs)) => mckO (mSpan (sh f i j) sp n && mSpan (sh f2 i2 j2) dp n && mDeep st) (some (.inl (pc + 3, lo, st, ((sh, rf), (mcopy mi f i j (mix sp) f2 i2 j2 (mix dp) (mix n), rs)))))
          | _, _ => none
        | false => match Nat.beq y 1001 with
          | true => match st, h with
            | .inl v :: .inr (.inl (some (f, i, j))) :: st, ((sh, rf), (mi, rs)) => mckO (mIsArI (sh f i j) && mDeep st) (some (.inl (pc + 3, lo, st, ((sh, rf), (mfill mi f i j (mLen (sh f i j)) v, rs)))))
            | _, _ => none
          | false => match Nat.beq y 1008 with
            | true => match st with
              | .inl x :: st => mckO (mDeep st) (some (.inl (pc + 3, lo, mI (if 0 ≤ x then x else 0 - x) :: st, h)))
              | _ => none
            | false => match st with
              | .inl z :: .inl x :: st => mckO ((Nat.beq y 1006 || Nat.beq y 1007) && mDeep st) (some (.inl (pc + 3, lo, mI (match Nat.beq y 1006 with
                | true => if z < x then z else x
                | false => if x < z then z else x) :: st, h)))
              | _ => none
      | false => mckO (mStat y && Nat.beq (st.take n).length n && mDeep (st.drop n)) (some (.inr (.inr (y, (st.take n).reverse, pc + 3, lo, st.drop n, h))))
    | none => none
  | .invokespecial ix => match mMet own ix with
    | some (y, n) => match Nat.ble 1000 y with
      | true => match st with
        | .inr (.inl (some r)) :: st => mckO (Nat.beq y 1003 && mDeep st) (some (.inl (pc + 3, lo, st, h)))
        | _ => none
      | false => match (st.take n).reverse with
        | .inr (.inl (some r)) :: as => mckO (mInit y && !(mStat y) && (mHH y).isNone && Nat.beq as.length (n - 1) && mDeep (st.drop n)) (some (.inr (.inr (y, .inr (.inl (some r)) :: as, pc + 3, lo, st.drop n, h))))
        | _ => none
    | none => none
  | _ => none
set_option maxRecDepth 100000 in
set_option maxHeartbeats 8000000 in
theorem mx_to {own m pc : Nat} {ins : Instr} {lo : mLo} {st : mSt} {h : mH} {k : mS → Prop} : mImp (mx own m pc ins lo st h k) (∃ x, mxF own m pc ins lo st h = some x ∧ k x) := by
  unfold mx mxF
  split
  all_goals first
    | exact fun h => h.elim
    | exact mk_O.mp
    | exact (mck_O mk_O).mp
    | exact (mif_O mk_O mk_O).mp
    | exact (mck_O (mif_O mk_O mk_O)).mp
    | exact (mif_O mk_O (mck_O mk_O)).mp
    | exact (mif_O (mck_O mk_O) (mck_O mk_O)).mp
    | exact (mif_O (mck_O mk_O) mF_O).mp
    | exact (mck_O mF_O).mp
    | (rename_i heq; rw [heq]; first
        | exact fun h => h.elim
        | exact mk_O.mp
        | exact (mck_O mk_O).mp
        | exact (mif_O mk_O mk_O).mp
        | exact (mck_O (mif_O mk_O mk_O)).mp
        | exact (mif_O mk_O (mck_O mk_O)).mp
        | exact (mif_O (mck_O mk_O) (mck_O mk_O)).mp
        | exact (mif_O (mck_O mk_O) mF_O).mp
        | exact (mck_O mF_O).mp
        | (dsimp only; split <;> first
          | exact fun h => h.elim
          | exact mk_O.mp
          | exact (mck_O mk_O).mp
          | exact (mif_O mk_O mk_O).mp
          | exact (mck_O (mif_O mk_O mk_O)).mp
          | exact (mif_O mk_O (mck_O mk_O)).mp
          | exact (mif_O (mck_O mk_O) (mck_O mk_O)).mp
          | exact (mif_O (mck_O mk_O) mF_O).mp
          | exact (mck_O mF_O).mp
          | (rename_i heq; rw [heq]; first
              | exact fun h => h.elim
              | exact mk_O.mp
              | exact (mck_O mk_O).mp
              | exact (mif_O mk_O mk_O).mp
              | exact (mck_O (mif_O mk_O mk_O)).mp
              | exact (mif_O mk_O (mck_O mk_O)).mp
              | exact (mif_O (mck_O mk_O) (mck_O mk_O)).mp
              | exact (mif_O (mck_O mk_O) mF_O).mp
              | exact (mck_O mF_O).mp
              | (dsimp only; split <;> first
                | exact fun h => h.elim
                | exact mk_O.mp
                | exact (mck_O mk_O).mp
                | exact (mif_O mk_O mk_O).mp
                | exact (mck_O (mif_O mk_O mk_O)).mp
                | exact (mif_O mk_O (mck_O mk_O)).mp
                | exact (mif_O (mck_O mk_O) (mck_O mk_O)).mp
                | exact (mif_O (mck_O mk_O) mF_O).mp
                | exact (mck_O mF_O).mp
                | (rename_i heq; rw [heq]; first
                    | exact fun h => h.elim
                    | exact mk_O.mp
                    | exact (mck_O mk_O).mp
                    | exact (mif_O mk_O mk_O).mp
                    | exact (mck_O (mif_O mk_O mk_O)).mp
                    | exact (mif_O mk_O (mck_O mk_O)).mp
                    | exact (mif_O (mck_O mk_O) (mck_O mk_O)).mp
                    | exact (mif_O (mck_O mk_O) mF_O).mp
                    | exact (mck_O mF_O).mp
                    | (dsimp only; split <;> first
                      | exact fun h => h.elim
                      | exact mk_O.mp
                      | exact (mck_O mk_O).mp
                      | exact (mif_O mk_O mk_O).mp
                      | exact (mck_O (mif_O mk_O mk_O)).mp
                      | exact (mif_O mk_O (mck_O mk_O)).mp
                      | exact (mif_O (mck_O mk_O) (mck_O mk_O)).mp
                      | exact (mif_O (mck_O mk_O) mF_O).mp
                      | exact (mck_O mF_O).mp
                      | (rename_i heq; rw [heq]; first
                          | exact fun h => h.elim
                          | exact mk_O.mp
                          | exact (mck_O mk_O).mp
                          | exact (mif_O mk_O mk_O).mp
                          | exact (mck_O (mif_O mk_O mk_O)).mp
                          | exact (mif_O mk_O (mck_O mk_O)).mp
                          | exact (mif_O (mck_O mk_O) (mck_O mk_O)).mp
                          | exact (mif_O (mck_O mk_O) mF_O).mp
                          | exact (mck_O mF_O).mp
                        )
                      | (dsimp only; split <;> first
                          | exact fun h => h.elim
                          | exact mk_O.mp
                          | exact (mck_O mk_O).mp
                          | exact (mif_O mk_O mk_O).mp
                          | exact (mck_O (mif_O mk_O mk_O)).mp
                          | exact (mif_O mk_O (mck_O mk_O)).mp
                          | exact (mif_O (mck_O mk_O) (mck_O mk_O)).mp
                          | exact (mif_O (mck_O mk_O) mF_O).mp
                          | exact (mck_O mF_O).mp
                        )
                      )
                  )
                | (dsimp only; split <;> first
                    | exact fun h => h.elim
                    | exact mk_O.mp
                    | exact (mck_O mk_O).mp
                    | exact (mif_O mk_O mk_O).mp
                    | exact (mck_O (mif_O mk_O mk_O)).mp
                    | exact (mif_O mk_O (mck_O mk_O)).mp
                    | exact (mif_O (mck_O mk_O) (mck_O mk_O)).mp
                    | exact (mif_O (mck_O mk_O) mF_O).mp
                    | exact (mck_O mF_O).mp
                    | (rename_i heq; rw [heq]; first
                        | exact fun h => h.elim
                        | exact mk_O.mp
                        | exact (mck_O mk_O).mp
                        | exact (mif_O mk_O mk_O).mp
                        | exact (mck_O (mif_O mk_O mk_O)).mp
                        | exact (mif_O mk_O (mck_O mk_O)).mp
                        | exact (mif_O (mck_O mk_O) (mck_O mk_O)).mp
                        | exact (mif_O (mck_O mk_O) mF_O).mp
                        | exact (mck_O mF_O).mp
                      )
                    | (dsimp only; split <;> first
                        | exact fun h => h.elim
                        | exact mk_O.mp
                        | exact (mck_O mk_O).mp
                        | exact (mif_O mk_O mk_O).mp
                        | exact (mck_O (mif_O mk_O mk_O)).mp
                        | exact (mif_O mk_O (mck_O mk_O)).mp
                        | exact (mif_O (mck_O mk_O) (mck_O mk_O)).mp
                        | exact (mif_O (mck_O mk_O) mF_O).mp
                        | exact (mck_O mF_O).mp
                      )
                  )
                )
            )
          | (dsimp only; split <;> first
              | exact fun h => h.elim
              | exact mk_O.mp
              | exact (mck_O mk_O).mp
              | exact (mif_O mk_O mk_O).mp
              | exact (mck_O (mif_O mk_O mk_O)).mp
              | exact (mif_O mk_O (mck_O mk_O)).mp
              | exact (mif_O (mck_O mk_O) (mck_O mk_O)).mp
              | exact (mif_O (mck_O mk_O) mF_O).mp
              | exact (mck_O mF_O).mp
              | (rename_i heq; rw [heq]; first
                  | exact fun h => h.elim
                  | exact mk_O.mp
                  | exact (mck_O mk_O).mp
                  | exact (mif_O mk_O mk_O).mp
                  | exact (mck_O (mif_O mk_O mk_O)).mp
                  | exact (mif_O mk_O (mck_O mk_O)).mp
                  | exact (mif_O (mck_O mk_O) (mck_O mk_O)).mp
                  | exact (mif_O (mck_O mk_O) mF_O).mp
                  | exact (mck_O mF_O).mp
                  | (dsimp only; split <;> first
                    | exact fun h => h.elim
                    | exact mk_O.mp
                    | exact (mck_O mk_O).mp
                    | exact (mif_O mk_O mk_O).mp
                    | exact (mck_O (mif_O mk_O mk_O)).mp
                    | exact (mif_O mk_O (mck_O mk_O)).mp
                    | exact (mif_O (mck_O mk_O) (mck_O mk_O)).mp
                    | exact (mif_O (mck_O mk_O) mF_O).mp
                    | exact (mck_O mF_O).mp
                    | (rename_i heq; rw [heq]; first
                        | exact fun h => h.elim
                        | exact mk_O.mp
                        | exact (mck_O mk_O).mp
                        | exact (mif_O mk_O mk_O).mp
                        | exact (mck_O (mif_O mk_O mk_O)).mp
                        | exact (mif_O mk_O (mck_O mk_O)).mp
                        | exact (mif_O (mck_O mk_O) (mck_O mk_O)).mp
                        | exact (mif_O (mck_O mk_O) mF_O).mp
                        | exact (mck_O mF_O).mp
                      )
                    | (dsimp only; split <;> first
                        | exact fun h => h.elim
                        | exact mk_O.mp
                        | exact (mck_O mk_O).mp
                        | exact (mif_O mk_O mk_O).mp
                        | exact (mck_O (mif_O mk_O mk_O)).mp
                        | exact (mif_O mk_O (mck_O mk_O)).mp
                        | exact (mif_O (mck_O mk_O) (mck_O mk_O)).mp
                        | exact (mif_O (mck_O mk_O) mF_O).mp
                        | exact (mck_O mF_O).mp
                      )
                    )
                )
              | (dsimp only; split <;> first
                  | exact fun h => h.elim
                  | exact mk_O.mp
                  | exact (mck_O mk_O).mp
                  | exact (mif_O mk_O mk_O).mp
                  | exact (mck_O (mif_O mk_O mk_O)).mp
                  | exact (mif_O mk_O (mck_O mk_O)).mp
                  | exact (mif_O (mck_O mk_O) (mck_O mk_O)).mp
                  | exact (mif_O (mck_O mk_O) mF_O).mp
                  | exact (mck_O mF_O).mp
                  | (rename_i heq; rw [heq]; first
                      | exact fun h => h.elim
                      | exact mk_O.mp
                      | exact (mck_O mk_O).mp
                      | exact (mif_O mk_O mk_O).mp
                      | exact (mck_O (mif_O mk_O mk_O)).mp
                      | exact (mif_O mk_O (mck_O mk_O)).mp
                      | exact (mif_O (mck_O mk_O) (mck_O mk_O)).mp
                      | exact (mif_O (mck_O mk_O) mF_O).mp
                      | exact (mck_O mF_O).mp
                    )
                  | (dsimp only; split <;> first
                      | exact fun h => h.elim
                      | exact mk_O.mp
                      | exact (mck_O mk_O).mp
                      | exact (mif_O mk_O mk_O).mp
                      | exact (mck_O (mif_O mk_O mk_O)).mp
                      | exact (mif_O mk_O (mck_O mk_O)).mp
                      | exact (mif_O (mck_O mk_O) (mck_O mk_O)).mp
                      | exact (mif_O (mck_O mk_O) mF_O).mp
                      | exact (mck_O mF_O).mp
                    )
                )
            )
          )
      )
    | (dsimp only; split <;> first
        | exact fun h => h.elim
        | exact mk_O.mp
        | exact (mck_O mk_O).mp
        | exact (mif_O mk_O mk_O).mp
        | exact (mck_O (mif_O mk_O mk_O)).mp
        | exact (mif_O mk_O (mck_O mk_O)).mp
        | exact (mif_O (mck_O mk_O) (mck_O mk_O)).mp
        | exact (mif_O (mck_O mk_O) mF_O).mp
        | exact (mck_O mF_O).mp
        | (rename_i heq; rw [heq]; first
            | exact fun h => h.elim
            | exact mk_O.mp
            | exact (mck_O mk_O).mp
            | exact (mif_O mk_O mk_O).mp
            | exact (mck_O (mif_O mk_O mk_O)).mp
            | exact (mif_O mk_O (mck_O mk_O)).mp
            | exact (mif_O (mck_O mk_O) (mck_O mk_O)).mp
            | exact (mif_O (mck_O mk_O) mF_O).mp
            | exact (mck_O mF_O).mp
            | (dsimp only; split <;> first
              | exact fun h => h.elim
              | exact mk_O.mp
              | exact (mck_O mk_O).mp
              | exact (mif_O mk_O mk_O).mp
              | exact (mck_O (mif_O mk_O mk_O)).mp
              | exact (mif_O mk_O (mck_O mk_O)).mp
              | exact (mif_O (mck_O mk_O) (mck_O mk_O)).mp
              | exact (mif_O (mck_O mk_O) mF_O).mp
              | exact (mck_O mF_O).mp
              | (rename_i heq; rw [heq]; first
                  | exact fun h => h.elim
                  | exact mk_O.mp
                  | exact (mck_O mk_O).mp
                  | exact (mif_O mk_O mk_O).mp
                  | exact (mck_O (mif_O mk_O mk_O)).mp
                  | exact (mif_O mk_O (mck_O mk_O)).mp
                  | exact (mif_O (mck_O mk_O) (mck_O mk_O)).mp
                  | exact (mif_O (mck_O mk_O) mF_O).mp
                  | exact (mck_O mF_O).mp
                  | (dsimp only; split <;> first
                    | exact fun h => h.elim
                    | exact mk_O.mp
                    | exact (mck_O mk_O).mp
                    | exact (mif_O mk_O mk_O).mp
                    | exact (mck_O (mif_O mk_O mk_O)).mp
                    | exact (mif_O mk_O (mck_O mk_O)).mp
                    | exact (mif_O (mck_O mk_O) (mck_O mk_O)).mp
                    | exact (mif_O (mck_O mk_O) mF_O).mp
                    | exact (mck_O mF_O).mp
                    | (rename_i heq; rw [heq]; first
                        | exact fun h => h.elim
                        | exact mk_O.mp
                        | exact (mck_O mk_O).mp
                        | exact (mif_O mk_O mk_O).mp
                        | exact (mck_O (mif_O mk_O mk_O)).mp
                        | exact (mif_O mk_O (mck_O mk_O)).mp
                        | exact (mif_O (mck_O mk_O) (mck_O mk_O)).mp
                        | exact (mif_O (mck_O mk_O) mF_O).mp
                        | exact (mck_O mF_O).mp
                      )
                    | (dsimp only; split <;> first
                        | exact fun h => h.elim
                        | exact mk_O.mp
                        | exact (mck_O mk_O).mp
                        | exact (mif_O mk_O mk_O).mp
                        | exact (mck_O (mif_O mk_O mk_O)).mp
                        | exact (mif_O mk_O (mck_O mk_O)).mp
                        | exact (mif_O (mck_O mk_O) (mck_O mk_O)).mp
                        | exact (mif_O (mck_O mk_O) mF_O).mp
                        | exact (mck_O mF_O).mp
                      )
                    )
                )
              | (dsimp only; split <;> first
                  | exact fun h => h.elim
                  | exact mk_O.mp
                  | exact (mck_O mk_O).mp
                  | exact (mif_O mk_O mk_O).mp
                  | exact (mck_O (mif_O mk_O mk_O)).mp
                  | exact (mif_O mk_O (mck_O mk_O)).mp
                  | exact (mif_O (mck_O mk_O) (mck_O mk_O)).mp
                  | exact (mif_O (mck_O mk_O) mF_O).mp
                  | exact (mck_O mF_O).mp
                  | (rename_i heq; rw [heq]; first
                      | exact fun h => h.elim
                      | exact mk_O.mp
                      | exact (mck_O mk_O).mp
                      | exact (mif_O mk_O mk_O).mp
                      | exact (mck_O (mif_O mk_O mk_O)).mp
                      | exact (mif_O mk_O (mck_O mk_O)).mp
                      | exact (mif_O (mck_O mk_O) (mck_O mk_O)).mp
                      | exact (mif_O (mck_O mk_O) mF_O).mp
                      | exact (mck_O mF_O).mp
                    )
                  | (dsimp only; split <;> first
                      | exact fun h => h.elim
                      | exact mk_O.mp
                      | exact (mck_O mk_O).mp
                      | exact (mif_O mk_O mk_O).mp
                      | exact (mck_O (mif_O mk_O mk_O)).mp
                      | exact (mif_O mk_O (mck_O mk_O)).mp
                      | exact (mif_O (mck_O mk_O) (mck_O mk_O)).mp
                      | exact (mif_O (mck_O mk_O) mF_O).mp
                      | exact (mck_O mF_O).mp
                    )
                )
              )
          )
        | (dsimp only; split <;> first
            | exact fun h => h.elim
            | exact mk_O.mp
            | exact (mck_O mk_O).mp
            | exact (mif_O mk_O mk_O).mp
            | exact (mck_O (mif_O mk_O mk_O)).mp
            | exact (mif_O mk_O (mck_O mk_O)).mp
            | exact (mif_O (mck_O mk_O) (mck_O mk_O)).mp
            | exact (mif_O (mck_O mk_O) mF_O).mp
            | exact (mck_O mF_O).mp
            | (rename_i heq; rw [heq]; first
                | exact fun h => h.elim
                | exact mk_O.mp
                | exact (mck_O mk_O).mp
                | exact (mif_O mk_O mk_O).mp
                | exact (mck_O (mif_O mk_O mk_O)).mp
                | exact (mif_O mk_O (mck_O mk_O)).mp
                | exact (mif_O (mck_O mk_O) (mck_O mk_O)).mp
                | exact (mif_O (mck_O mk_O) mF_O).mp
                | exact (mck_O mF_O).mp
                | (dsimp only; split <;> first
                  | exact fun h => h.elim
                  | exact mk_O.mp
                  | exact (mck_O mk_O).mp
                  | exact (mif_O mk_O mk_O).mp
                  | exact (mck_O (mif_O mk_O mk_O)).mp
                  | exact (mif_O mk_O (mck_O mk_O)).mp
                  | exact (mif_O (mck_O mk_O) (mck_O mk_O)).mp
                  | exact (mif_O (mck_O mk_O) mF_O).mp
                  | exact (mck_O mF_O).mp
                  | (rename_i heq; rw [heq]; first
                      | exact fun h => h.elim
                      | exact mk_O.mp
                      | exact (mck_O mk_O).mp
                      | exact (mif_O mk_O mk_O).mp
                      | exact (mck_O (mif_O mk_O mk_O)).mp
                      | exact (mif_O mk_O (mck_O mk_O)).mp
                      | exact (mif_O (mck_O mk_O) (mck_O mk_O)).mp
                      | exact (mif_O (mck_O mk_O) mF_O).mp
                      | exact (mck_O mF_O).mp
                    )
                  | (dsimp only; split <;> first
                      | exact fun h => h.elim
                      | exact mk_O.mp
                      | exact (mck_O mk_O).mp
                      | exact (mif_O mk_O mk_O).mp
                      | exact (mck_O (mif_O mk_O mk_O)).mp
                      | exact (mif_O mk_O (mck_O mk_O)).mp
                      | exact (mif_O (mck_O mk_O) (mck_O mk_O)).mp
                      | exact (mif_O (mck_O mk_O) mF_O).mp
                      | exact (mck_O mF_O).mp
                    )
                  )
              )
            | (dsimp only; split <;> first
                | exact fun h => h.elim
                | exact mk_O.mp
                | exact (mck_O mk_O).mp
                | exact (mif_O mk_O mk_O).mp
                | exact (mck_O (mif_O mk_O mk_O)).mp
                | exact (mif_O mk_O (mck_O mk_O)).mp
                | exact (mif_O (mck_O mk_O) (mck_O mk_O)).mp
                | exact (mif_O (mck_O mk_O) mF_O).mp
                | exact (mck_O mF_O).mp
                | (rename_i heq; rw [heq]; first
                    | exact fun h => h.elim
                    | exact mk_O.mp
                    | exact (mck_O mk_O).mp
                    | exact (mif_O mk_O mk_O).mp
                    | exact (mck_O (mif_O mk_O mk_O)).mp
                    | exact (mif_O mk_O (mck_O mk_O)).mp
                    | exact (mif_O (mck_O mk_O) (mck_O mk_O)).mp
                    | exact (mif_O (mck_O mk_O) mF_O).mp
                    | exact (mck_O mF_O).mp
                  )
                | (dsimp only; split <;> first
                    | exact fun h => h.elim
                    | exact mk_O.mp
                    | exact (mck_O mk_O).mp
                    | exact (mif_O mk_O mk_O).mp
                    | exact (mck_O (mif_O mk_O mk_O)).mp
                    | exact (mif_O mk_O (mck_O mk_O)).mp
                    | exact (mif_O (mck_O mk_O) (mck_O mk_O)).mp
                    | exact (mif_O (mck_O mk_O) mF_O).mp
                    | exact (mck_O mF_O).mp
                  )
              )
          )
      )
    | skip
  all_goals done
set_option maxRecDepth 100000 in
set_option maxHeartbeats 8000000 in
theorem mx_of {own m pc : Nat} {ins : Instr} {lo : mLo} {st : mSt} {h : mH} {k : mS → Prop} : mImp (∃ x, mxF own m pc ins lo st h = some x ∧ k x) (mx own m pc ins lo st h k) := by
  unfold mx mxF
  split
  all_goals first
    | exact fun h => (mF_O.mpr h).elim
    | exact mk_O.mpr
    | exact (mck_O mk_O).mpr
    | exact (mif_O mk_O mk_O).mpr
    | exact (mck_O (mif_O mk_O mk_O)).mpr
    | exact (mif_O mk_O (mck_O mk_O)).mpr
    | exact (mif_O (mck_O mk_O) (mck_O mk_O)).mpr
    | exact (mif_O (mck_O mk_O) mF_O).mpr
    | exact (mck_O mF_O).mpr
    | (rename_i heq; rw [heq]; first
        | exact fun h => (mF_O.mpr h).elim
        | exact mk_O.mpr
        | exact (mck_O mk_O).mpr
        | exact (mif_O mk_O mk_O).mpr
        | exact (mck_O (mif_O mk_O mk_O)).mpr
        | exact (mif_O mk_O (mck_O mk_O)).mpr
        | exact (mif_O (mck_O mk_O) (mck_O mk_O)).mpr
        | exact (mif_O (mck_O mk_O) mF_O).mpr
        | exact (mck_O mF_O).mpr
        | (dsimp only; split <;> first
          | exact fun h => (mF_O.mpr h).elim
          | exact mk_O.mpr
          | exact (mck_O mk_O).mpr
          | exact (mif_O mk_O mk_O).mpr
          | exact (mck_O (mif_O mk_O mk_O)).mpr
          | exact (mif_O mk_O (mck_O mk_O)).mpr
          | exact (mif_O (mck_O mk_O) (mck_O mk_O)).mpr
          | exact (mif_O (mck_O mk_O) mF_O).mpr
          | exact (mck_O mF_O).mpr
          | (rename_i heq; rw [heq]; first
              | exact fun h => (mF_O.mpr h).elim
              | exact mk_O.mpr
              | exact (mck_O mk_O).mpr
              | exact (mif_O mk_O mk_O).mpr
              | exact (mck_O (mif_O mk_O mk_O)).mpr
              | exact (mif_O mk_O (mck_O mk_O)).mpr
              | exact (mif_O (mck_O mk_O) (mck_O mk_O)).mpr
              | exact (mif_O (mck_O mk_O) mF_O).mpr
              | exact (mck_O mF_O).mpr
              | (dsimp only; split <;> first
                | exact fun h => (mF_O.mpr h).elim
                | exact mk_O.mpr
                | exact (mck_O mk_O).mpr
                | exact (mif_O mk_O mk_O).mpr
                | exact (mck_O (mif_O mk_O mk_O)).mpr
                | exact (mif_O mk_O (mck_O mk_O)).mpr
                | exact (mif_O (mck_O mk_O) (mck_O mk_O)).mpr
                | exact (mif_O (mck_O mk_O) mF_O).mpr
                | exact (mck_O mF_O).mpr
                | (rename_i heq; rw [heq]; first
                    | exact fun h => (mF_O.mpr h).elim
                    | exact mk_O.mpr
                    | exact (mck_O mk_O).mpr
                    | exact (mif_O mk_O mk_O).mpr
                    | exact (mck_O (mif_O mk_O mk_O)).mpr
                    | exact (mif_O mk_O (mck_O mk_O)).mpr
                    | exact (mif_O (mck_O mk_O) (mck_O mk_O)).mpr
                    | exact (mif_O (mck_O mk_O) mF_O).mpr
                    | exact (mck_O mF_O).mpr
                    | (dsimp only; split <;> first
                      | exact fun h => (mF_O.mpr h).elim
                      | exact mk_O.mpr
                      | exact (mck_O mk_O).mpr
                      | exact (mif_O mk_O mk_O).mpr
                      | exact (mck_O (mif_O mk_O mk_O)).mpr
                      | exact (mif_O mk_O (mck_O mk_O)).mpr
                      | exact (mif_O (mck_O mk_O) (mck_O mk_O)).mpr
                      | exact (mif_O (mck_O mk_O) mF_O).mpr
                      | exact (mck_O mF_O).mpr
                      | (rename_i heq; rw [heq]; first
                          | exact fun h => (mF_O.mpr h).elim
                          | exact mk_O.mpr
                          | exact (mck_O mk_O).mpr
                          | exact (mif_O mk_O mk_O).mpr
                          | exact (mck_O (mif_O mk_O mk_O)).mpr
                          | exact (mif_O mk_O (mck_O mk_O)).mpr
                          | exact (mif_O (mck_O mk_O) (mck_O mk_O)).mpr
                          | exact (mif_O (mck_O mk_O) mF_O).mpr
                          | exact (mck_O mF_O).mpr
                        )
                      | (dsimp only; split <;> first
                          | exact fun h => (mF_O.mpr h).elim
                          | exact mk_O.mpr
                          | exact (mck_O mk_O).mpr
                          | exact (mif_O mk_O mk_O).mpr
                          | exact (mck_O (mif_O mk_O mk_O)).mpr
                          | exact (mif_O mk_O (mck_O mk_O)).mpr
                          | exact (mif_O (mck_O mk_O) (mck_O mk_O)).mpr
                          | exact (mif_O (mck_O mk_O) mF_O).mpr
                          | exact (mck_O mF_O).mpr
                        )
                      )
                  )
                | (dsimp only; split <;> first
                    | exact fun h => (mF_O.mpr h).elim
                    | exact mk_O.mpr
                    | exact (mck_O mk_O).mpr
                    | exact (mif_O mk_O mk_O).mpr
                    | exact (mck_O (mif_O mk_O mk_O)).mpr
                    | exact (mif_O mk_O (mck_O mk_O)).mpr
                    | exact (mif_O (mck_O mk_O) (mck_O mk_O)).mpr
                    | exact (mif_O (mck_O mk_O) mF_O).mpr
                    | exact (mck_O mF_O).mpr
                    | (rename_i heq; rw [heq]; first
                        | exact fun h => (mF_O.mpr h).elim
                        | exact mk_O.mpr
                        | exact (mck_O mk_O).mpr
                        | exact (mif_O mk_O mk_O).mpr
                        | exact (mck_O (mif_O mk_O mk_O)).mpr
                        | exact (mif_O mk_O (mck_O mk_O)).mpr
                        | exact (mif_O (mck_O mk_O) (mck_O mk_O)).mpr
                        | exact (mif_O (mck_O mk_O) mF_O).mpr
                        | exact (mck_O mF_O).mpr
                      )
                    | (dsimp only; split <;> first
                        | exact fun h => (mF_O.mpr h).elim
                        | exact mk_O.mpr
                        | exact (mck_O mk_O).mpr
                        | exact (mif_O mk_O mk_O).mpr
                        | exact (mck_O (mif_O mk_O mk_O)).mpr
                        | exact (mif_O mk_O (mck_O mk_O)).mpr
                        | exact (mif_O (mck_O mk_O) (mck_O mk_O)).mpr
                        | exact (mif_O (mck_O mk_O) mF_O).mpr
                        | exact (mck_O mF_O).mpr
                      )
                  )
                )
            )
          | (dsimp only; split <;> first
              | exact fun h => (mF_O.mpr h).elim
              | exact mk_O.mpr
              | exact (mck_O mk_O).mpr
              | exact (mif_O mk_O mk_O).mpr
              | exact (mck_O (mif_O mk_O mk_O)).mpr
              | exact (mif_O mk_O (mck_O mk_O)).mpr
              | exact (mif_O (mck_O mk_O) (mck_O mk_O)).mpr
              | exact (mif_O (mck_O mk_O) mF_O).mpr
              | exact (mck_O mF_O).mpr
              | (rename_i heq; rw [heq]; first
                  | exact fun h => (mF_O.mpr h).elim
                  | exact mk_O.mpr
                  | exact (mck_O mk_O).mpr
                  | exact (mif_O mk_O mk_O).mpr
                  | exact (mck_O (mif_O mk_O mk_O)).mpr
                  | exact (mif_O mk_O (mck_O mk_O)).mpr
                  | exact (mif_O (mck_O mk_O) (mck_O mk_O)).mpr
                  | exact (mif_O (mck_O mk_O) mF_O).mpr
                  | exact (mck_O mF_O).mpr
                  | (dsimp only; split <;> first
                    | exact fun h => (mF_O.mpr h).elim
                    | exact mk_O.mpr
                    | exact (mck_O mk_O).mpr
                    | exact (mif_O mk_O mk_O).mpr
                    | exact (mck_O (mif_O mk_O mk_O)).mpr
                    | exact (mif_O mk_O (mck_O mk_O)).mpr
                    | exact (mif_O (mck_O mk_O) (mck_O mk_O)).mpr
                    | exact (mif_O (mck_O mk_O) mF_O).mpr
                    | exact (mck_O mF_O).mpr
                    | (rename_i heq; rw [heq]; first
                        | exact fun h => (mF_O.mpr h).elim
                        | exact mk_O.mpr
                        | exact (mck_O mk_O).mpr
                        | exact (mif_O mk_O mk_O).mpr
                        | exact (mck_O (mif_O mk_O mk_O)).mpr
                        | exact (mif_O mk_O (mck_O mk_O)).mpr
                        | exact (mif_O (mck_O mk_O) (mck_O mk_O)).mpr
                        | exact (mif_O (mck_O mk_O) mF_O).mpr
                        | exact (mck_O mF_O).mpr
                      )
                    | (dsimp only; split <;> first
                        | exact fun h => (mF_O.mpr h).elim
                        | exact mk_O.mpr
                        | exact (mck_O mk_O).mpr
                        | exact (mif_O mk_O mk_O).mpr
                        | exact (mck_O (mif_O mk_O mk_O)).mpr
                        | exact (mif_O mk_O (mck_O mk_O)).mpr
                        | exact (mif_O (mck_O mk_O) (mck_O mk_O)).mpr
                        | exact (mif_O (mck_O mk_O) mF_O).mpr
                        | exact (mck_O mF_O).mpr
                      )
                    )
                )
              | (dsimp only; split <;> first
                  | exact fun h => (mF_O.mpr h).elim
                  | exact mk_O.mpr
                  | exact (mck_O mk_O).mpr
                  | exact (mif_O mk_O mk_O).mpr
                  | exact (mck_O (mif_O mk_O mk_O)).mpr
                  | exact (mif_O mk_O (mck_O mk_O)).mpr
                  | exact (mif_O (mck_O mk_O) (mck_O mk_O)).mpr
                  | exact (mif_O (mck_O mk_O) mF_O).mpr
                  | exact (mck_O mF_O).mpr
                  | (rename_i heq; rw [heq]; first
                      | exact fun h => (mF_O.mpr h).elim
                      | exact mk_O.mpr
                      | exact (mck_O mk_O).mpr
                      | exact (mif_O mk_O mk_O).mpr
                      | exact (mck_O (mif_O mk_O mk_O)).mpr
                      | exact (mif_O mk_O (mck_O mk_O)).mpr
                      | exact (mif_O (mck_O mk_O) (mck_O mk_O)).mpr
                      | exact (mif_O (mck_O mk_O) mF_O).mpr
                      | exact (mck_O mF_O).mpr
                    )
                  | (dsimp only; split <;> first
                      | exact fun h => (mF_O.mpr h).elim
                      | exact mk_O.mpr
                      | exact (mck_O mk_O).mpr
                      | exact (mif_O mk_O mk_O).mpr
                      | exact (mck_O (mif_O mk_O mk_O)).mpr
                      | exact (mif_O mk_O (mck_O mk_O)).mpr
                      | exact (mif_O (mck_O mk_O) (mck_O mk_O)).mpr
                      | exact (mif_O (mck_O mk_O) mF_O).mpr
                      | exact (mck_O mF_O).mpr
                    )
                )
            )
          )
      )
    | (dsimp only; split <;> first
        | exact fun h => (mF_O.mpr h).elim
        | exact mk_O.mpr
        | exact (mck_O mk_O).mpr
        | exact (mif_O mk_O mk_O).mpr
        | exact (mck_O (mif_O mk_O mk_O)).mpr
        | exact (mif_O mk_O (mck_O mk_O)).mpr
        | exact (mif_O (mck_O mk_O) (mck_O mk_O)).mpr
        | exact (mif_O (mck_O mk_O) mF_O).mpr
        | exact (mck_O mF_O).mpr
        | (rename_i heq; rw [heq]; first
            | exact fun h => (mF_O.mpr h).elim
            | exact mk_O.mpr
            | exact (mck_O mk_O).mpr
            | exact (mif_O mk_O mk_O).mpr
            | exact (mck_O (mif_O mk_O mk_O)).mpr
            | exact (mif_O mk_O (mck_O mk_O)).mpr
            | exact (mif_O (mck_O mk_O) (mck_O mk_O)).mpr
            | exact (mif_O (mck_O mk_O) mF_O).mpr
            | exact (mck_O mF_O).mpr
            | (dsimp only; split <;> first
              | exact fun h => (mF_O.mpr h).elim
              | exact mk_O.mpr
              | exact (mck_O mk_O).mpr
              | exact (mif_O mk_O mk_O).mpr
              | exact (mck_O (mif_O mk_O mk_O)).mpr
              | exact (mif_O mk_O (mck_O mk_O)).mpr
              | exact (mif_O (mck_O mk_O) (mck_O mk_O)).mpr
              | exact (mif_O (mck_O mk_O) mF_O).mpr
              | exact (mck_O mF_O).mpr
              | (rename_i heq; rw [heq]; first
                  | exact fun h => (mF_O.mpr h).elim
                  | exact mk_O.mpr
                  | exact (mck_O mk_O).mpr
                  | exact (mif_O mk_O mk_O).mpr
                  | exact (mck_O (mif_O mk_O mk_O)).mpr
                  | exact (mif_O mk_O (mck_O mk_O)).mpr
                  | exact (mif_O (mck_O mk_O) (mck_O mk_O)).mpr
                  | exact (mif_O (mck_O mk_O) mF_O).mpr
                  | exact (mck_O mF_O).mpr
                  | (dsimp only; split <;> first
                    | exact fun h => (mF_O.mpr h).elim
                    | exact mk_O.mpr
                    | exact (mck_O mk_O).mpr
                    | exact (mif_O mk_O mk_O).mpr
                    | exact (mck_O (mif_O mk_O mk_O)).mpr
                    | exact (mif_O mk_O (mck_O mk_O)).mpr
                    | exact (mif_O (mck_O mk_O) (mck_O mk_O)).mpr
                    | exact (mif_O (mck_O mk_O) mF_O).mpr
                    | exact (mck_O mF_O).mpr
                    | (rename_i heq; rw [heq]; first
                        | exact fun h => (mF_O.mpr h).elim
                        | exact mk_O.mpr
                        | exact (mck_O mk_O).mpr
                        | exact (mif_O mk_O mk_O).mpr
                        | exact (mck_O (mif_O mk_O mk_O)).mpr
                        | exact (mif_O mk_O (mck_O mk_O)).mpr
                        | exact (mif_O (mck_O mk_O) (mck_O mk_O)).mpr
                        | exact (mif_O (mck_O mk_O) mF_O).mpr
                        | exact (mck_O mF_O).mpr
                      )
                    | (dsimp only; split <;> first
                        | exact fun h => (mF_O.mpr h).elim
                        | exact mk_O.mpr
                        | exact (mck_O mk_O).mpr
                        | exact (mif_O mk_O mk_O).mpr
                        | exact (mck_O (mif_O mk_O mk_O)).mpr
                        | exact (mif_O mk_O (mck_O mk_O)).mpr
                        | exact (mif_O (mck_O mk_O) (mck_O mk_O)).mpr
                        | exact (mif_O (mck_O mk_O) mF_O).mpr
                        | exact (mck_O mF_O).mpr
                      )
                    )
                )
              | (dsimp only; split <;> first
                  | exact fun h => (mF_O.mpr h).elim
                  | exact mk_O.mpr
                  | exact (mck_O mk_O).mpr
                  | exact (mif_O mk_O mk_O).mpr
                  | exact (mck_O (mif_O mk_O mk_O)).mpr
                  | exact (mif_O mk_O (mck_O mk_O)).mpr
                  | exact (mif_O (mck_O mk_O) (mck_O mk_O)).mpr
                  | exact (mif_O (mck_O mk_O) mF_O).mpr
                  | exact (mck_O mF_O).mpr
                  | (rename_i heq; rw [heq]; first
                      | exact fun h => (mF_O.mpr h).elim
                      | exact mk_O.mpr
                      | exact (mck_O mk_O).mpr
                      | exact (mif_O mk_O mk_O).mpr
                      | exact (mck_O (mif_O mk_O mk_O)).mpr
                      | exact (mif_O mk_O (mck_O mk_O)).mpr
                      | exact (mif_O (mck_O mk_O) (mck_O mk_O)).mpr
                      | exact (mif_O (mck_O mk_O) mF_O).mpr
                      | exact (mck_O mF_O).mpr
                    )
                  | (dsimp only; split <;> first
                      | exact fun h => (mF_O.mpr h).elim
                      | exact mk_O.mpr
                      | exact (mck_O mk_O).mpr
                      | exact (mif_O mk_O mk_O).mpr
                      | exact (mck_O (mif_O mk_O mk_O)).mpr
                      | exact (mif_O mk_O (mck_O mk_O)).mpr
                      | exact (mif_O (mck_O mk_O) (mck_O mk_O)).mpr
                      | exact (mif_O (mck_O mk_O) mF_O).mpr
                      | exact (mck_O mF_O).mpr
                    )
                )
              )
          )
        | (dsimp only; split <;> first
            | exact fun h => (mF_O.mpr h).elim
            | exact mk_O.mpr
            | exact (mck_O mk_O).mpr
            | exact (mif_O mk_O mk_O).mpr
            | exact (mck_O (mif_O mk_O mk_O)).mpr
            | exact (mif_O mk_O (mck_O mk_O)).mpr
            | exact (mif_O (mck_O mk_O) (mck_O mk_O)).mpr
            | exact (mif_O (mck_O mk_O) mF_O).mpr
            | exact (mck_O mF_O).mpr
            | (rename_i heq; rw [heq]; first
                | exact fun h => (mF_O.mpr h).elim
                | exact mk_O.mpr
                | exact (mck_O mk_O).mpr
                | exact (mif_O mk_O mk_O).mpr
                | exact (mck_O (mif_O mk_O mk_O)).mpr
                | exact (mif_O mk_O (mck_O mk_O)).mpr
                | exact (mif_O (mck_O mk_O) (mck_O mk_O)).mpr
                | exact (mif_O (mck_O mk_O) mF_O).mpr
                | exact (mck_O mF_O).mpr
                | (dsimp only; split <;> first
                  | exact fun h => (mF_O.mpr h).elim
                  | exact mk_O.mpr
                  | exact (mck_O mk_O).mpr
                  | exact (mif_O mk_O mk_O).mpr
                  | exact (mck_O (mif_O mk_O mk_O)).mpr
                  | exact (mif_O mk_O (mck_O mk_O)).mpr
                  | exact (mif_O (mck_O mk_O) (mck_O mk_O)).mpr
                  | exact (mif_O (mck_O mk_O) mF_O).mpr
                  | exact (mck_O mF_O).mpr
                  | (rename_i heq; rw [heq]; first
                      | exact fun h => (mF_O.mpr h).elim
                      | exact mk_O.mpr
                      | exact (mck_O mk_O).mpr
                      | exact (mif_O mk_O mk_O).mpr
                      | exact (mck_O (mif_O mk_O mk_O)).mpr
                      | exact (mif_O mk_O (mck_O mk_O)).mpr
                      | exact (mif_O (mck_O mk_O) (mck_O mk_O)).mpr
                      | exact (mif_O (mck_O mk_O) mF_O).mpr
                      | exact (mck_O mF_O).mpr
                    )
                  | (dsimp only; split <;> first
                      | exact fun h => (mF_O.mpr h).elim
                      | exact mk_O.mpr
                      | exact (mck_O mk_O).mpr
                      | exact (mif_O mk_O mk_O).mpr
                      | exact (mck_O (mif_O mk_O mk_O)).mpr
                      | exact (mif_O mk_O (mck_O mk_O)).mpr
                      | exact (mif_O (mck_O mk_O) (mck_O mk_O)).mpr
                      | exact (mif_O (mck_O mk_O) mF_O).mpr
                      | exact (mck_O mF_O).mpr
                    )
                  )
              )
            | (dsimp only; split <;> first
                | exact fun h => (mF_O.mpr h).elim
                | exact mk_O.mpr
                | exact (mck_O mk_O).mpr
                | exact (mif_O mk_O mk_O).mpr
                | exact (mck_O (mif_O mk_O mk_O)).mpr
                | exact (mif_O mk_O (mck_O mk_O)).mpr
                | exact (mif_O (mck_O mk_O) (mck_O mk_O)).mpr
                | exact (mif_O (mck_O mk_O) mF_O).mpr
                | exact (mck_O mF_O).mpr
                | (rename_i heq; rw [heq]; first
                    | exact fun h => (mF_O.mpr h).elim
                    | exact mk_O.mpr
                    | exact (mck_O mk_O).mpr
                    | exact (mif_O mk_O mk_O).mpr
                    | exact (mck_O (mif_O mk_O mk_O)).mpr
                    | exact (mif_O mk_O (mck_O mk_O)).mpr
                    | exact (mif_O (mck_O mk_O) (mck_O mk_O)).mpr
                    | exact (mif_O (mck_O mk_O) mF_O).mpr
                    | exact (mck_O mF_O).mpr
                  )
                | (dsimp only; split <;> first
                    | exact fun h => (mF_O.mpr h).elim
                    | exact mk_O.mpr
                    | exact (mck_O mk_O).mpr
                    | exact (mif_O mk_O mk_O).mpr
                    | exact (mck_O (mif_O mk_O mk_O)).mpr
                    | exact (mif_O mk_O (mck_O mk_O)).mpr
                    | exact (mif_O (mck_O mk_O) (mck_O mk_O)).mpr
                    | exact (mif_O (mck_O mk_O) mF_O).mpr
                    | exact (mck_O mF_O).mpr
                  )
              )
          )
      )
    | skip
  all_goals done
set_option maxRecDepth 100000 in
set_option maxHeartbeats 8000000 in
theorem mxC_to {own m pc : Nat} {ins : Instr} {lo : mLo} {st : mSt} {h : mH} {k : mS → Prop} : mImp (mxC own m pc ins lo st h k) (∃ x, mxCF own m pc ins lo st h = some x ∧ k x) := by
  unfold mxC mxCF
  split
  all_goals first
    | exact fun h => h.elim
    | exact mk_O.mp
    | exact (mck_O mk_O).mp
    | (rename_i heq; rw [heq]; first
        | exact fun h => h.elim
        | exact mk_O.mp
        | exact (mck_O mk_O).mp
        | (dsimp only; split <;> first
          | exact fun h => h.elim
          | exact mk_O.mp
          | exact (mck_O mk_O).mp
          | (rename_i heq; rw [heq]; first
              | exact fun h => h.elim
              | exact mk_O.mp
              | exact (mck_O mk_O).mp
              | (dsimp only; split <;> first
                | exact fun h => h.elim
                | exact mk_O.mp
                | exact (mck_O mk_O).mp
                | (rename_i heq; rw [heq]; first
                    | exact fun h => h.elim
                    | exact mk_O.mp
                    | exact (mck_O mk_O).mp
                    | (dsimp only; split <;> first
                      | exact fun h => h.elim
                      | exact mk_O.mp
                      | exact (mck_O mk_O).mp
                      | (rename_i heq; rw [heq]; first
                          | exact fun h => h.elim
                          | exact mk_O.mp
                          | exact (mck_O mk_O).mp
                          | (dsimp only; split <;> first
                            | exact fun h => h.elim
                            | exact mk_O.mp
                            | exact (mck_O mk_O).mp
                            | (rename_i heq; rw [heq]; first
                                | exact fun h => h.elim
                                | exact mk_O.mp
                                | exact (mck_O mk_O).mp
                                | (dsimp only; split <;> first
                                  | exact fun h => h.elim
                                  | exact mk_O.mp
                                  | exact (mck_O mk_O).mp
                                  | (rename_i heq; rw [heq]; first
                                      | exact fun h => h.elim
                                      | exact mk_O.mp
                                      | exact (mck_O mk_O).mp
                                      | (dsimp only; split <;> first
                                        | exact fun h => h.elim
                                        | exact mk_O.mp
                                        | exact (mck_O mk_O).mp
                                        )
                                    )
                                  | (dsimp only; split <;> first
                                      | exact fun h => h.elim
                                      | exact mk_O.mp
                                      | exact (mck_O mk_O).mp
                                    )
                                  )
                              )
                            | (dsimp only; split <;> first
                                | exact fun h => h.elim
                                | exact mk_O.mp
                                | exact (mck_O mk_O).mp
                                | (rename_i heq; rw [heq]; first
                                    | exact fun h => h.elim
                                    | exact mk_O.mp
                                    | exact (mck_O mk_O).mp
                                    | (dsimp only; split <;> first
                                      | exact fun h => h.elim
                                      | exact mk_O.mp
                                      | exact (mck_O mk_O).mp
                                      )
                                  )
                                | (dsimp only; split <;> first
                                    | exact fun h => h.elim
                                    | exact mk_O.mp
                                    | exact (mck_O mk_O).mp
                                  )
                              )
                            )
                        )
                      | (dsimp only; split <;> first
                          | exact fun h => h.elim
                          | exact mk_O.mp
                          | exact (mck_O mk_O).mp
                          | (rename_i heq; rw [heq]; first
                              | exact fun h => h.elim
                              | exact mk_O.mp
                              | exact (mck_O mk_O).mp
                              | (dsimp only; split <;> first
                                | exact fun h => h.elim
                                | exact mk_O.mp
                                | exact (mck_O mk_O).mp
                                | (rename_i heq; rw [heq]; first
                                    | exact fun h => h.elim
                                    | exact mk_O.mp
                                    | exact (mck_O mk_O).mp
                                    | (dsimp only; split <;> first
                                      | exact fun h => h.elim
                                      | exact mk_O.mp
                                      | exact (mck_O mk_O).mp
                                      )
                                  )
                                | (dsimp only; split <;> first
                                    | exact fun h => h.elim
                                    | exact mk_O.mp
                                    | exact (mck_O mk_O).mp
                                  )
                                )
                            )
                          | (dsimp only; split <;> first
                              | exact fun h => h.elim
                              | exact mk_O.mp
                              | exact (mck_O mk_O).mp
                              | (rename_i heq; rw [heq]; first
                                  | exact fun h => h.elim
                                  | exact mk_O.mp
                                  | exact (mck_O mk_O).mp
                                  | (dsimp only; split <;> first
                                    | exact fun h => h.elim
                                    | exact mk_O.mp
                                    | exact (mck_O mk_O).mp
                                    )
                                )
                              | (dsimp only; split <;> first
                                  | exact fun h => h.elim
                                  | exact mk_O.mp
                                  | exact (mck_O mk_O).mp
                                )
                            )
                        )
                      )
                  )
                | (dsimp only; split <;> first
                    | exact fun h => h.elim
                    | exact mk_O.mp
                    | exact (mck_O mk_O).mp
                    | (rename_i heq; rw [heq]; first
                        | exact fun h => h.elim
                        | exact mk_O.mp
                        | exact (mck_O mk_O).mp
                        | (dsimp only; split <;> first
                          | exact fun h => h.elim
                          | exact mk_O.mp
                          | exact (mck_O mk_O).mp
                          | (rename_i heq; rw [heq]; first
                              | exact fun h => h.elim
                              | exact mk_O.mp
                              | exact (mck_O mk_O).mp
                              | (dsimp only; split <;> first
                                | exact fun h => h.elim
                                | exact mk_O.mp
                                | exact (mck_O mk_O).mp
                                | (rename_i heq; rw [heq]; first
                                    | exact fun h => h.elim
                                    | exact mk_O.mp
                                    | exact (mck_O mk_O).mp
                                    | (dsimp only; split <;> first
                                      | exact fun h => h.elim
                                      | exact mk_O.mp
                                      | exact (mck_O mk_O).mp
                                      )
                                  )
                                | (dsimp only; split <;> first
                                    | exact fun h => h.elim
                                    | exact mk_O.mp
                                    | exact (mck_O mk_O).mp
                                  )
                                )
                            )
                          | (dsimp only; split <;> first
                              | exact fun h => h.elim
                              | exact mk_O.mp
                              | exact (mck_O mk_O).mp
                              | (rename_i heq; rw [heq]; first
                                  | exact fun h => h.elim
                                  | exact mk_O.mp
                                  | exact (mck_O mk_O).mp
                                  | (dsimp only; split <;> first
                                    | exact fun h => h.elim
                                    | exact mk_O.mp
                                    | exact (mck_O mk_O).mp
                                    )
                                )
                              | (dsimp only; split <;> first
                                  | exact fun h => h.elim
                                  | exact mk_O.mp
                                  | exact (mck_O mk_O).mp
                                )
                            )
                          )
                      )
                    | (dsimp only; split <;> first
                        | exact fun h => h.elim
                        | exact mk_O.mp
                        | exact (mck_O mk_O).mp
                        | (rename_i heq; rw [heq]; first
                            | exact fun h => h.elim
                            | exact mk_O.mp
                            | exact (mck_O mk_O).mp
                            | (dsimp only; split <;> first
                              | exact fun h => h.elim
                              | exact mk_O.mp
                              | exact (mck_O mk_O).mp
                              | (rename_i heq; rw [heq]; first
                                  | exact fun h => h.elim
                                  | exact mk_O.mp
                                  | exact (mck_O mk_O).mp
                                  | (dsimp only; split <;> first
                                    | exact fun h => h.elim
                                    | exact mk_O.mp
                                    | exact (mck_O mk_O).mp
                                    )
                                )
                              | (dsimp only; split <;> first
                                  | exact fun h => h.elim
                                  | exact mk_O.mp
                                  | exact (mck_O mk_O).mp
                                )
                              )
                          )
                        | (dsimp only; split <;> first
                            | exact fun h => h.elim
                            | exact mk_O.mp
                            | exact (mck_O mk_O).mp
                            | (rename_i heq; rw [heq]; first
                                | exact fun h => h.elim
                                | exact mk_O.mp
                                | exact (mck_O mk_O).mp
                                | (dsimp only; split <;> first
                                  | exact fun h => h.elim
                                  | exact mk_O.mp
                                  | exact (mck_O mk_O).mp
                                  )
                              )
                            | (dsimp only; split <;> first
                                | exact fun h => h.elim
                                | exact mk_O.mp
                                | exact (mck_O mk_O).mp
                              )
                          )
                      )
                  )
                )
            )
          | (dsimp only; split <;> first
              | exact fun h => h.elim
              | exact mk_O.mp
              | exact (mck_O mk_O).mp
              | (rename_i heq; rw [heq]; first
                  | exact fun h => h.elim
                  | exact mk_O.mp
                  | exact (mck_O mk_O).mp
                  | (dsimp only; split <;> first
                    | exact fun h => h.elim
                    | exact mk_O.mp
                    | exact (mck_O mk_O).mp
                    | (rename_i heq; rw [heq]; first
                        | exact fun h => h.elim
                        | exact mk_O.mp
                        | exact (mck_O mk_O).mp
                        | (dsimp only; split <;> first
                          | exact fun h => h.elim
                          | exact mk_O.mp
                          | exact (mck_O mk_O).mp
                          | (rename_i heq; rw [heq]; first
                              | exact fun h => h.elim
                              | exact mk_O.mp
                              | exact (mck_O mk_O).mp
                              | (dsimp only; split <;> first
                                | exact fun h => h.elim
                                | exact mk_O.mp
                                | exact (mck_O mk_O).mp
                                | (rename_i heq; rw [heq]; first
                                    | exact fun h => h.elim
                                    | exact mk_O.mp
                                    | exact (mck_O mk_O).mp
                                    | (dsimp only; split <;> first
                                      | exact fun h => h.elim
                                      | exact mk_O.mp
                                      | exact (mck_O mk_O).mp
                                      )
                                  )
                                | (dsimp only; split <;> first
                                    | exact fun h => h.elim
                                    | exact mk_O.mp
                                    | exact (mck_O mk_O).mp
                                  )
                                )
                            )
                          | (dsimp only; split <;> first
                              | exact fun h => h.elim
                              | exact mk_O.mp
                              | exact (mck_O mk_O).mp
                              | (rename_i heq; rw [heq]; first
                                  | exact fun h => h.elim
                                  | exact mk_O.mp
                                  | exact (mck_O mk_O).mp
                                  | (dsimp only; split <;> first
                                    | exact fun h => h.elim
                                    | exact mk_O.mp
                                    | exact (mck_O mk_O).mp
                                    )
                                )
                              | (dsimp only; split <;> first
                                  | exact fun h => h.elim
                                  | exact mk_O.mp
                                  | exact (mck_O mk_O).mp
                                )
                            )
                          )
                      )
                    | (dsimp only; split <;> first
                        | exact fun h => h.elim
                        | exact mk_O.mp
                        | exact (mck_O mk_O).mp
                        | (rename_i heq; rw [heq]; first
                            | exact fun h => h.elim
                            | exact mk_O.mp
                            | exact (mck_O mk_O).mp
                            | (dsimp only; split <;> first
                              | exact fun h => h.elim
                              | exact mk_O.mp
                              | exact (mck_O mk_O).mp
                              | (rename_i heq; rw [heq]; first
                                  | exact fun h => h.elim
                                  | exact mk_O.mp
                                  | exact (mck_O mk_O).mp
                                  | (dsimp only; split <;> first
                                    | exact fun h => h.elim
                                    | exact mk_O.mp
                                    | exact (mck_O mk_O).mp
                                    )
                                )
                              | (dsimp only; split <;> first
                                  | exact fun h => h.elim
                                  | exact mk_O.mp
                                  | exact (mck_O mk_O).mp
                                )
                              )
                          )
                        | (dsimp only; split <;> first
                            | exact fun h => h.elim
                            | exact mk_O.mp
                            | exact (mck_O mk_O).mp
                            | (rename_i heq; rw [heq]; first
                                | exact fun h => h.elim
                                | exact mk_O.mp
                                | exact (mck_O mk_O).mp
                                | (dsimp only; split <;> first
                                  | exact fun h => h.elim
                                  | exact mk_O.mp
                                  | exact (mck_O mk_O).mp
                                  )
                              )
                            | (dsimp only; split <;> first
                                | exact fun h => h.elim
                                | exact mk_O.mp
                                | exact (mck_O mk_O).mp
                              )
                          )
                      )
                    )
                )
              | (dsimp only; split <;> first
                  | exact fun h => h.elim
                  | exact mk_O.mp
                  | exact (mck_O mk_O).mp
                  | (rename_i heq; rw [heq]; first
                      | exact fun h => h.elim
                      | exact mk_O.mp
                      | exact (mck_O mk_O).mp
                      | (dsimp only; split <;> first
                        | exact fun h => h.elim
                        | exact mk_O.mp
                        | exact (mck_O mk_O).mp
                        | (rename_i heq; rw [heq]; first
                            | exact fun h => h.elim
                            | exact mk_O.mp
                            | exact (mck_O mk_O).mp
                            | (dsimp only; split <;> first
                              | exact fun h => h.elim
                              | exact mk_O.mp
                              | exact (mck_O mk_O).mp
                              | (rename_i heq; rw [heq]; first
                                  | exact fun h => h.elim
                                  | exact mk_O.mp
                                  | exact (mck_O mk_O).mp
                                  | (dsimp only; split <;> first
                                    | exact fun h => h.elim
                                    | exact mk_O.mp
                                    | exact (mck_O mk_O).mp
                                    )
                                )
                              | (dsimp only; split <;> first
                                  | exact fun h => h.elim
                                  | exact mk_O.mp
                                  | exact (mck_O mk_O).mp
                                )
                              )
                          )
                        | (dsimp only; split <;> first
                            | exact fun h => h.elim
                            | exact mk_O.mp
                            | exact (mck_O mk_O).mp
                            | (rename_i heq; rw [heq]; first
                                | exact fun h => h.elim
                                | exact mk_O.mp
                                | exact (mck_O mk_O).mp
                                | (dsimp only; split <;> first
                                  | exact fun h => h.elim
                                  | exact mk_O.mp
                                  | exact (mck_O mk_O).mp
                                  )
                              )
                            | (dsimp only; split <;> first
                                | exact fun h => h.elim
                                | exact mk_O.mp
                                | exact (mck_O mk_O).mp
                              )
                          )
                        )
                    )
                  | (dsimp only; split <;> first
                      | exact fun h => h.elim
                      | exact mk_O.mp
                      | exact (mck_O mk_O).mp
                      | (rename_i heq; rw [heq]; first
                          | exact fun h => h.elim
                          | exact mk_O.mp
                          | exact (mck_O mk_O).mp
                          | (dsimp only; split <;> first
                            | exact fun h => h.elim
                            | exact mk_O.mp
                            | exact (mck_O mk_O).mp
                            | (rename_i heq; rw [heq]; first
                                | exact fun h => h.elim
                                | exact mk_O.mp
                                | exact (mck_O mk_O).mp
                                | (dsimp only; split <;> first
                                  | exact fun h => h.elim
                                  | exact mk_O.mp
                                  | exact (mck_O mk_O).mp
                                  )
                              )
                            | (dsimp only; split <;> first
                                | exact fun h => h.elim
                                | exact mk_O.mp
                                | exact (mck_O mk_O).mp
                              )
                            )
                        )
                      | (dsimp only; split <;> first
                          | exact fun h => h.elim
                          | exact mk_O.mp
                          | exact (mck_O mk_O).mp
                          | (rename_i heq; rw [heq]; first
                              | exact fun h => h.elim
                              | exact mk_O.mp
                              | exact (mck_O mk_O).mp
                              | (dsimp only; split <;> first
                                | exact fun h => h.elim
                                | exact mk_O.mp
                                | exact (mck_O mk_O).mp
                                )
                            )
                          | (dsimp only; split <;> first
                              | exact fun h => h.elim
                              | exact mk_O.mp
                              | exact (mck_O mk_O).mp
                            )
                        )
                    )
                )
            )
          )
      )
    | (dsimp only; split <;> first
        | exact fun h => h.elim
        | exact mk_O.mp
        | exact (mck_O mk_O).mp
        | (rename_i heq; rw [heq]; first
            | exact fun h => h.elim
            | exact mk_O.mp
            | exact (mck_O mk_O).mp
            | (dsimp only; split <;> first
              | exact fun h => h.elim
              | exact mk_O.mp
              | exact (mck_O mk_O).mp
              | (rename_i heq; rw [heq]; first
                  | exact fun h => h.elim
                  | exact mk_O.mp
                  | exact (mck_O mk_O).mp
                  | (dsimp only; split <;> first
                    | exact fun h => h.elim
                    | exact mk_O.mp
                    | exact (mck_O mk_O).mp
                    | (rename_i heq; rw [heq]; first
                        | exact fun h => h.elim
                        | exact mk_O.mp
                        | exact (mck_O mk_O).mp
                        | (dsimp only; split <;> first
                          | exact fun h => h.elim
                          | exact mk_O.mp
                          | exact (mck_O mk_O).mp
                          | (rename_i heq; rw [heq]; first
                              | exact fun h => h.elim
                              | exact mk_O.mp
                              | exact (mck_O mk_O).mp
                              | (dsimp only; split <;> first
                                | exact fun h => h.elim
                                | exact mk_O.mp
                                | exact (mck_O mk_O).mp
                                | (rename_i heq; rw [heq]; first
                                    | exact fun h => h.elim
                                    | exact mk_O.mp
                                    | exact (mck_O mk_O).mp
                                    | (dsimp only; split <;> first
                                      | exact fun h => h.elim
                                      | exact mk_O.mp
                                      | exact (mck_O mk_O).mp
                                      )
                                  )
                                | (dsimp only; split <;> first
                                    | exact fun h => h.elim
                                    | exact mk_O.mp
                                    | exact (mck_O mk_O).mp
                                  )
                                )
                            )
                          | (dsimp only; split <;> first
                              | exact fun h => h.elim
                              | exact mk_O.mp
                              | exact (mck_O mk_O).mp
                              | (rename_i heq; rw [heq]; first
                                  | exact fun h => h.elim
                                  | exact mk_O.mp
                                  | exact (mck_O mk_O).mp
                                  | (dsimp only; split <;> first
                                    | exact fun h => h.elim
                                    | exact mk_O.mp
                                    | exact (mck_O mk_O).mp
                                    )
                                )
                              | (dsimp only; split <;> first
                                  | exact fun h => h.elim
                                  | exact mk_O.mp
                                  | exact (mck_O mk_O).mp
                                )
                            )
                          )
                      )
                    | (dsimp only; split <;> first
                        | exact fun h => h.elim
                        | exact mk_O.mp
                        | exact (mck_O mk_O).mp
                        | (rename_i heq; rw [heq]; first
                            | exact fun h => h.elim
                            | exact mk_O.mp
                            | exact (mck_O mk_O).mp
                            | (dsimp only; split <;> first
                              | exact fun h => h.elim
                              | exact mk_O.mp
                              | exact (mck_O mk_O).mp
                              | (rename_i heq; rw [heq]; first
                                  | exact fun h => h.elim
                                  | exact mk_O.mp
                                  | exact (mck_O mk_O).mp
                                  | (dsimp only; split <;> first
                                    | exact fun h => h.elim
                                    | exact mk_O.mp
                                    | exact (mck_O mk_O).mp
                                    )
                                )
                              | (dsimp only; split <;> first
                                  | exact fun h => h.elim
                                  | exact mk_O.mp
                                  | exact (mck_O mk_O).mp
                                )
                              )
                          )
                        | (dsimp only; split <;> first
                            | exact fun h => h.elim
                            | exact mk_O.mp
                            | exact (mck_O mk_O).mp
                            | (rename_i heq; rw [heq]; first
                                | exact fun h => h.elim
                                | exact mk_O.mp
                                | exact (mck_O mk_O).mp
                                | (dsimp only; split <;> first
                                  | exact fun h => h.elim
                                  | exact mk_O.mp
                                  | exact (mck_O mk_O).mp
                                  )
                              )
                            | (dsimp only; split <;> first
                                | exact fun h => h.elim
                                | exact mk_O.mp
                                | exact (mck_O mk_O).mp
                              )
                          )
                      )
                    )
                )
              | (dsimp only; split <;> first
                  | exact fun h => h.elim
                  | exact mk_O.mp
                  | exact (mck_O mk_O).mp
                  | (rename_i heq; rw [heq]; first
                      | exact fun h => h.elim
                      | exact mk_O.mp
                      | exact (mck_O mk_O).mp
                      | (dsimp only; split <;> first
                        | exact fun h => h.elim
                        | exact mk_O.mp
                        | exact (mck_O mk_O).mp
                        | (rename_i heq; rw [heq]; first
                            | exact fun h => h.elim
                            | exact mk_O.mp
                            | exact (mck_O mk_O).mp
                            | (dsimp only; split <;> first
                              | exact fun h => h.elim
                              | exact mk_O.mp
                              | exact (mck_O mk_O).mp
                              | (rename_i heq; rw [heq]; first
                                  | exact fun h => h.elim
                                  | exact mk_O.mp
                                  | exact (mck_O mk_O).mp
                                  | (dsimp only; split <;> first
                                    | exact fun h => h.elim
                                    | exact mk_O.mp
                                    | exact (mck_O mk_O).mp
                                    )
                                )
                              | (dsimp only; split <;> first
                                  | exact fun h => h.elim
                                  | exact mk_O.mp
                                  | exact (mck_O mk_O).mp
                                )
                              )
                          )
                        | (dsimp only; split <;> first
                            | exact fun h => h.elim
                            | exact mk_O.mp
                            | exact (mck_O mk_O).mp
                            | (rename_i heq; rw [heq]; first
                                | exact fun h => h.elim
                                | exact mk_O.mp
                                | exact (mck_O mk_O).mp
                                | (dsimp only; split <;> first
                                  | exact fun h => h.elim
                                  | exact mk_O.mp
                                  | exact (mck_O mk_O).mp
                                  )
                              )
                            | (dsimp only; split <;> first
                                | exact fun h => h.elim
                                | exact mk_O.mp
                                | exact (mck_O mk_O).mp
                              )
                          )
                        )
                    )
                  | (dsimp only; split <;> first
                      | exact fun h => h.elim
                      | exact mk_O.mp
                      | exact (mck_O mk_O).mp
                      | (rename_i heq; rw [heq]; first
                          | exact fun h => h.elim
                          | exact mk_O.mp
                          | exact (mck_O mk_O).mp
                          | (dsimp only; split <;> first
                            | exact fun h => h.elim
                            | exact mk_O.mp
                            | exact (mck_O mk_O).mp
                            | (rename_i heq; rw [heq]; first
                                | exact fun h => h.elim
                                | exact mk_O.mp
                                | exact (mck_O mk_O).mp
                                | (dsimp only; split <;> first
                                  | exact fun h => h.elim
                                  | exact mk_O.mp
                                  | exact (mck_O mk_O).mp
                                  )
                              )
                            | (dsimp only; split <;> first
                                | exact fun h => h.elim
                                | exact mk_O.mp
                                | exact (mck_O mk_O).mp
                              )
                            )
                        )
                      | (dsimp only; split <;> first
                          | exact fun h => h.elim
                          | exact mk_O.mp
                          | exact (mck_O mk_O).mp
                          | (rename_i heq; rw [heq]; first
                              | exact fun h => h.elim
                              | exact mk_O.mp
                              | exact (mck_O mk_O).mp
                              | (dsimp only; split <;> first
                                | exact fun h => h.elim
                                | exact mk_O.mp
                                | exact (mck_O mk_O).mp
                                )
                            )
                          | (dsimp only; split <;> first
                              | exact fun h => h.elim
                              | exact mk_O.mp
                              | exact (mck_O mk_O).mp
                            )
                        )
                    )
                )
              )
          )
        | (dsimp only; split <;> first
            | exact fun h => h.elim
            | exact mk_O.mp
            | exact (mck_O mk_O).mp
            | (rename_i heq; rw [heq]; first
                | exact fun h => h.elim
                | exact mk_O.mp
                | exact (mck_O mk_O).mp
                | (dsimp only; split <;> first
                  | exact fun h => h.elim
                  | exact mk_O.mp
                  | exact (mck_O mk_O).mp
                  | (rename_i heq; rw [heq]; first
                      | exact fun h => h.elim
                      | exact mk_O.mp
                      | exact (mck_O mk_O).mp
                      | (dsimp only; split <;> first
                        | exact fun h => h.elim
                        | exact mk_O.mp
                        | exact (mck_O mk_O).mp
                        | (rename_i heq; rw [heq]; first
                            | exact fun h => h.elim
                            | exact mk_O.mp
                            | exact (mck_O mk_O).mp
                            | (dsimp only; split <;> first
                              | exact fun h => h.elim
                              | exact mk_O.mp
                              | exact (mck_O mk_O).mp
                              | (rename_i heq; rw [heq]; first
                                  | exact fun h => h.elim
                                  | exact mk_O.mp
                                  | exact (mck_O mk_O).mp
                                  | (dsimp only; split <;> first
                                    | exact fun h => h.elim
                                    | exact mk_O.mp
                                    | exact (mck_O mk_O).mp
                                    )
                                )
                              | (dsimp only; split <;> first
                                  | exact fun h => h.elim
                                  | exact mk_O.mp
                                  | exact (mck_O mk_O).mp
                                )
                              )
                          )
                        | (dsimp only; split <;> first
                            | exact fun h => h.elim
                            | exact mk_O.mp
                            | exact (mck_O mk_O).mp
                            | (rename_i heq; rw [heq]; first
                                | exact fun h => h.elim
                                | exact mk_O.mp
                                | exact (mck_O mk_O).mp
                                | (dsimp only; split <;> first
                                  | exact fun h => h.elim
                                  | exact mk_O.mp
                                  | exact (mck_O mk_O).mp
                                  )
                              )
                            | (dsimp only; split <;> first
                                | exact fun h => h.elim
                                | exact mk_O.mp
                                | exact (mck_O mk_O).mp
                              )
                          )
                        )
                    )
                  | (dsimp only; split <;> first
                      | exact fun h => h.elim
                      | exact mk_O.mp
                      | exact (mck_O mk_O).mp
                      | (rename_i heq; rw [heq]; first
                          | exact fun h => h.elim
                          | exact mk_O.mp
                          | exact (mck_O mk_O).mp
                          | (dsimp only; split <;> first
                            | exact fun h => h.elim
                            | exact mk_O.mp
                            | exact (mck_O mk_O).mp
                            | (rename_i heq; rw [heq]; first
                                | exact fun h => h.elim
                                | exact mk_O.mp
                                | exact (mck_O mk_O).mp
                                | (dsimp only; split <;> first
                                  | exact fun h => h.elim
                                  | exact mk_O.mp
                                  | exact (mck_O mk_O).mp
                                  )
                              )
                            | (dsimp only; split <;> first
                                | exact fun h => h.elim
                                | exact mk_O.mp
                                | exact (mck_O mk_O).mp
                              )
                            )
                        )
                      | (dsimp only; split <;> first
                          | exact fun h => h.elim
                          | exact mk_O.mp
                          | exact (mck_O mk_O).mp
                          | (rename_i heq; rw [heq]; first
                              | exact fun h => h.elim
                              | exact mk_O.mp
                              | exact (mck_O mk_O).mp
                              | (dsimp only; split <;> first
                                | exact fun h => h.elim
                                | exact mk_O.mp
                                | exact (mck_O mk_O).mp
                                )
                            )
                          | (dsimp only; split <;> first
                              | exact fun h => h.elim
                              | exact mk_O.mp
                              | exact (mck_O mk_O).mp
                            )
                        )
                    )
                  )
              )
            | (dsimp only; split <;> first
                | exact fun h => h.elim
                | exact mk_O.mp
                | exact (mck_O mk_O).mp
                | (rename_i heq; rw [heq]; first
                    | exact fun h => h.elim
                    | exact mk_O.mp
                    | exact (mck_O mk_O).mp
                    | (dsimp only; split <;> first
                      | exact fun h => h.elim
                      | exact mk_O.mp
                      | exact (mck_O mk_O).mp
                      | (rename_i heq; rw [heq]; first
                          | exact fun h => h.elim
                          | exact mk_O.mp
                          | exact (mck_O mk_O).mp
                          | (dsimp only; split <;> first
                            | exact fun h => h.elim
                            | exact mk_O.mp
                            | exact (mck_O mk_O).mp
                            | (rename_i heq; rw [heq]; first
                                | exact fun h => h.elim
                                | exact mk_O.mp
                                | exact (mck_O mk_O).mp
                                | (dsimp only; split <;> first
                                  | exact fun h => h.elim
                                  | exact mk_O.mp
                                  | exact (mck_O mk_O).mp
                                  )
                              )
                            | (dsimp only; split <;> first
                                | exact fun h => h.elim
                                | exact mk_O.mp
                                | exact (mck_O mk_O).mp
                              )
                            )
                        )
                      | (dsimp only; split <;> first
                          | exact fun h => h.elim
                          | exact mk_O.mp
                          | exact (mck_O mk_O).mp
                          | (rename_i heq; rw [heq]; first
                              | exact fun h => h.elim
                              | exact mk_O.mp
                              | exact (mck_O mk_O).mp
                              | (dsimp only; split <;> first
                                | exact fun h => h.elim
                                | exact mk_O.mp
                                | exact (mck_O mk_O).mp
                                )
                            )
                          | (dsimp only; split <;> first
                              | exact fun h => h.elim
                              | exact mk_O.mp
                              | exact (mck_O mk_O).mp
                            )
                        )
                      )
                  )
                | (dsimp only; split <;> first
                    | exact fun h => h.elim
                    | exact mk_O.mp
                    | exact (mck_O mk_O).mp
                    | (rename_i heq; rw [heq]; first
                        | exact fun h => h.elim
                        | exact mk_O.mp
                        | exact (mck_O mk_O).mp
                        | (dsimp only; split <;> first
                          | exact fun h => h.elim
                          | exact mk_O.mp
                          | exact (mck_O mk_O).mp
                          | (rename_i heq; rw [heq]; first
                              | exact fun h => h.elim
                              | exact mk_O.mp
                              | exact (mck_O mk_O).mp
                              | (dsimp only; split <;> first
                                | exact fun h => h.elim
                                | exact mk_O.mp
                                | exact (mck_O mk_O).mp
                                )
                            )
                          | (dsimp only; split <;> first
                              | exact fun h => h.elim
                              | exact mk_O.mp
                              | exact (mck_O mk_O).mp
                            )
                          )
                      )
                    | (dsimp only; split <;> first
                        | exact fun h => h.elim
                        | exact mk_O.mp
                        | exact (mck_O mk_O).mp
                        | (rename_i heq; rw [heq]; first
                            | exact fun h => h.elim
                            | exact mk_O.mp
                            | exact (mck_O mk_O).mp
                            | (dsimp only; split <;> first
                              | exact fun h => h.elim
                              | exact mk_O.mp
                              | exact (mck_O mk_O).mp
                              )
                          )
                        | (dsimp only; split <;> first
                            | exact fun h => h.elim
                            | exact mk_O.mp
                            | exact (mck_O mk_O).mp
                          )
                      )
                  )
              )
          )
      )
    | skip
  all_goals done
set_option maxRecDepth 100000 in
set_option maxHeartbeats 8000000 in
theorem mxC_of {own m pc : Nat} {ins : Instr} {lo : mLo} {st : mSt} {h : mH} {k : mS → Prop} : mImp (∃ x, mxCF own m pc ins lo st h = some x ∧ k x) (mxC own m pc ins lo st h k) := by
  unfold mxC mxCF
  split
  all_goals first
    | exact fun h => (mF_O.mpr h).elim
    | exact mk_O.mpr
    | exact (mck_O mk_O).mpr
    | (rename_i heq; rw [heq]; first
        | exact fun h => (mF_O.mpr h).elim
        | exact mk_O.mpr
        | exact (mck_O mk_O).mpr
        | (dsimp only; split <;> first
          | exact fun h => (mF_O.mpr h).elim
          | exact mk_O.mpr
          | exact (mck_O mk_O).mpr
          | (rename_i heq; rw [heq]; first
              | exact fun h => (mF_O.mpr h).elim
              | exact mk_O.mpr
              | exact (mck_O mk_O).mpr
              | (dsimp only; split <;> first
                | exact fun h => (mF_O.mpr h).elim
                | exact mk_O.mpr
                | exact (mck_O mk_O).mpr
                | (rename_i heq; rw [heq]; first
                    | exact fun h => (mF_O.mpr h).elim
                    | exact mk_O.mpr
                    | exact (mck_O mk_O).mpr
                    | (dsimp only; split <;> first
                      | exact fun h => (mF_O.mpr h).elim
                      | exact mk_O.mpr
                      | exact (mck_O mk_O).mpr
                      | (rename_i heq; rw [heq]; first
                          | exact fun h => (mF_O.mpr h).elim
                          | exact mk_O.mpr
                          | exact (mck_O mk_O).mpr
                          | (dsimp only; split <;> first
                            | exact fun h => (mF_O.mpr h).elim
                            | exact mk_O.mpr
                            | exact (mck_O mk_O).mpr
                            | (rename_i heq; rw [heq]; first
                                | exact fun h => (mF_O.mpr h).elim
                                | exact mk_O.mpr
                                | exact (mck_O mk_O).mpr
                                | (dsimp only; split <;> first
                                  | exact fun h => (mF_O.mpr h).elim
                                  | exact mk_O.mpr
                                  | exact (mck_O mk_O).mpr
                                  | (rename_i heq; rw [heq]; first
                                      | exact fun h => (mF_O.mpr h).elim
                                      | exact mk_O.mpr
                                      | exact (mck_O mk_O).mpr
                                      | (dsimp only; split <;> first
                                        | exact fun h => (mF_O.mpr h).elim
                                        | exact mk_O.mpr
                                        | exact (mck_O mk_O).mpr
                                        )
                                    )
                                  | (dsimp only; split <;> first
                                      | exact fun h => (mF_O.mpr h).elim
                                      | exact mk_O.mpr
                                      | exact (mck_O mk_O).mpr
                                    )
                                  )
                              )
                            | (dsimp only; split <;> first
                                | exact fun h => (mF_O.mpr h).elim
                                | exact mk_O.mpr
                                | exact (mck_O mk_O).mpr
                                | (rename_i heq; rw [heq]; first
                                    | exact fun h => (mF_O.mpr h).elim
                                    | exact mk_O.mpr
                                    | exact (mck_O mk_O).mpr
                                    | (dsimp only; split <;> first
                                      | exact fun h => (mF_O.mpr h).elim
                                      | exact mk_O.mpr
                                      | exact (mck_O mk_O).mpr
                                      )
                                  )
                                | (dsimp only; split <;> first
                                    | exact fun h => (mF_O.mpr h).elim
                                    | exact mk_O.mpr
                                    | exact (mck_O mk_O).mpr
                                  )
                              )
                            )
                        )
                      | (dsimp only; split <;> first
                          | exact fun h => (mF_O.mpr h).elim
                          | exact mk_O.mpr
                          | exact (mck_O mk_O).mpr
                          | (rename_i heq; rw [heq]; first
                              | exact fun h => (mF_O.mpr h).elim
                              | exact mk_O.mpr
                              | exact (mck_O mk_O).mpr
                              | (dsimp only; split <;> first
                                | exact fun h => (mF_O.mpr h).elim
                                | exact mk_O.mpr
                                | exact (mck_O mk_O).mpr
                                | (rename_i heq; rw [heq]; first
                                    | exact fun h => (mF_O.mpr h).elim
                                    | exact mk_O.mpr
                                    | exact (mck_O mk_O).mpr
                                    | (dsimp only; split <;> first
                                      | exact fun h => (mF_O.mpr h).elim
                                      | exact mk_O.mpr
                                      | exact (mck_O mk_O).mpr
                                      )
                                  )
                                | (dsimp only; split <;> first
                                    | exact fun h => (mF_O.mpr h).elim
                                    | exact mk_O.mpr
                                    | exact (mck_O mk_O).mpr
                                  )
                                )
                            )
                          | (dsimp only; split <;> first
                              | exact fun h => (mF_O.mpr h).elim
                              | exact mk_O.mpr
                              | exact (mck_O mk_O).mpr
                              | (rename_i heq; rw [heq]; first
                                  | exact fun h => (mF_O.mpr h).elim
                                  | exact mk_O.mpr
                                  | exact (mck_O mk_O).mpr
                                  | (dsimp only; split <;> first
                                    | exact fun h => (mF_O.mpr h).elim
                                    | exact mk_O.mpr
                                    | exact (mck_O mk_O).mpr
                                    )
                                )
                              | (dsimp only; split <;> first
                                  | exact fun h => (mF_O.mpr h).elim
                                  | exact mk_O.mpr
                                  | exact (mck_O mk_O).mpr
                                )
                            )
                        )
                      )
                  )
                | (dsimp only; split <;> first
                    | exact fun h => (mF_O.mpr h).elim
                    | exact mk_O.mpr
                    | exact (mck_O mk_O).mpr
                    | (rename_i heq; rw [heq]; first
                        | exact fun h => (mF_O.mpr h).elim
                        | exact mk_O.mpr
                        | exact (mck_O mk_O).mpr
                        | (dsimp only; split <;> first
                          | exact fun h => (mF_O.mpr h).elim
                          | exact mk_O.mpr
                          | exact (mck_O mk_O).mpr
                          | (rename_i heq; rw [heq]; first
                              | exact fun h => (mF_O.mpr h).elim
                              | exact mk_O.mpr
                              | exact (mck_O mk_O).mpr
                              | (dsimp only; split <;> first
                                | exact fun h => (mF_O.mpr h).elim
                                | exact mk_O.mpr
                                | exact (mck_O mk_O).mpr
                                | (rename_i heq; rw [heq]; first
                                    | exact fun h => (mF_O.mpr h).elim
                                    | exact mk_O.mpr
                                    | exact (mck_O mk_O).mpr
                                    | (dsimp only; split <;> first
                                      | exact fun h => (mF_O.mpr h).elim
                                      | exact mk_O.mpr
                                      | exact (mck_O mk_O).mpr
                                      )
                                  )
                                | (dsimp only; split <;> first
                                    | exact fun h => (mF_O.mpr h).elim
                                    | exact mk_O.mpr
                                    | exact (mck_O mk_O).mpr
                                  )
                                )
                            )
                          | (dsimp only; split <;> first
                              | exact fun h => (mF_O.mpr h).elim
                              | exact mk_O.mpr
                              | exact (mck_O mk_O).mpr
                              | (rename_i heq; rw [heq]; first
                                  | exact fun h => (mF_O.mpr h).elim
                                  | exact mk_O.mpr
                                  | exact (mck_O mk_O).mpr
                                  | (dsimp only; split <;> first
                                    | exact fun h => (mF_O.mpr h).elim
                                    | exact mk_O.mpr
                                    | exact (mck_O mk_O).mpr
                                    )
                                )
                              | (dsimp only; split <;> first
                                  | exact fun h => (mF_O.mpr h).elim
                                  | exact mk_O.mpr
                                  | exact (mck_O mk_O).mpr
                                )
                            )
                          )
                      )
                    | (dsimp only; split <;> first
                        | exact fun h => (mF_O.mpr h).elim
                        | exact mk_O.mpr
                        | exact (mck_O mk_O).mpr
                        | (rename_i heq; rw [heq]; first
                            | exact fun h => (mF_O.mpr h).elim
                            | exact mk_O.mpr
                            | exact (mck_O mk_O).mpr
                            | (dsimp only; split <;> first
                              | exact fun h => (mF_O.mpr h).elim
                              | exact mk_O.mpr
                              | exact (mck_O mk_O).mpr
                              | (rename_i heq; rw [heq]; first
                                  | exact fun h => (mF_O.mpr h).elim
                                  | exact mk_O.mpr
                                  | exact (mck_O mk_O).mpr
                                  | (dsimp only; split <;> first
                                    | exact fun h => (mF_O.mpr h).elim
                                    | exact mk_O.mpr
                                    | exact (mck_O mk_O).mpr
                                    )
                                )
                              | (dsimp only; split <;> first
                                  | exact fun h => (mF_O.mpr h).elim
                                  | exact mk_O.mpr
                                  | exact (mck_O mk_O).mpr
                                )
                              )
                          )
                        | (dsimp only; split <;> first
                            | exact fun h => (mF_O.mpr h).elim
                            | exact mk_O.mpr
                            | exact (mck_O mk_O).mpr
                            | (rename_i heq; rw [heq]; first
                                | exact fun h => (mF_O.mpr h).elim
                                | exact mk_O.mpr
                                | exact (mck_O mk_O).mpr
                                | (dsimp only; split <;> first
                                  | exact fun h => (mF_O.mpr h).elim
                                  | exact mk_O.mpr
                                  | exact (mck_O mk_O).mpr
                                  )
                              )
                            | (dsimp only; split <;> first
                                | exact fun h => (mF_O.mpr h).elim
                                | exact mk_O.mpr
                                | exact (mck_O mk_O).mpr
                              )
                          )
                      )
                  )
                )
            )
          | (dsimp only; split <;> first
              | exact fun h => (mF_O.mpr h).elim
              | exact mk_O.mpr
              | exact (mck_O mk_O).mpr
              | (rename_i heq; rw [heq]; first
                  | exact fun h => (mF_O.mpr h).elim
                  | exact mk_O.mpr
                  | exact (mck_O mk_O).mpr
                  | (dsimp only; split <;> first
                    | exact fun h => (mF_O.mpr h).elim
                    | exact mk_O.mpr
                    | exact (mck_O mk_O).mpr
                    | (rename_i heq; rw [heq]; first
                        | exact fun h => (mF_O.mpr h).elim
                        | exact mk_O.mpr
                        | exact (mck_O mk_O).mpr
                        | (dsimp only; split <;> first
                          | exact fun h => (mF_O.mpr h).elim
                          | exact mk_O.mpr
                          | exact (mck_O mk_O).mpr
                          | (rename_i heq; rw [heq]; first
                              | exact fun h => (mF_O.mpr h).elim
                              | exact mk_O.mpr
                              | exact (mck_O mk_O).mpr
                              | (dsimp only; split <;> first
                                | exact fun h => (mF_O.mpr h).elim
                                | exact mk_O.mpr
                                | exact (mck_O mk_O).mpr
                                | (rename_i heq; rw [heq]; first
                                    | exact fun h => (mF_O.mpr h).elim
                                    | exact mk_O.mpr
                                    | exact (mck_O mk_O).mpr
                                    | (dsimp only; split <;> first
                                      | exact fun h => (mF_O.mpr h).elim
                                      | exact mk_O.mpr
                                      | exact (mck_O mk_O).mpr
                                      )
                                  )
                                | (dsimp only; split <;> first
                                    | exact fun h => (mF_O.mpr h).elim
                                    | exact mk_O.mpr
                                    | exact (mck_O mk_O).mpr
                                  )
                                )
                            )
                          | (dsimp only; split <;> first
                              | exact fun h => (mF_O.mpr h).elim
                              | exact mk_O.mpr
                              | exact (mck_O mk_O).mpr
                              | (rename_i heq; rw [heq]; first
                                  | exact fun h => (mF_O.mpr h).elim
                                  | exact mk_O.mpr
                                  | exact (mck_O mk_O).mpr
                                  | (dsimp only; split <;> first
                                    | exact fun h => (mF_O.mpr h).elim
                                    | exact mk_O.mpr
                                    | exact (mck_O mk_O).mpr
                                    )
                                )
                              | (dsimp only; split <;> first
                                  | exact fun h => (mF_O.mpr h).elim
                                  | exact mk_O.mpr
                                  | exact (mck_O mk_O).mpr
                                )
                            )
                          )
                      )
                    | (dsimp only; split <;> first
                        | exact fun h => (mF_O.mpr h).elim
                        | exact mk_O.mpr
                        | exact (mck_O mk_O).mpr
                        | (rename_i heq; rw [heq]; first
                            | exact fun h => (mF_O.mpr h).elim
                            | exact mk_O.mpr
                            | exact (mck_O mk_O).mpr
                            | (dsimp only; split <;> first
                              | exact fun h => (mF_O.mpr h).elim
                              | exact mk_O.mpr
                              | exact (mck_O mk_O).mpr
                              | (rename_i heq; rw [heq]; first
                                  | exact fun h => (mF_O.mpr h).elim
                                  | exact mk_O.mpr
                                  | exact (mck_O mk_O).mpr
                                  | (dsimp only; split <;> first
                                    | exact fun h => (mF_O.mpr h).elim
                                    | exact mk_O.mpr
                                    | exact (mck_O mk_O).mpr
                                    )
                                )
                              | (dsimp only; split <;> first
                                  | exact fun h => (mF_O.mpr h).elim
                                  | exact mk_O.mpr
                                  | exact (mck_O mk_O).mpr
                                )
                              )
                          )
                        | (dsimp only; split <;> first
                            | exact fun h => (mF_O.mpr h).elim
                            | exact mk_O.mpr
                            | exact (mck_O mk_O).mpr
                            | (rename_i heq; rw [heq]; first
                                | exact fun h => (mF_O.mpr h).elim
                                | exact mk_O.mpr
                                | exact (mck_O mk_O).mpr
                                | (dsimp only; split <;> first
                                  | exact fun h => (mF_O.mpr h).elim
                                  | exact mk_O.mpr
                                  | exact (mck_O mk_O).mpr
                                  )
                              )
                            | (dsimp only; split <;> first
                                | exact fun h => (mF_O.mpr h).elim
                                | exact mk_O.mpr
                                | exact (mck_O mk_O).mpr
                              )
                          )
                      )
                    )
                )
              | (dsimp only; split <;> first
                  | exact fun h => (mF_O.mpr h).elim
                  | exact mk_O.mpr
                  | exact (mck_O mk_O).mpr
                  | (rename_i heq; rw [heq]; first
                      | exact fun h => (mF_O.mpr h).elim
                      | exact mk_O.mpr
                      | exact (mck_O mk_O).mpr
                      | (dsimp only; split <;> first
                        | exact fun h => (mF_O.mpr h).elim
                        | exact mk_O.mpr
                        | exact (mck_O mk_O).mpr
                        | (rename_i heq; rw [heq]; first
                            | exact fun h => (mF_O.mpr h).elim
                            | exact mk_O.mpr
                            | exact (mck_O mk_O).mpr
                            | (dsimp only; split <;> first
                              | exact fun h => (mF_O.mpr h).elim
                              | exact mk_O.mpr
                              | exact (mck_O mk_O).mpr
                              | (rename_i heq; rw [heq]; first
                                  | exact fun h => (mF_O.mpr h).elim
                                  | exact mk_O.mpr
                                  | exact (mck_O mk_O).mpr
                                  | (dsimp only; split <;> first
                                    | exact fun h => (mF_O.mpr h).elim
                                    | exact mk_O.mpr
                                    | exact (mck_O mk_O).mpr
                                    )
                                )
                              | (dsimp only; split <;> first
                                  | exact fun h => (mF_O.mpr h).elim
                                  | exact mk_O.mpr
                                  | exact (mck_O mk_O).mpr
                                )
                              )
                          )
                        | (dsimp only; split <;> first
                            | exact fun h => (mF_O.mpr h).elim
                            | exact mk_O.mpr
                            | exact (mck_O mk_O).mpr
                            | (rename_i heq; rw [heq]; first
                                | exact fun h => (mF_O.mpr h).elim
                                | exact mk_O.mpr
                                | exact (mck_O mk_O).mpr
                                | (dsimp only; split <;> first
                                  | exact fun h => (mF_O.mpr h).elim
                                  | exact mk_O.mpr
                                  | exact (mck_O mk_O).mpr
                                  )
                              )
                            | (dsimp only; split <;> first
                                | exact fun h => (mF_O.mpr h).elim
                                | exact mk_O.mpr
                                | exact (mck_O mk_O).mpr
                              )
                          )
                        )
                    )
                  | (dsimp only; split <;> first
                      | exact fun h => (mF_O.mpr h).elim
                      | exact mk_O.mpr
                      | exact (mck_O mk_O).mpr
                      | (rename_i heq; rw [heq]; first
                          | exact fun h => (mF_O.mpr h).elim
                          | exact mk_O.mpr
                          | exact (mck_O mk_O).mpr
                          | (dsimp only; split <;> first
                            | exact fun h => (mF_O.mpr h).elim
                            | exact mk_O.mpr
                            | exact (mck_O mk_O).mpr
                            | (rename_i heq; rw [heq]; first
                                | exact fun h => (mF_O.mpr h).elim
                                | exact mk_O.mpr
                                | exact (mck_O mk_O).mpr
                                | (dsimp only; split <;> first
                                  | exact fun h => (mF_O.mpr h).elim
                                  | exact mk_O.mpr
                                  | exact (mck_O mk_O).mpr
                                  )
                              )
                            | (dsimp only; split <;> first
                                | exact fun h => (mF_O.mpr h).elim
                                | exact mk_O.mpr
                                | exact (mck_O mk_O).mpr
                              )
                            )
                        )
                      | (dsimp only; split <;> first
                          | exact fun h => (mF_O.mpr h).elim
                          | exact mk_O.mpr
                          | exact (mck_O mk_O).mpr
                          | (rename_i heq; rw [heq]; first
                              | exact fun h => (mF_O.mpr h).elim
                              | exact mk_O.mpr
                              | exact (mck_O mk_O).mpr
                              | (dsimp only; split <;> first
                                | exact fun h => (mF_O.mpr h).elim
                                | exact mk_O.mpr
                                | exact (mck_O mk_O).mpr
                                )
                            )
                          | (dsimp only; split <;> first
                              | exact fun h => (mF_O.mpr h).elim
                              | exact mk_O.mpr
                              | exact (mck_O mk_O).mpr
                            )
                        )
                    )
                )
            )
          )
      )
    | (dsimp only; split <;> first
        | exact fun h => (mF_O.mpr h).elim
        | exact mk_O.mpr
        | exact (mck_O mk_O).mpr
        | (rename_i heq; rw [heq]; first
            | exact fun h => (mF_O.mpr h).elim
            | exact mk_O.mpr
            | exact (mck_O mk_O).mpr
            | (dsimp only; split <;> first
              | exact fun h => (mF_O.mpr h).elim
              | exact mk_O.mpr
              | exact (mck_O mk_O).mpr
              | (rename_i heq; rw [heq]; first
                  | exact fun h => (mF_O.mpr h).elim
                  | exact mk_O.mpr
                  | exact (mck_O mk_O).mpr
                  | (dsimp only; split <;> first
                    | exact fun h => (mF_O.mpr h).elim
                    | exact mk_O.mpr
                    | exact (mck_O mk_O).mpr
                    | (rename_i heq; rw [heq]; first
                        | exact fun h => (mF_O.mpr h).elim
                        | exact mk_O.mpr
                        | exact (mck_O mk_O).mpr
                        | (dsimp only; split <;> first
                          | exact fun h => (mF_O.mpr h).elim
                          | exact mk_O.mpr
                          | exact (mck_O mk_O).mpr
                          | (rename_i heq; rw [heq]; first
                              | exact fun h => (mF_O.mpr h).elim
                              | exact mk_O.mpr
                              | exact (mck_O mk_O).mpr
                              | (dsimp only; split <;> first
                                | exact fun h => (mF_O.mpr h).elim
                                | exact mk_O.mpr
                                | exact (mck_O mk_O).mpr
                                | (rename_i heq; rw [heq]; first
                                    | exact fun h => (mF_O.mpr h).elim
                                    | exact mk_O.mpr
                                    | exact (mck_O mk_O).mpr
                                    | (dsimp only; split <;> first
                                      | exact fun h => (mF_O.mpr h).elim
                                      | exact mk_O.mpr
                                      | exact (mck_O mk_O).mpr
                                      )
                                  )
                                | (dsimp only; split <;> first
                                    | exact fun h => (mF_O.mpr h).elim
                                    | exact mk_O.mpr
                                    | exact (mck_O mk_O).mpr
                                  )
                                )
                            )
                          | (dsimp only; split <;> first
                              | exact fun h => (mF_O.mpr h).elim
                              | exact mk_O.mpr
                              | exact (mck_O mk_O).mpr
                              | (rename_i heq; rw [heq]; first
                                  | exact fun h => (mF_O.mpr h).elim
                                  | exact mk_O.mpr
                                  | exact (mck_O mk_O).mpr
                                  | (dsimp only; split <;> first
                                    | exact fun h => (mF_O.mpr h).elim
                                    | exact mk_O.mpr
                                    | exact (mck_O mk_O).mpr
                                    )
                                )
                              | (dsimp only; split <;> first
                                  | exact fun h => (mF_O.mpr h).elim
                                  | exact mk_O.mpr
                                  | exact (mck_O mk_O).mpr
                                )
                            )
                          )
                      )
                    | (dsimp only; split <;> first
                        | exact fun h => (mF_O.mpr h).elim
                        | exact mk_O.mpr
                        | exact (mck_O mk_O).mpr
                        | (rename_i heq; rw [heq]; first
                            | exact fun h => (mF_O.mpr h).elim
                            | exact mk_O.mpr
                            | exact (mck_O mk_O).mpr
                            | (dsimp only; split <;> first
                              | exact fun h => (mF_O.mpr h).elim
                              | exact mk_O.mpr
                              | exact (mck_O mk_O).mpr
                              | (rename_i heq; rw [heq]; first
                                  | exact fun h => (mF_O.mpr h).elim
                                  | exact mk_O.mpr
                                  | exact (mck_O mk_O).mpr
                                  | (dsimp only; split <;> first
                                    | exact fun h => (mF_O.mpr h).elim
                                    | exact mk_O.mpr
                                    | exact (mck_O mk_O).mpr
                                    )
                                )
                              | (dsimp only; split <;> first
                                  | exact fun h => (mF_O.mpr h).elim
                                  | exact mk_O.mpr
                                  | exact (mck_O mk_O).mpr
                                )
                              )
                          )
                        | (dsimp only; split <;> first
                            | exact fun h => (mF_O.mpr h).elim
                            | exact mk_O.mpr
                            | exact (mck_O mk_O).mpr
                            | (rename_i heq; rw [heq]; first
                                | exact fun h => (mF_O.mpr h).elim
                                | exact mk_O.mpr
                                | exact (mck_O mk_O).mpr
                                | (dsimp only; split <;> first
                                  | exact fun h => (mF_O.mpr h).elim
                                  | exact mk_O.mpr
                                  | exact (mck_O mk_O).mpr
                                  )
                              )
                            | (dsimp only; split <;> first
                                | exact fun h => (mF_O.mpr h).elim
                                | exact mk_O.mpr
                                | exact (mck_O mk_O).mpr
                              )
                          )
                      )
                    )
                )
              | (dsimp only; split <;> first
                  | exact fun h => (mF_O.mpr h).elim
                  | exact mk_O.mpr
                  | exact (mck_O mk_O).mpr
                  | (rename_i heq; rw [heq]; first
                      | exact fun h => (mF_O.mpr h).elim
                      | exact mk_O.mpr
                      | exact (mck_O mk_O).mpr
                      | (dsimp only; split <;> first
                        | exact fun h => (mF_O.mpr h).elim
                        | exact mk_O.mpr
                        | exact (mck_O mk_O).mpr
                        | (rename_i heq; rw [heq]; first
                            | exact fun h => (mF_O.mpr h).elim
                            | exact mk_O.mpr
                            | exact (mck_O mk_O).mpr
                            | (dsimp only; split <;> first
                              | exact fun h => (mF_O.mpr h).elim
                              | exact mk_O.mpr
                              | exact (mck_O mk_O).mpr
                              | (rename_i heq; rw [heq]; first
                                  | exact fun h => (mF_O.mpr h).elim
                                  | exact mk_O.mpr
                                  | exact (mck_O mk_O).mpr
                                  | (dsimp only; split <;> first
                                    | exact fun h => (mF_O.mpr h).elim
                                    | exact mk_O.mpr
                                    | exact (mck_O mk_O).mpr
                                    )
                                )
                              | (dsimp only; split <;> first
                                  | exact fun h => (mF_O.mpr h).elim
                                  | exact mk_O.mpr
                                  | exact (mck_O mk_O).mpr
                                )
                              )
                          )
                        | (dsimp only; split <;> first
                            | exact fun h => (mF_O.mpr h).elim
                            | exact mk_O.mpr
                            | exact (mck_O mk_O).mpr
                            | (rename_i heq; rw [heq]; first
                                | exact fun h => (mF_O.mpr h).elim
                                | exact mk_O.mpr
                                | exact (mck_O mk_O).mpr
                                | (dsimp only; split <;> first
                                  | exact fun h => (mF_O.mpr h).elim
                                  | exact mk_O.mpr
                                  | exact (mck_O mk_O).mpr
                                  )
                              )
                            | (dsimp only; split <;> first
                                | exact fun h => (mF_O.mpr h).elim
                                | exact mk_O.mpr
                                | exact (mck_O mk_O).mpr
                              )
                          )
                        )
                    )
                  | (dsimp only; split <;> first
                      | exact fun h => (mF_O.mpr h).elim
                      | exact mk_O.mpr
                      | exact (mck_O mk_O).mpr
                      | (rename_i heq; rw [heq]; first
                          | exact fun h => (mF_O.mpr h).elim
                          | exact mk_O.mpr
                          | exact (mck_O mk_O).mpr
                          | (dsimp only; split <;> first
                            | exact fun h => (mF_O.mpr h).elim
                            | exact mk_O.mpr
                            | exact (mck_O mk_O).mpr
                            | (rename_i heq; rw [heq]; first
                                | exact fun h => (mF_O.mpr h).elim
                                | exact mk_O.mpr
                                | exact (mck_O mk_O).mpr
                                | (dsimp only; split <;> first
                                  | exact fun h => (mF_O.mpr h).elim
                                  | exact mk_O.mpr
                                  | exact (mck_O mk_O).mpr
                                  )
                              )
                            | (dsimp only; split <;> first
                                | exact fun h => (mF_O.mpr h).elim
                                | exact mk_O.mpr
                                | exact (mck_O mk_O).mpr
                              )
                            )
                        )
                      | (dsimp only; split <;> first
                          | exact fun h => (mF_O.mpr h).elim
                          | exact mk_O.mpr
                          | exact (mck_O mk_O).mpr
                          | (rename_i heq; rw [heq]; first
                              | exact fun h => (mF_O.mpr h).elim
                              | exact mk_O.mpr
                              | exact (mck_O mk_O).mpr
                              | (dsimp only; split <;> first
                                | exact fun h => (mF_O.mpr h).elim
                                | exact mk_O.mpr
                                | exact (mck_O mk_O).mpr
                                )
                            )
                          | (dsimp only; split <;> first
                              | exact fun h => (mF_O.mpr h).elim
                              | exact mk_O.mpr
                              | exact (mck_O mk_O).mpr
                            )
                        )
                    )
                )
              )
          )
        | (dsimp only; split <;> first
            | exact fun h => (mF_O.mpr h).elim
            | exact mk_O.mpr
            | exact (mck_O mk_O).mpr
            | (rename_i heq; rw [heq]; first
                | exact fun h => (mF_O.mpr h).elim
                | exact mk_O.mpr
                | exact (mck_O mk_O).mpr
                | (dsimp only; split <;> first
                  | exact fun h => (mF_O.mpr h).elim
                  | exact mk_O.mpr
                  | exact (mck_O mk_O).mpr
                  | (rename_i heq; rw [heq]; first
                      | exact fun h => (mF_O.mpr h).elim
                      | exact mk_O.mpr
                      | exact (mck_O mk_O).mpr
                      | (dsimp only; split <;> first
                        | exact fun h => (mF_O.mpr h).elim
                        | exact mk_O.mpr
                        | exact (mck_O mk_O).mpr
                        | (rename_i heq; rw [heq]; first
                            | exact fun h => (mF_O.mpr h).elim
                            | exact mk_O.mpr
                            | exact (mck_O mk_O).mpr
                            | (dsimp only; split <;> first
                              | exact fun h => (mF_O.mpr h).elim
                              | exact mk_O.mpr
                              | exact (mck_O mk_O).mpr
                              | (rename_i heq; rw [heq]; first
                                  | exact fun h => (mF_O.mpr h).elim
                                  | exact mk_O.mpr
                                  | exact (mck_O mk_O).mpr
                                  | (dsimp only; split <;> first
                                    | exact fun h => (mF_O.mpr h).elim
                                    | exact mk_O.mpr
                                    | exact (mck_O mk_O).mpr
                                    )
                                )
                              | (dsimp only; split <;> first
                                  | exact fun h => (mF_O.mpr h).elim
                                  | exact mk_O.mpr
                                  | exact (mck_O mk_O).mpr
                                )
                              )
                          )
                        | (dsimp only; split <;> first
                            | exact fun h => (mF_O.mpr h).elim
                            | exact mk_O.mpr
                            | exact (mck_O mk_O).mpr
                            | (rename_i heq; rw [heq]; first
                                | exact fun h => (mF_O.mpr h).elim
                                | exact mk_O.mpr
                                | exact (mck_O mk_O).mpr
                                | (dsimp only; split <;> first
                                  | exact fun h => (mF_O.mpr h).elim
                                  | exact mk_O.mpr
                                  | exact (mck_O mk_O).mpr
                                  )
                              )
                            | (dsimp only; split <;> first
                                | exact fun h => (mF_O.mpr h).elim
                                | exact mk_O.mpr
                                | exact (mck_O mk_O).mpr
                              )
                          )
                        )
                    )
                  | (dsimp only; split <;> first
                      | exact fun h => (mF_O.mpr h).elim
                      | exact mk_O.mpr
                      | exact (mck_O mk_O).mpr
                      | (rename_i heq; rw [heq]; first
                          | exact fun h => (mF_O.mpr h).elim
                          | exact mk_O.mpr
                          | exact (mck_O mk_O).mpr
                          | (dsimp only; split <;> first
                            | exact fun h => (mF_O.mpr h).elim
                            | exact mk_O.mpr
                            | exact (mck_O mk_O).mpr
                            | (rename_i heq; rw [heq]; first
                                | exact fun h => (mF_O.mpr h).elim
                                | exact mk_O.mpr
                                | exact (mck_O mk_O).mpr
                                | (dsimp only; split <;> first
                                  | exact fun h => (mF_O.mpr h).elim
                                  | exact mk_O.mpr
                                  | exact (mck_O mk_O).mpr
                                  )
                              )
                            | (dsimp only; split <;> first
                                | exact fun h => (mF_O.mpr h).elim
                                | exact mk_O.mpr
                                | exact (mck_O mk_O).mpr
                              )
                            )
                        )
                      | (dsimp only; split <;> first
                          | exact fun h => (mF_O.mpr h).elim
                          | exact mk_O.mpr
                          | exact (mck_O mk_O).mpr
                          | (rename_i heq; rw [heq]; first
                              | exact fun h => (mF_O.mpr h).elim
                              | exact mk_O.mpr
                              | exact (mck_O mk_O).mpr
                              | (dsimp only; split <;> first
                                | exact fun h => (mF_O.mpr h).elim
                                | exact mk_O.mpr
                                | exact (mck_O mk_O).mpr
                                )
                            )
                          | (dsimp only; split <;> first
                              | exact fun h => (mF_O.mpr h).elim
                              | exact mk_O.mpr
                              | exact (mck_O mk_O).mpr
                            )
                        )
                    )
                  )
              )
            | (dsimp only; split <;> first
                | exact fun h => (mF_O.mpr h).elim
                | exact mk_O.mpr
                | exact (mck_O mk_O).mpr
                | (rename_i heq; rw [heq]; first
                    | exact fun h => (mF_O.mpr h).elim
                    | exact mk_O.mpr
                    | exact (mck_O mk_O).mpr
                    | (dsimp only; split <;> first
                      | exact fun h => (mF_O.mpr h).elim
                      | exact mk_O.mpr
                      | exact (mck_O mk_O).mpr
                      | (rename_i heq; rw [heq]; first
                          | exact fun h => (mF_O.mpr h).elim
                          | exact mk_O.mpr
                          | exact (mck_O mk_O).mpr
                          | (dsimp only; split <;> first
                            | exact fun h => (mF_O.mpr h).elim
                            | exact mk_O.mpr
                            | exact (mck_O mk_O).mpr
                            | (rename_i heq; rw [heq]; first
                                | exact fun h => (mF_O.mpr h).elim
                                | exact mk_O.mpr
                                | exact (mck_O mk_O).mpr
                                | (dsimp only; split <;> first
                                  | exact fun h => (mF_O.mpr h).elim
                                  | exact mk_O.mpr
                                  | exact (mck_O mk_O).mpr
                                  )
                              )
                            | (dsimp only; split <;> first
                                | exact fun h => (mF_O.mpr h).elim
                                | exact mk_O.mpr
                                | exact (mck_O mk_O).mpr
                              )
                            )
                        )
                      | (dsimp only; split <;> first
                          | exact fun h => (mF_O.mpr h).elim
                          | exact mk_O.mpr
                          | exact (mck_O mk_O).mpr
                          | (rename_i heq; rw [heq]; first
                              | exact fun h => (mF_O.mpr h).elim
                              | exact mk_O.mpr
                              | exact (mck_O mk_O).mpr
                              | (dsimp only; split <;> first
                                | exact fun h => (mF_O.mpr h).elim
                                | exact mk_O.mpr
                                | exact (mck_O mk_O).mpr
                                )
                            )
                          | (dsimp only; split <;> first
                              | exact fun h => (mF_O.mpr h).elim
                              | exact mk_O.mpr
                              | exact (mck_O mk_O).mpr
                            )
                        )
                      )
                  )
                | (dsimp only; split <;> first
                    | exact fun h => (mF_O.mpr h).elim
                    | exact mk_O.mpr
                    | exact (mck_O mk_O).mpr
                    | (rename_i heq; rw [heq]; first
                        | exact fun h => (mF_O.mpr h).elim
                        | exact mk_O.mpr
                        | exact (mck_O mk_O).mpr
                        | (dsimp only; split <;> first
                          | exact fun h => (mF_O.mpr h).elim
                          | exact mk_O.mpr
                          | exact (mck_O mk_O).mpr
                          | (rename_i heq; rw [heq]; first
                              | exact fun h => (mF_O.mpr h).elim
                              | exact mk_O.mpr
                              | exact (mck_O mk_O).mpr
                              | (dsimp only; split <;> first
                                | exact fun h => (mF_O.mpr h).elim
                                | exact mk_O.mpr
                                | exact (mck_O mk_O).mpr
                                )
                            )
                          | (dsimp only; split <;> first
                              | exact fun h => (mF_O.mpr h).elim
                              | exact mk_O.mpr
                              | exact (mck_O mk_O).mpr
                            )
                          )
                      )
                    | (dsimp only; split <;> first
                        | exact fun h => (mF_O.mpr h).elim
                        | exact mk_O.mpr
                        | exact (mck_O mk_O).mpr
                        | (rename_i heq; rw [heq]; first
                            | exact fun h => (mF_O.mpr h).elim
                            | exact mk_O.mpr
                            | exact (mck_O mk_O).mpr
                            | (dsimp only; split <;> first
                              | exact fun h => (mF_O.mpr h).elim
                              | exact mk_O.mpr
                              | exact (mck_O mk_O).mpr
                              )
                          )
                        | (dsimp only; split <;> first
                            | exact fun h => (mF_O.mpr h).elim
                            | exact mk_O.mpr
                            | exact (mck_O mk_O).mpr
                          )
                      )
                  )
              )
          )
      )
    | skip
  all_goals done
