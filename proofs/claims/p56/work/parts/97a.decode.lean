/-! THE INSTRUCTIONS ARE WHAT THE BYTES SAY, by kernel computation. -/
def mCondN (c : ClassFile.Cond) : Int := match c with
  | .eq => 0
  | .ne => 1
  | .lt => 2
  | .ge => 3
  | .gt => 4
  | .le => 5
def mCondB (n : Int) : ClassFile.Cond := match n with
  | 0 => .eq
  | 1 => .ne
  | 2 => .lt
  | 3 => .ge
  | 4 => .gt
  | _ => .le
def mAtN (c : ArrayType) : Int := match c with
  | .boolean => 0
  | .char => 1
  | .float => 2
  | .double => 3
  | .byte => 4
  | .short => 5
  | .int => 6
  | .long => 7
def mAtB (n : Int) : ArrayType := match n with
  | 0 => .boolean
  | 1 => .char
  | 2 => .float
  | 3 => .double
  | 4 => .byte
  | 5 => .short
  | 6 => .int
  | _ => .long
def mEnc (i : Instr) : Nat × List Int := match i with
  | .ireturn => (1, [])
  | .iaload => (2, [])
  | .iadd => (3, [])
  | .return_ => (4, [])
  | .isub => (5, [])
  | .i2l => (6, [])
  | .iastore => (7, [])
  | .lastore => (8, [])
  | .laload => (9, [])
  | .lcmp => (10, [])
  | .imul => (11, [])
  | .dup => (12, [])
  | .idiv => (13, [])
  | .irem => (14, [])
  | .dup2 => (15, [])
  | .bastore => (16, [])
  | .pop => (17, [])
  | .daload => (18, [])
  | .i2b => (19, [])
  | .aaload => (20, [])
  | .ishr => (21, [])
  | .baload => (22, [])
  | .dreturn => (23, [])
  | .i2d => (24, [])
  | .i2f => (25, [])
  | .athrow => (26, [])
  | .freturn => (27, [])
  | .aastore => (28, [])
  | .ddiv => (29, [])
  | .fdiv => (30, [])
  | .iand => (31, [])
  | .dastore => (32, [])
  | .f2d => (33, [])
  | .arraylength => (34, [])
  | .ineg => (35, [])
  | .ior => (36, [])
  | .ishl => (37, [])
  | .dup_x1 => (38, [])
  | .i2c => (39, [])
  | .areturn => (40, [])
  | .lreturn => (41, [])
  | .aconst_null => (42, [])
  | .getfield a => (43, [(a : Int)])
  | .invokevirtual a => (44, [(a : Int)])
  | .iload a => (45, [(a : Int)])
  | .invokestatic a => (46, [(a : Int)])
  | .putfield a => (47, [(a : Int)])
  | .istore a => (48, [(a : Int)])
  | .astore a => (49, [(a : Int)])
  | .invokespecial a => (50, [(a : Int)])
  | .new a => (51, [(a : Int)])
  | .aload a => (52, [(a : Int)])
  | .ldc a => (53, [(a : Int)])
  | .ldc_w a => (54, [(a : Int)])
  | .dload a => (55, [(a : Int)])
  | .fload a => (56, [(a : Int)])
  | .anewarray a => (57, [(a : Int)])
  | .getstatic a => (58, [(a : Int)])
  | .dstore a => (59, [(a : Int)])
  | .fstore a => (60, [(a : Int)])
  | .ldc2_w a => (61, [(a : Int)])
  | .checkcast a => (62, [(a : Int)])
  | .iconst a => (63, [a])
  | .goto a => (64, [a])
  | .bipush a => (65, [a])
  | .sipush a => (66, [a])
  | .ifnonnull a => (67, [a])
  | .aload_n a => (68, [((a : Nat) : Int)])
  | .iload_n a => (69, [((a : Nat) : Int)])
  | .istore_n a => (70, [((a : Nat) : Int)])
  | .astore_n a => (71, [((a : Nat) : Int)])
  | .lconst a => (72, [((a : Nat) : Int)])
  | .dconst a => (73, [((a : Nat) : Int)])
  | .fconst a => (74, [((a : Nat) : Int)])
  | .ifCond c a => (75, [mCondN c, a])
  | .if_icmp c a => (76, [mCondN c, a])
  | .iinc a b => (77, [(a : Int), b])
  | .newarray t => (78, [mAtN t])
  | .dcmp c => (79, [(match c with
    | .g => (0 : Int)
    | .l => 1)])
  | .fcmp c => (80, [(match c with
    | .g => (0 : Int)
    | .l => 1)])
  | .tableswitch d a b t => (81, d :: a :: b :: t.toList)
  | .multianewarray a b => (82, [(a : Int), (b : Int)])
  | _ => (0, [])
def mBack (q : Nat) (l : List Int) : Instr := match q with
  | 1 => .ireturn
  | 2 => .iaload
  | 3 => .iadd
  | 4 => .return_
  | 5 => .isub
  | 6 => .i2l
  | 7 => .iastore
  | 8 => .lastore
  | 9 => .laload
  | 10 => .lcmp
  | 11 => .imul
  | 12 => .dup
  | 13 => .idiv
  | 14 => .irem
  | 15 => .dup2
  | 16 => .bastore
  | 17 => .pop
  | 18 => .daload
  | 19 => .i2b
  | 20 => .aaload
  | 21 => .ishr
  | 22 => .baload
  | 23 => .dreturn
  | 24 => .i2d
  | 25 => .i2f
  | 26 => .athrow
  | 27 => .freturn
  | 28 => .aastore
  | 29 => .ddiv
  | 30 => .fdiv
  | 31 => .iand
  | 32 => .dastore
  | 33 => .f2d
  | 34 => .arraylength
  | 35 => .ineg
  | 36 => .ior
  | 37 => .ishl
  | 38 => .dup_x1
  | 39 => .i2c
  | 40 => .areturn
  | 41 => .lreturn
  | 42 => .aconst_null
  | 43 => .getfield (l.getD 0 0).toNat
  | 44 => .invokevirtual (l.getD 0 0).toNat
  | 45 => .iload (l.getD 0 0).toNat
  | 46 => .invokestatic (l.getD 0 0).toNat
  | 47 => .putfield (l.getD 0 0).toNat
  | 48 => .istore (l.getD 0 0).toNat
  | 49 => .astore (l.getD 0 0).toNat
  | 50 => .invokespecial (l.getD 0 0).toNat
  | 51 => .new (l.getD 0 0).toNat
  | 52 => .aload (l.getD 0 0).toNat
  | 53 => .ldc (l.getD 0 0).toNat
  | 54 => .ldc_w (l.getD 0 0).toNat
  | 55 => .dload (l.getD 0 0).toNat
  | 56 => .fload (l.getD 0 0).toNat
  | 57 => .anewarray (l.getD 0 0).toNat
  | 58 => .getstatic (l.getD 0 0).toNat
  | 59 => .dstore (l.getD 0 0).toNat
  | 60 => .fstore (l.getD 0 0).toNat
  | 61 => .ldc2_w (l.getD 0 0).toNat
  | 62 => .checkcast (l.getD 0 0).toNat
  | 63 => .iconst (l.getD 0 0)
  | 64 => .goto (l.getD 0 0)
  | 65 => .bipush (l.getD 0 0)
  | 66 => .sipush (l.getD 0 0)
  | 67 => .ifnonnull (l.getD 0 0)
  | 68 => .aload_n (Fin.ofNat 4 (l.getD 0 0).toNat)
  | 69 => .iload_n (Fin.ofNat 4 (l.getD 0 0).toNat)
  | 70 => .istore_n (Fin.ofNat 4 (l.getD 0 0).toNat)
  | 71 => .astore_n (Fin.ofNat 4 (l.getD 0 0).toNat)
  | 72 => .lconst (Fin.ofNat 2 (l.getD 0 0).toNat)
  | 73 => .dconst (Fin.ofNat 2 (l.getD 0 0).toNat)
  | 74 => .fconst (Fin.ofNat 3 (l.getD 0 0).toNat)
  | 75 => .ifCond (mCondB (l.getD 0 0)) (l.getD 1 0)
  | 76 => .if_icmp (mCondB (l.getD 0 0)) (l.getD 1 0)
  | 77 => .iinc (l.getD 0 0).toNat (l.getD 1 0)
  | 78 => .newarray (mAtB (l.getD 0 0))
  | 79 => .dcmp (match l.getD 0 0 with
    | 0 => .g
    | _ => .l)
  | 80 => .fcmp (match l.getD 0 0 with
    | 0 => .g
    | _ => .l)
  | 81 => .tableswitch (l.getD 0 0) (l.getD 1 0) (l.getD 2 0) (l.drop 3).toArray
  | 82 => .multianewarray (l.getD 0 0).toNat (l.getD 1 0).toNat
  | _ => .nop
theorem mBack_enc (i : Instr) : (mEnc i).1 = 0 ∨ mBack (mEnc i).1 (mEnc i).2 = i := by
  cases i
  case aload_n a => exact Or.inr (match a with
    | 0 => rfl
    | 1 => rfl
    | 2 => rfl
    | 3 => rfl)
  case iload_n a => exact Or.inr (match a with
    | 0 => rfl
    | 1 => rfl
    | 2 => rfl
    | 3 => rfl)
  case istore_n a => exact Or.inr (match a with
    | 0 => rfl
    | 1 => rfl
    | 2 => rfl
    | 3 => rfl)
  case astore_n a => exact Or.inr (match a with
    | 0 => rfl
    | 1 => rfl
    | 2 => rfl
    | 3 => rfl)
  case lconst a => exact Or.inr (match a with
    | 0 => rfl
    | 1 => rfl)
  case dconst a => exact Or.inr (match a with
    | 0 => rfl
    | 1 => rfl)
  case fconst a => exact Or.inr (match a with
    | 0 => rfl
    | 1 => rfl
    | 2 => rfl)
  case ifCond c a => exact Or.inr (by cases c <;> rfl)
  case if_icmp c a => exact Or.inr (by cases c <;> rfl)
  case newarray c => exact Or.inr (by cases c <;> rfl)
  case dcmp c => exact Or.inr (by cases c <;> rfl)
  case fcmp c => exact Or.inr (by cases c <;> rfl)
  case tableswitch a b c t => exact Or.inr (by simp [mEnc, mBack])
  all_goals first | exact Or.inl rfl | exact Or.inr rfl
def mIntL (a b : List Int) : Bool := match a, b with
  | [], [] => true
  | x :: a, y :: b => (match x, y with
    | .ofNat x, .ofNat y => Nat.beq x y
    | .negSucc x, .negSucc y => Nat.beq x y
    | _, _ => false) && mIntL a b
  | _, _ => false
theorem mIntL_eq : ∀ (a b : List Int), mIntL a b = true → a = b
  | [], [], _ => rfl
  | [], _ :: _, h => by cases h
  | _ :: _, [], h => by cases h
  | x :: a, y :: b, h => by
    unfold mIntL at h
    rw [Bool.and_eq_true] at h
    rw [mIntL_eq a b h.2]
    congr 1
    match x, y, h.1 with
    | .ofNat x, .ofNat y, h => rw [Nat.eq_of_beq_eq_true h]
    | .negSucc x, .negSucc y, h => rw [Nat.eq_of_beq_eq_true h]
    | .ofNat _, .negSucc _, h => cases h
    | .negSucc _, .ofNat _, h => cases h
def mSame (i j : Instr) : Bool := match mEnc i, mEnc j with
  | (a, l), (b, r) => Nat.beq a b && Nat.blt 0 a && mIntL l r
theorem mSame_eq {i j : Instr} (h : mSame i j = true) : i = j := by
  unfold mSame at h
  simp only [Bool.and_eq_true] at h
  have e1 := Nat.eq_of_beq_eq_true h.1.1
  have e2 := mIntL_eq _ _ h.2
  have e0 : 0 < (mEnc i).1 := Nat.le_of_ble_eq_true h.1.2
  have h1 := (mBack_enc i).resolve_left (by omega)
  have h2 := (mBack_enc j).resolve_left (by omega)
  rw [← h1, ← h2, e1, e2]
def mDec1 (y pc : Nat) : Bool := match cd y pc with
  | none => true
  | some ins => match decode (mByt y) pc with
    | .ok (i, n) => mSame i ins && (Nat.beq n (mLenI ins) || mSwi ins)
    | _ => false
def mDecL (y a : Nat) : Nat → Bool
  | 0 => true
  | n + 1 => mDec1 y (a + n) && mDecL y a n
theorem mDecL_ok {y a : Nat} : ∀ (n : Nat), mDecL y a n = true → ∀ pc, a ≤ pc → pc < a + n → mDec1 y pc = true
  | 0, _, pc, h1, h2 => by omega
  | n + 1, h, pc, h1, h2 => by
    unfold mDecL at h
    rw [Bool.and_eq_true] at h
    by_cases e : pc = a + n
    · rw [e]; exact h.1
    · exact mDecL_ok n h.2 pc h1 (by omega)
theorem mDec1_ok {y pc : Nat} {ins : Instr} (h : mDec1 y pc = true) (hc : cd y pc = some ins) : ∃ n, decode (mByt y) pc = .ok (ins, n) ∧ (n = mLenI ins ∨ mSwi ins = true) := by
  unfold mDec1 at h
  rw [hc] at h
  dsimp only at h
  split at h
  · rename_i i n he
    simp only [Bool.and_eq_true, Bool.or_eq_true] at h
    obtain ⟨h1, h2⟩ := h
    cases mSame_eq h1
    exact ⟨n, he, h2.imp Nat.eq_of_beq_eq_true id⟩
  · cases h
def mTop (y : Nat) : Nat := 32 * (mCode y).length
theorem cd_top {y pc : Nat} {ins : Instr} (hc : cd y pc = some ins) : pc < mTop y := by
  unfold mTop
  rcases Nat.lt_or_ge pc (32 * (mCode y).length) with h | h
  · exact h
  · unfold cd at hc
    rw [List.getD_eq_getElem?_getD (l := mCode y), List.getElem?_eq_none (show (mCode y).length ≤ pc / 32 by omega)] at hc
    simp at hc
def mDecM (y : Nat) : Bool := mDecL y 0 (mTop y)
