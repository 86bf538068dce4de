/-! A SMALL MACHINE, over the claim's own instructions: the cells that the system reaches have fixed names (family, number, member); wp n D m pc lo st h Q: from frame (m, pc, lo, st) over the memory h the small machine ends within n steps and D calls deep, and Q holds of what it answers. -/
abbrev mRf : Type := Nat × Nat × Nat
abbrev mV : Type := Int32 ⊕ (Option mRf ⊕ (Int64 ⊕ (UInt32 ⊕ UInt64)))
abbrev mI (x : Int32) : mV := .inl x
abbrev mR (f i j : Nat) : mV := .inr (.inl (some (f, i, j)))
abbrev mL (x : Int64) : mV := .inr (.inr (.inl x))
abbrev mF (x : UInt32) : mV := .inr (.inr (.inr (.inl x)))
abbrev mD (x : UInt64) : mV := .inr (.inr (.inr (.inr x)))
abbrev mLo : Type := List (Option mV)
abbrev mSt : Type := List mV
abbrev mMi : Type := Nat → Nat → Nat → Nat → Int32
/-- what the machine itself counts: A0, the base of the World made last; names given, cells, slots -/
abbrev mRm : Type := (Nat × Nat) × Nat × Nat × Nat
/-- which Worlds stand; kinds of the cells named by their number; the texts' rows -/
abbrev mDy : Type := (Nat → Bool) × (Nat → Option (Nat × Nat)) × (Nat → Nat)
abbrev mRs : Type := (Nat × Nat) × mDy × Nat × Nat × Nat
abbrev mH : Type := ((Nat → Nat → Nat → Option (Nat × Nat)) × (Nat → Nat → Nat → Nat → Option mRf)) × (mMi × mRm)
abbrev mOut : Type := Option mV ⊕ Nat
/-- what one step does: goes on (pc, locals, stack, memory); ends (answer, memory); calls (method, arguments, then pc, locals, stack; memory) -/
abbrev mS : Type := (Nat × mLo × mSt × mH) ⊕ ((mOut × mH) ⊕ (Nat × List mV × Nat × mLo × mSt × mH))
def mck (b : Bool) (P : Prop) : Prop := match b with
  | true => P
  | false => False
def mif (b : Bool) (P Q : Prop) : Prop := match b with
  | true => P
  | false => Q
/-- one place of the memory of numbers -/
def mset (mi : mMi) (f i j p : Nat) (v : Int32) : mMi := fun f' i' j' p' => match Nat.beq f f' && Nat.beq i i' && Nat.beq j j' && Nat.beq p p' with
  | true => v
  | false => mi f' i' j' p'
def mfill (mi : mMi) (f i j n : Nat) (v : Int32) : mMi := fun f' i' j' p' => match Nat.beq f f' && Nat.beq i i' && Nat.beq j j' && Nat.blt p' n with
  | true => v
  | false => mi f' i' j' p'
/-- n places from (f i j) at sp laid onto (f2 i2 j2) from dp on -/
def mcopy (mi : mMi) (f i j sp f2 i2 j2 dp n : Nat) : mMi := fun f' i' j' p' => match Nat.beq f2 f' && Nat.beq i2 i' && Nat.beq j2 j' && Nat.ble dp p' && Nat.blt p' (dp + n) with
  | true => mi f i j (sp + (p' - dp))
  | false => mi f' i' j' p'
def mrset (rf : Nat → Nat → Nat → Nat → Option mRf) (f i j p : Nat) (v : Option mRf) : Nat → Nat → Nat → Nat → Option mRf := fun f' i' j' p' => match Nat.beq f f' && Nat.beq i i' && Nat.beq j j' && Nat.beq p p' with
  | true => v
  | false => rf f' i' j' p'
def msset (sh : Nat → Nat → Nat → Option (Nat × Nat)) (f i j : Nat) (v : Nat × Nat) : Nat → Nat → Nat → Option (Nat × Nat) := fun f' i' j' => match Nat.beq f f' && Nat.beq i i' && Nat.beq j j' with
  | true => some v
  | false => sh f' i' j'
abbrev mix (x : Int32) : Nat := x.toNatClampNeg
def mIn (x : Int32) (n : Nat) : Bool := !(decide (x < 0)) && Nat.blt (mix x) n
def mCat (v : mV) : Nat := match v with
  | .inr (.inr (.inl _)) => 2
  | .inr (.inr (.inr (.inr _))) => 2
  | _ => 1
def mCat2 (v : Option (Option mV)) : Bool := match v with
  | some (some v) => Nat.beq (mCat v) 2
  | _ => false
/-- a store at k doesn't cut a long or a double that begins before k -/
def mOkSt (lo : mLo) (k : Nat) : Bool := match k with
  | 0 => true
  | k + 1 => !(mCat2 lo[k]?)
def mLook {α : Type} (l : List (Nat × α)) (ix : Nat) : Option α := match l with
  | [] => none
  | (i, x) :: r => match Nat.beq i ix with
    | true => some x
    | false => mLook r ix
