/-! THE SHAPE of what the two constructors make, by program: family 0 castles (number i), 1 rules, 2 what is single in the class, 3 what was there before (the script, two tables, texts), 4 the reference, 5 the law's two rows. -/
def SH0 : List (Option (Nat × Nat)) := [some (1, 0), some (3, 0), some (20, 96), some (20, 96), some (20, 96), some (20, 96), some (20, 96), some (2, 0), some (20, 150), some (20, 4), some (0, 0), some (20, 40), some (20, 40), some (20, 40), some (20, 40)]
def SH1 : List (Option (Nat × Nat)) := [some (7, 0), some (20, 6), some (20, 40), some (20, 40), some (20, 40)]
def SH2 : List (List (Option (Nat × Nat))) := [[some (11, 0)], [some (5, 0), some (22, 900)], [some (8, 0), some (20, 96), some (20, 96)], [some (6, 0)], [some (10, 0)], [some (4, 0), some (25, 8)], [some (25, 2), some (21, 2)], [some (9, 0), some (22, 240)]]
def SHc (f i j : Nat) : Option (Nat × Nat) := match f with
  | 0 => match Nat.blt i 13 with
    | true => SH0.getD j none
    | false => none
  | 1 => match Nat.blt i 2 with
    | true => SH1.getD j none
    | false => none
  | 2 => (SH2.getD i []).getD j none
  | _ => none
/-- a World: itself, set, stiff .. heap, one .. log, causes -/
def SH6 : List (Option (Nat × Nat)) := [some (13, 0), some (20, 6), some (20, 40), some (20, 40), some (20, 40), some (20, 40), some (20, 40), some (20, 40), some (20, 40), some (20, 40), some (23, 10), some (23, 10), some (23, 10), some (23, 10), some (23, 10), some (23, 30), some (20, 4)]
/-- what stands: b: the class's objects; the Worlds of dy; what else was made, by its number -/
def SHd (b : Bool) (L : Nat) (dy : mDy) (f i j : Nat) : Option (Nat × Nat) := match Nat.blt f 3 with
  | true => match b with
    | true => SHc f i j
    | false => none
  | false => match Nat.blt f 20 with
    | false => match dy.1 i with
      | true => match Nat.beq f 25 with
        | true => match Nat.blt j 30 with
          | true => some (20, 5)
          | false => none
        | false => match Nat.blt f 25 && Nat.blt j 10 with
          | true => some (20, 14)
          | false => none
      | false => none
    | true => match f with
      | 3 => match i with
        | 0 => some (30, L)
        | 1 => some (30, 6)
        | 2 => some (30, 6)
        | 4 => some (24, 100)
        | 5 => some (24, 100)
        | _ => none
      | 6 => match dy.1 i with
        | true => SH6.getD j none
        | false => none
      | 7 => match i, j with
        | 0, 0 => some (12, 0)
        | _, _ => none
      | 9 => match j with
        | 0 => dy.2.1 i
        | _ => none
      | _ => none
/-- the rules of a castle: the parser's castle has its own -/
def RO (i : Nat) : Nat := match Nat.beq i 2 with
  | true => 1
  | false => 0
def RF0 (i : Nat) : List (List (Option mRf)) := [[some (1, RO i, 0), some (2, 2, 0), some (0, i, 10), some (0, i, 1), some (0, i, 7)],
  [some (0, i, 2), some (0, i, 3), some (0, i, 4), some (0, i, 5), some (0, i, 6)],
  [],
  [],
  [],
  [],
  [],
  [some (0, i, 8), some (0, i, 9)],
  [],
  [],
  [some (1, RO i, 0), some (0, i, 11), some (0, i, 12), some (0, i, 13), some (0, i, 14)],
  [],
  [],
  [],
  []]
def RF1 (i : Nat) : List (Option mRf) := [some (1, i, 1), some (1, i, 2), some (1, i, 3), some (1, i, 4)]
def RF2 : List (List (Option mRf)) := [[some (2, 1, 0), some (1, 0, 0), some (2, 2, 0), some (2, 3, 0), some (0, 0, 0), some (0, 1, 0), some (2, 5, 0), some (2, 6, 0), some (2, 6, 1), some (2, 7, 0)],
  [some (2, 1, 1)],
  [some (2, 2, 1), some (2, 2, 2)],
  [some (1, 1, 0), some (0, 2, 0), some (2, 4, 0)],
  [some (2, 1, 0)],
  [some (2, 5, 1)],
  [some (0, 11, 0), some (0, 12, 0)],
  [some (2, 7, 1)]]
def RF (f i j q : Nat) : Option mRf := match f with
  | 0 => match Nat.blt i 13 with
    | true => ((RF0 i).getD j []).getD q none
    | false => none
  | 1 => match Nat.blt i 2, j with
    | true, 0 => (RF1 i).getD q none
    | _, _ => none
  | 2 => match j with
    | 0 => match i with
      | 6 => match Nat.blt q 2 with
        | true => some (0, 11 + q, 0)
        | false => none
      | _ => (RF2.getD i []).getD q none
    | 1 => match i with
      | 5 => match Nat.blt q 8 with
        | true => some (0, 3 + q, 0)
        | false => none
      | _ => none
    | _ => none
  | _ => none
/-- references: a World's first one is its text -/
def RFd (b : Bool) (dy : mDy) (f i j q : Nat) : Option mRf := match Nat.blt f 3 with
  | true => match b with
    | true => RF f i j q
    | false => none
  | false => match f with
    | 6 => match j with
      | 0 => match Nat.beq q 0 with
        | true => some (9, i + 1, 0)
        | false => match Nat.blt q 17 with
          | true => some (6, i, q)
          | false => none
      | _ => match Nat.blt 9 j && Nat.blt j 16 with
        | true => some (10 + j, i, q)
        | false => none
    | 7 => match j, q with
      | 0, 0 => some (3, 0, 0)
      | _, _ => none
    | 9 => match j, q with
      | 0, 0 => match dy.2.2 i with
        | 0 => none
        | v + 1 => some (9, v, 0)
      | _, _ => none
    | _ => none
/-- the memory: what stands, the numbers mi, the rest rs -/
abbrev hpX (b : Bool) (L : Nat) (mi : mMi) (rs : mRs) : mH := ((SHd b L rs.2.1, RFd b rs.2.1), (mi, (rs.1, rs.2.2)))
abbrev hp (L : Nat) (mi : mMi) (rs : mRs) : mH := hpX true L mi rs
