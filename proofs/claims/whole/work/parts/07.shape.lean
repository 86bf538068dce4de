/-! THE SHAPE of what the two constructors make, by program: family 0 castles (number i), 1 rules, 2 what is single in the class, 3 what was there before (the script, two tables, texts), 4 the reference, 5 the law's two rows. -/
def SH0 : List (Option (Nat × Nat)) := [some (1, 0), some (3, 0), some (20, 96), some (20, 96), some (20, 96), some (20, 96), some (20, 96), some (2, 0), some (20, 150), some (20, 4), some (0, 0), some (20, 40), some (20, 40), some (20, 40), some (20, 40)]
def SH1 : List (Option (Nat × Nat)) := [some (7, 0), some (20, 6), some (20, 40), some (20, 40), some (20, 40)]
def SH2 : List (List (Option (Nat × Nat))) := [[some (11, 0)], [some (5, 0), some (22, 900)], [some (8, 0), some (20, 96), some (20, 96)], [some (6, 0)], [some (10, 0)], [some (4, 0), some (25, 8)], [some (25, 2), some (21, 2)], [some (9, 0), some (22, 240)]]
def SH4 : List (Option (Nat × Nat)) := [some (12, 0), some (20, 240), some (20, 40), some (20, 918), some (20, 918), some (20, 9180), some (21, 2), some (20, 900), some (20, 240), some (20, 40), some (20, 918), some (20, 7), some (20, 96), some (20, 96), some (20, 100), some (20, 600)]
def SH (L : Nat) (f i j : Nat) : Option (Nat × Nat) := match f with
  | 0 => match Nat.blt i 13 with
    | true => SH0.getD j none
    | false => none
  | 1 => match Nat.blt i 2 with
    | true => SH1.getD j none
    | false => none
  | 2 => (SH2.getD i []).getD j none
  | 3 => match i with
    | 0 => some (30, L)
    | 1 => some (30, 6)
    | 2 => some (30, 6)
    | _ => none
  | 4 => match i with
    | 0 => SH4.getD j none
    | _ => none
  | 5 => match i, j with
    | 0, 0 => some (23, 1)
    | 1, 0 => some (24, 1)
    | _, _ => none
  | _ => none
/-- the rules of a castle: the parser's castle has its own -/
def RO (i : Nat) : Nat := match Nat.beq i 2 with
  | true => 1
  | false => 0
def RF0 (i : Nat) : List (List (Option mRf)) := [[some (1, RO i, 0), some (2, 2, 0), some (0, i, 10), some (0, i, 1), some (0, i, 7)],
  [some (0, i, 2), some (0, i, 3), some (0, i, 4), some (0, i, 5), some (0, i, 6)],
  [],
  [],
  [],
  [],
  [],
  [some (0, i, 8), some (0, i, 9)],
  [],
  [],
  [some (1, RO i, 0), some (0, i, 11), some (0, i, 12), some (0, i, 13), some (0, i, 14)],
  [],
  [],
  [],
  []]
def RF1 (i : Nat) : List (Option mRf) := [some (1, i, 1), some (1, i, 2), some (1, i, 3), some (1, i, 4)]
def RF2 : List (List (Option mRf)) := [[some (2, 1, 0), some (1, 0, 0), some (2, 2, 0), some (2, 3, 0), some (0, 0, 0), some (0, 1, 0), some (2, 5, 0), some (2, 6, 0), some (2, 6, 1), some (2, 7, 0)],
  [some (2, 1, 1)],
  [some (2, 2, 1), some (2, 2, 2)],
  [some (1, 1, 0), some (0, 2, 0), some (2, 4, 0)],
  [some (2, 1, 0)],
  [some (2, 5, 1)],
  [some (0, 11, 0), some (0, 12, 0)],
  [some (2, 7, 1)]]
def RF4 : List (Option mRf) := [none, none, none, none, none, none, none, none, none, some (4, 0, 1), some (4, 0, 2), some (4, 0, 3), some (4, 0, 4), some (4, 0, 5), none, some (4, 0, 6), some (4, 0, 7), none, none, none, none, none, none, none, none, none, none, some (4, 0, 8), some (4, 0, 9), some (4, 0, 10), some (4, 0, 11), some (4, 0, 12), some (4, 0, 13), some (4, 0, 14), none, some (4, 0, 15)]
def RF (f i j q : Nat) : Option mRf := match f with
  | 0 => match Nat.blt i 13 with
    | true => ((RF0 i).getD j []).getD q none
    | false => none
  | 1 => match Nat.blt i 2, j with
    | true, 0 => (RF1 i).getD q none
    | _, _ => none
  | 2 => match j with
    | 0 => match i with
      | 6 => match Nat.blt q 2 with
        | true => some (0, 11 + q, 0)
        | false => none
      | _ => (RF2.getD i []).getD q none
    | 1 => match i with
      | 5 => match Nat.blt q 8 with
        | true => some (0, 3 + q, 0)
        | false => none
      | _ => none
    | _ => none
  | 4 => match j with
    | 0 => RF4.getD q none
    | _ => none
  | _ => none
/-- the memory behind the constructors: L ints of script, the numbers mi, the rest rs -/
abbrev hp (L : Nat) (mi : mMi) (rs : mRs) : mH := ((SH L, RF), (mi, rs))
