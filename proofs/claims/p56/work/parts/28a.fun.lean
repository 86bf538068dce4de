/-! METHODS AS FUNCTIONS, by program. -/
def F63 (x1 : Int32) (mi : mMi) (rs : mRs) : mRz := mifO (decide (((mi 2 1 0 1) + (N 4)) ≤ (N 900))) (mckO (mIn (mi 2 1 0 1) 900) (mckO (mIn ((mi 2 1 0 1) + (N 1)) 900) (mckO (mIn ((mi 2 1 0 1) + (N 2)) 900) (mckO (mIn ((mi 2 1 0 1) + (N 3)) 900) (some (.inl none, (mset (mset (mset (mset (mset mi 2 1 1 (mix (mi 2 1 0 1)) (Int8.toInt32 (Int32.toInt8 (Int8.toInt32 (Int32.toInt8 (x1 >>> ((N 24) &&& 31))))))) 2 1 1 (mix ((mi 2 1 0 1) + (N 1))) (Int8.toInt32 (Int32.toInt8 (Int8.toInt32 (Int32.toInt8 (x1 >>> ((N 16) &&& 31))))))) 2 1 1 (mix ((mi 2 1 0 1) + (N 2))) (Int8.toInt32 (Int32.toInt8 (Int8.toInt32 (Int32.toInt8 (x1 >>> ((N 8) &&& 31))))))) 2 1 1 (mix ((mi 2 1 0 1) + (N 3))) (Int8.toInt32 (Int32.toInt8 (Int8.toInt32 (Int32.toInt8 x1))))) 2 1 0 1 ((mi 2 1 0 1) + (N 4))), rs)))))) (some (.inl none, mi, rs))
set_option maxRecDepth 100000 in
theorem R63 (L : Nat) (x1 : Int32) (mi : mMi) (rs : mRs) : Does 63 [mR 2 1 0, mI x1] (true, L) mi rs (F63 x1 mi rs) 1 :=
  Does.of fun D K hD => (Ok.mp (B63_0).mpr (Ok.if (Ok.mp (B63_13).mpr (Ok.gd (Ok.gd (Ok.gd (Ok.gd Ok.leaf))))) (Ok.mp (B63_12).mpr Ok.leaf)))
def F99 (x1 : Int32) (x2 : Int32) (x3 : Int32) (x4 : Int32) (x5 : Int32) (mi : mMi) (rs : mRs) : mRz := mifO (decide (((mi 2 1 0 1) + (N 20)) ≤ (N 900))) (bV (F63 x1 mi rs) (fun m1 r1 => bV (F63 x2 m1 r1) (fun m2 r2 => bV (F63 x3 m2 r2) (fun m3 r3 => bV (F63 x4 m3 r3) (fun m4 r4 => bV (F63 x5 m4 r4) (fun m5 r5 => some (.inl (some (mI (m5 2 1 0 1))), m5, r5))))))) (some (.inl (some (mI (I (-1)))), mi, rs))
set_option maxRecDepth 100000 in
theorem R99 (L : Nat) (x1 : Int32) (x2 : Int32) (x3 : Int32) (x4 : Int32) (x5 : Int32) (mi : mMi) (rs : mRs) : Does 99 [mR 2 0 0, mI x1, mI x2, mI x3, mI x4, mI x5] (true, L) mi rs (F99 x1 x2 x3 x4 x5 mi rs) 2 :=
  Does.of fun D K hD => (Ok.mp (B99_0).mpr (Ok.if (Ok.mp (B99_18).mpr (Ok.callV (R63 L x1 mi rs) (by omega) fun m1 r1 => (Ok.mp (B99_26).mpr (Ok.callV (R63 L x2 m1 r1) (by omega) fun m2 r2 => (Ok.mp (B99_34).mpr (Ok.callV (R63 L x3 m2 r2) (by omega) fun m3 r3 => (Ok.mp (B99_42).mpr (Ok.callV (R63 L x4 m3 r3) (by omega) fun m4 r4 => (Ok.mp (B99_51).mpr (Ok.callV (R63 L x5 m4 r4) (by omega) fun m5 r5 => (Ok.mp (B99_60).mpr Ok.leaf))))))))))) (Ok.mp (B99_16).mpr Ok.leaf)))
def F100 (mi : mMi) (rs : mRs) : mRz := some (.inl (some (mI (mi 2 3 0 3))), mi, rs)
set_option maxRecDepth 100000 in
theorem R100 (L : Nat) (mi : mMi) (rs : mRs) : Does 100 [mR 2 0 0] (true, L) mi rs (F100  mi rs) 1 :=
  Does.of fun D K hD => (Ok.mp (B100_0).mpr Ok.leaf)
def F101 (mi : mMi) (rs : mRs) : mRz := some (.inl (some (mI (mi 2 3 0 4))), mi, rs)
set_option maxRecDepth 100000 in
theorem R101 (L : Nat) (mi : mMi) (rs : mRs) : Does 101 [mR 2 0 0] (true, L) mi rs (F101  mi rs) 1 :=
  Does.of fun D K hD => (Ok.mp (B101_0).mpr Ok.leaf)
def F102 (mi : mMi) (rs : mRs) : mRz := some (.inl (some (mI (mi 2 1 0 1))), mi, rs)
def F103 (mi : mMi) (rs : mRs) : mRz := some (.inl (some (mI (mi 2 5 0 1))), mi, rs)
set_option maxRecDepth 100000 in
theorem R103 (L : Nat) (mi : mMi) (rs : mRs) : Does 103 [mR 2 0 0] (true, L) mi rs (F103  mi rs) 1 :=
  Does.of fun D K hD => (Ok.mp (B103_0).mpr Ok.leaf)
def F106 (x0 : Int32) (x1 : Int32) (mi : mMi) (rs : mRs) : mRz := mifO (decide (x0 < (N 0))) (rX 2 mi (rsT rs)) (mifO (decide (x0 < x1)) (some (.inl none, mi, rs)) (rX 2 mi (rsT rs)))
set_option maxRecDepth 100000 in
theorem R106 (L : Nat) (x0 : Int32) (x1 : Int32) (mi : mMi) (rs : mRs) : Does 106 [mI x0, mI x1] (true, L) mi rs (F106 x0 x1 mi rs) 1 :=
  Does.of fun D K hD => (Ok.mp (B106_0).mpr (Ok.if (Ok.mp (B106_9 (qq := (rs).1) (dy := (rs).2.1) (nx := (rs).2.2.1) (cc := (rs).2.2.2.1) (ss := (rs).2.2.2.2)).mpr Ok.leaf) (Ok.mp (B106_4).mpr (Ok.if (Ok.mp (B106_20).mpr Ok.leaf) (Ok.mp (B106_9 (qq := (rs).1) (dy := (rs).2.1) (nx := (rs).2.2.1) (cc := (rs).2.2.2.1) (ss := (rs).2.2.2.2)).mpr Ok.leaf)))))
def F105 (x1 : Int32) (mi : mMi) (rs : mRs) : mRz := bV (F106 x1 ((mi 2 1 0 1) + (N 1)) mi rs) (fun m1 r1 => some (.inl none, m1, r1))
set_option maxRecDepth 100000 in
theorem R105 (L : Nat) (x1 : Int32) (mi : mMi) (rs : mRs) : Does 105 [mR 2 0 0, mI x1] (true, L) mi rs (F105 x1 mi rs) 2 :=
  Does.of fun D K hD => (Ok.mp (B105_0).mpr (Ok.callV (R106 L x1 ((mi 2 1 0 1) + (N 1)) mi rs) (by omega) fun m1 r1 => (Ok.mp (B105_13).mpr Ok.leaf)))
def F78 (i : Nat) (mi : mMi) (rs : mRs) : mRz := some (.inl none, (mset (mfill mi 1 i 1 6 (N 0)) 1 i 0 4 (N 0)), rs)
set_option maxRecDepth 100000 in
theorem R78 (i : Nat) (hi : i < 2) (L : Nat) (mi : mMi) (rs : mRs) : Does 78 [mR 1 i 0] (true, L) mi rs (F78 i  mi rs) 1 :=
  Does.of fun D K hD => (Ok.mp (B78_0 hi).mpr Ok.leaf)
def F1 (i : Nat) (mi : mMi) (rs : mRs) : mRz := some (.inl none, (mset (mfill (mfill mi 0 i 12 40 (N 0)) 0 i 13 40 (I (-1))) 0 i 10 5 (N 0)), rs)
set_option maxRecDepth 100000 in
theorem R1 (i : Nat) (hi : i < 3) (L : Nat) (mi : mMi) (rs : mRs) : Does 1 [mR 0 i 10] (true, L) mi rs (F1 i  mi rs) 1 :=
  Does.of fun D K hD => (Ok.mp (B1_0 hi).mpr Ok.leaf)
def F50 (i : Nat) (mi : mMi) (rs : mRs) : mRz := some (.inl none, (mfill (mfill mi 0 i 2 96 (I (-1))) 0 i 6 96 (I (-1))), rs)
set_option maxRecDepth 100000 in
theorem R50 (i : Nat) (hi : i < 3) (L : Nat) (mi : mMi) (rs : mRs) : Does 50 [mR 0 i 1] (true, L) mi rs (F50 i  mi rs) 1 :=
  Does.of fun D K hD => (Ok.mp (B50_0 hi).mpr Ok.leaf)
def F43 (i : Nat) (mi : mMi) (rs : mRs) : mRz := some (.inl none, (mset (mfill mi 0 i 9 4 (N 0)) 0 i 7 2 (N 0)), rs)
set_option maxRecDepth 100000 in
theorem R43 (i : Nat) (hi : i < 3) (L : Nat) (mi : mMi) (rs : mRs) : Does 43 [mR 0 i 7] (true, L) mi rs (F43 i  mi rs) 1 :=
  Does.of fun D K hD => (Ok.mp (B43_0 hi).mpr Ok.leaf)
def F11 (i : Nat) (mi : mMi) (rs : mRs) : mRz := bV (F1 i mi rs) (fun m1 r1 => bV (F50 i m1 r1) (fun m2 r2 => bV (F43 i m2 r2) (fun m3 r3 => some (.inl none, (mset (mset m3 0 i 0 5 (N 0)) 0 i 0 6 (N 0)), r3))))
set_option maxRecDepth 100000 in
theorem R11 (i : Nat) (hi : i < 3) (L : Nat) (mi : mMi) (rs : mRs) : Does 11 [mR 0 i 0] (true, L) mi rs (F11 i  mi rs) 2 :=
  Does.of fun D K hD => (Ok.mp (B11_0 hi).mpr (Ok.callV (R1 i hi L mi rs) (by omega) fun m1 r1 => (Ok.mp (B11_7 hi).mpr (Ok.callV (R50 i hi L m1 r1) (by omega) fun m2 r2 => (Ok.mp (B11_14 hi).mpr (Ok.callV (R43 i hi L m2 r2) (by omega) fun m3 r3 => (Ok.mp (B11_21 hi).mpr Ok.leaf)))))))
def F93 (x1 : Int32) (mi : mMi) (rs : mRs) : mRz := some (.inl none, (mset (mset mi 2 4 0 1 (if (mi 2 1 0 1) < x1 then (mi 2 1 0 1) else x1)) 2 4 0 2 (N 0)), rs)
set_option maxRecDepth 100000 in
theorem R93 (L : Nat) (x1 : Int32) (mi : mMi) (rs : mRs) : Does 93 [mR 2 4 0, mI x1] (true, L) mi rs (F93 x1 mi rs) 1 :=
  Does.of fun D K hD => (Ok.mp (B93_0).mpr Ok.leaf)
def F64 (x1 : Int32) (mi : mMi) (rs : mRs) : mRz := mifO (decide (x1 < (N 0))) (some (.inl (some (mI (N 0))), mi, rs)) (mifO (decide ((mi 2 1 0 1) ≤ x1)) (some (.inl (some (mI (N 0))), mi, rs)) (mckO (mIn x1 900) (some (.inl (some (mI (mi 2 1 1 (mix x1)))), mi, rs))))
set_option maxRecDepth 100000 in
theorem R64 (L : Nat) (x1 : Int32) (mi : mMi) (rs : mRs) : Does 64 [mR 2 1 0, mI x1] (true, L) mi rs (F64 x1 mi rs) 1 :=
  Does.of fun D K hD => (Ok.mp (B64_0).mpr (Ok.if (Ok.mp (B64_21).mpr (Ok.mp (B64_22).mpr Ok.leaf)) (Ok.mp (B64_4).mpr (Ok.if (Ok.mp (B64_21).mpr (Ok.mp (B64_22).mpr Ok.leaf)) (Ok.mp (B64_12).mpr (Ok.gd (Ok.mp (B64_22).mpr Ok.leaf)))))))
def F95_5 : Nat → Int32 → Int32 → Int32 → mMi → mRs → mRz
  | 0, _, _, _, _, _ => none
  | f + 1, x1, x2, x3, mi, rs => mifO (decide ((mi 2 4 0 1) ≤ x3)) (some (.inl (some (mI x3)), mi, rs)) (mckO (mIn x3 900) (mifO (decide ((mi 2 1 1 (mix x3)) < x1)) (some (.inl (some (mI x3)), mi, rs)) (mckO (mIn x3 900) (mifO (decide (x2 < (mi 2 1 1 (mix x3)))) (some (.inl (some (mI x3)), mi, rs)) (F95_5 f x1 x2 (x3 + (N 1)) mi rs)))))
set_option maxRecDepth 100000 in
theorem R95_5 (L : Nat) : ∀ f : Nat, (∀ (x1 : Int32) (x2 : Int32) (x3 : Int32) (mi : mMi) (rs : mRs) (D : Nat) (K : mOut → mH → Prop), 0 ≤ D → Ok (F95_5 f x1 x2 x3 mi rs) (true, L) K (WP (D + 1) 95 5 [some (mR 2 4 0), some (mI x1), some (mI x2), some (mI x3)] [] (hp L mi rs) K)) := by
  intro f
  induction f with
  | zero => intro x1 x2 x3 mi rs D K hD; exact Ok.no
  | succ f ih =>
    intro x1 x2 x3 mi rs D K hD
    unfold F95_5
    exact (Ok.mp (B95_5).mpr (Ok.if (Ok.mp (B95_45).mpr Ok.leaf) (Ok.mp (B95_13).mpr (Ok.gd (Ok.if (Ok.mp (B95_45).mpr Ok.leaf) (Ok.mp (B95_26).mpr (Ok.gd (Ok.if (Ok.mp (B95_45).mpr Ok.leaf) (Ok.mp (B95_39).mpr (ih x1 x2 (x3 + (N 1)) mi rs  D K (by omega)))))))))))
def F95 (x1 : Int32) (x2 : Int32) (mi : mMi) (rs : mRs) : mRz := F95_5 FU x1 x2 (mi 2 4 0 3) mi rs
set_option maxRecDepth 100000 in
theorem R95 (L : Nat) (x1 : Int32) (x2 : Int32) (mi : mMi) (rs : mRs) : Does 95 [mR 2 4 0, mI x1, mI x2] (true, L) mi rs (F95 x1 x2 mi rs) 1 :=
  Does.of fun D K hD => (Ok.mp (B95_0).mpr (R95_5 L FU x1 x2 (mi 2 4 0 3) mi rs  D K (by omega)))
def F65_32 : Nat → Int32 → Int32 → Int32 → Int32 → mMi → mRs → mRz
  | 0, _, _, _, _, _, _ => none
  | f + 1, x1, x2, x3, x4, mi, rs => mifO (decide ((x1 + x2) ≤ x4)) (some (.inl (some (mI x3)), mi, rs)) (mckO (mIn x4 900) (mifO (decide ((mi 2 1 1 (mix x4)) < (N 97))) (some (.inl (some (mI (I (-1)))), mi, rs)) (mifO (decide ((mi 2 1 1 (mix x4)) ≤ (N 122))) (F65_32 f x1 x2 ((x3 <<< ((N 5) &&& 31)) ||| ((mi 2 1 1 (mix x4)) - (N 96))) (x4 + (N 1)) mi rs) (some (.inl (some (mI (I (-1)))), mi, rs)))))
set_option maxRecDepth 100000 in
theorem R65_32 (L : Nat) : ∀ f : Nat, (∀ (x1 : Int32) (x2 : Int32) (x3 : Int32) (x4 : Int32) (mi : mMi) (rs : mRs) (l5 : Option mV) (_ : mC2 l5 = true) (D : Nat) (K : mOut → mH → Prop), 0 ≤ D → Ok (F65_32 f x1 x2 x3 x4 mi rs) (true, L) K (WP (D + 1) 65 32 [some (mR 2 1 0), some (mI x1), some (mI x2), some (mI x3), some (mI x4), l5] [] (hp L mi rs) K)) := by
  intro f
  induction f with
  | zero => intro x1 x2 x3 x4 mi rs l5 hl5 D K hD; exact Ok.no
  | succ f ih =>
    intro x1 x2 x3 x4 mi rs l5 hl5 D K hD
    unfold F65_32
    exact (Ok.mp (B65_32).mpr (Ok.if (Ok.mp (B65_81).mpr Ok.leaf) (Ok.mp (B65_40).mpr (Ok.gd (Ok.if (Ok.mp (B65_63).mpr Ok.leaf) (Ok.mp (B65_56).mpr (Ok.if (Ok.mp (B65_65).mpr (ih x1 x2 ((x3 <<< ((N 5) &&& 31)) ||| ((mi 2 1 1 (mix x4)) - (N 96))) (x4 + (N 1)) mi rs (some (mI (mi 2 1 1 (mix x4)))) rfl D K (by omega))) (Ok.mp (B65_63).mpr Ok.leaf))))))))
def F65 (x1 : Int32) (x2 : Int32) (mi : mMi) (rs : mRs) : mRz := mifO (decide (x2 < (N 1))) (some (.inl (some (mI (I (-1)))), mi, rs)) (mifO (decide ((N 6) < x2)) (some (.inl (some (mI (I (-1)))), mi, rs)) (mifO (decide (x1 < (N 0))) (some (.inl (some (mI (I (-1)))), mi, rs)) (mifO (decide (x1 ≤ ((mi 2 1 0 1) - x2))) (F65_32 FU x1 x2 (N 0) x1 mi rs) (some (.inl (some (mI (I (-1)))), mi, rs)))))
set_option maxRecDepth 100000 in
theorem R65 (L : Nat) (x1 : Int32) (x2 : Int32) (mi : mMi) (rs : mRs) : Does 65 [mR 2 1 0, mI x1, mI x2] (true, L) mi rs (F65 x1 x2 mi rs) 1 :=
  Does.of fun D K hD => (Ok.mp (B65_0).mpr (Ok.if (Ok.mp (B65_25).mpr Ok.leaf) (Ok.mp (B65_5).mpr (Ok.if (Ok.mp (B65_25).mpr Ok.leaf) (Ok.mp (B65_11).mpr (Ok.if (Ok.mp (B65_25).mpr Ok.leaf) (Ok.mp (B65_15).mpr (Ok.if (Ok.mp (B65_27).mpr (R65_32 L FU x1 x2 (N 0) x1 mi rs none rfl D K (by omega))) (Ok.mp (B65_25).mpr Ok.leaf)))))))))
def F96_7 : Nat → Int32 → Int32 → Int32 → mMi → mRs → mRz
  | 0, _, _, _, _, _ => none
  | f + 1, x1, x2, x3, mi, rs => mifO (decide (x1 ≤ x3)) (some (.inl (some (mI x2)), mi, rs)) (mckO (mIn x3 900) (F96_7 f x1 (((x2 * (N 10)) + (mi 2 1 1 (mix x3))) - (N 48)) (x3 + (N 1)) mi rs))
set_option maxRecDepth 100000 in
theorem R96_7 (L : Nat) : ∀ f : Nat, (∀ (x1 : Int32) (x2 : Int32) (x3 : Int32) (mi : mMi) (rs : mRs) (D : Nat) (K : mOut → mH → Prop), 0 ≤ D → Ok (F96_7 f x1 x2 x3 mi rs) (true, L) K (WP (D + 1) 96 7 [some (mR 2 4 0), some (mI x1), some (mI x2), some (mI x3)] [] (hp L mi rs) K)) := by
  intro f
  induction f with
  | zero => intro x1 x2 x3 mi rs D K hD; exact Ok.no
  | succ f ih =>
    intro x1 x2 x3 mi rs D K hD
    unfold F96_7
    exact (Ok.mp (B96_7).mpr (Ok.if (Ok.mp (B96_36).mpr Ok.leaf) (Ok.mp (B96_12).mpr (Ok.gd (ih x1 (((x2 * (N 10)) + (mi 2 1 1 (mix x3))) - (N 48)) (x3 + (N 1)) mi rs  D K (by omega))))))
def F96 (x1 : Int32) (mi : mMi) (rs : mRs) : mRz := F96_7 FU x1 (N 0) (mi 2 4 0 3) mi rs
set_option maxRecDepth 100000 in
theorem R96 (L : Nat) (x1 : Int32) (mi : mMi) (rs : mRs) : Does 96 [mR 2 4 0, mI x1] (true, L) mi rs (F96 x1 mi rs) 1 :=
  Does.of fun D K hD => (Ok.mp (B96_0).mpr (R96_7 L FU x1 (N 0) (mi 2 4 0 3) mi rs  D K (by omega)))
def F94_0 : Nat → mMi → mRs → mRz
  | 0, _, _ => none
  | f + 1, mi, rs => mifO (decide ((mi 2 4 0 1) ≤ (mi 2 4 0 2))) (mifO (decide ((mi 2 4 0 2) < (mi 2 4 0 1))) (bI (F64 ((mset mi 2 4 0 3 (mi 2 4 0 2)) 2 4 0 3) (mset mi 2 4 0 3 (mi 2 4 0 2)) rs) (fun v1 m1 r1 => mifO (decide (v1 < (N 97))) (mifO (decide (v1 < (N 48))) (mifO (decide (v1 ≠ (N 59))) (some (.inl none, (mset (mset m1 2 4 0 2 ((m1 2 4 0 3) + (N 1))) 2 4 0 4 (N 4)), r1)) (some (.inl none, (mset (mset m1 2 4 0 2 ((m1 2 4 0 3) + (N 1))) 2 4 0 4 (N 3)), r1))) (mifO (decide ((N 57) < v1)) (mifO (decide (v1 ≠ (N 59))) (some (.inl none, (mset (mset m1 2 4 0 2 ((m1 2 4 0 3) + (N 1))) 2 4 0 4 (N 4)), r1)) (some (.inl none, (mset (mset m1 2 4 0 2 ((m1 2 4 0 3) + (N 1))) 2 4 0 4 (N 3)), r1))) (bI (F95 (N 48) (N 57) m1 r1) (fun v2 m2 r2 => mifO (decide ((v2 - (m2 2 4 0 3)) ≤ (N 3))) (bI (F96 (if (((mset m2 2 4 0 2 v2) 2 4 0 3) + (N 3)) < ((mset m2 2 4 0 2 v2) 2 4 0 2) then (((mset m2 2 4 0 2 v2) 2 4 0 3) + (N 3)) else ((mset m2 2 4 0 2 v2) 2 4 0 2)) (mset (mset m2 2 4 0 2 v2) 2 4 0 4 (N 2)) r2) (fun v3 m3 r3 => some (.inl none, (mset m3 2 4 0 5 v3), r3))) (bI (F96 (if (((mset m2 2 4 0 2 v2) 2 4 0 3) + (N 3)) < ((mset m2 2 4 0 2 v2) 2 4 0 2) then (((mset m2 2 4 0 2 v2) 2 4 0 3) + (N 3)) else ((mset m2 2 4 0 2 v2) 2 4 0 2)) (mset (mset m2 2 4 0 2 v2) 2 4 0 4 (N 4)) r2) (fun v4 m4 r4 => some (.inl none, (mset m4 2 4 0 5 v4), r4))))))) (mifO (decide ((N 122) < v1)) (mifO (decide (v1 < (N 48))) (mifO (decide (v1 ≠ (N 59))) (some (.inl none, (mset (mset m1 2 4 0 2 ((m1 2 4 0 3) + (N 1))) 2 4 0 4 (N 4)), r1)) (some (.inl none, (mset (mset m1 2 4 0 2 ((m1 2 4 0 3) + (N 1))) 2 4 0 4 (N 3)), r1))) (mifO (decide ((N 57) < v1)) (mifO (decide (v1 ≠ (N 59))) (some (.inl none, (mset (mset m1 2 4 0 2 ((m1 2 4 0 3) + (N 1))) 2 4 0 4 (N 4)), r1)) (some (.inl none, (mset (mset m1 2 4 0 2 ((m1 2 4 0 3) + (N 1))) 2 4 0 4 (N 3)), r1))) (bI (F95 (N 48) (N 57) m1 r1) (fun v5 m5 r5 => mifO (decide ((v5 - (m5 2 4 0 3)) ≤ (N 3))) (bI (F96 (if (((mset m5 2 4 0 2 v5) 2 4 0 3) + (N 3)) < ((mset m5 2 4 0 2 v5) 2 4 0 2) then (((mset m5 2 4 0 2 v5) 2 4 0 3) + (N 3)) else ((mset m5 2 4 0 2 v5) 2 4 0 2)) (mset (mset m5 2 4 0 2 v5) 2 4 0 4 (N 2)) r5) (fun v6 m6 r6 => some (.inl none, (mset m6 2 4 0 5 v6), r6))) (bI (F96 (if (((mset m5 2 4 0 2 v5) 2 4 0 3) + (N 3)) < ((mset m5 2 4 0 2 v5) 2 4 0 2) then (((mset m5 2 4 0 2 v5) 2 4 0 3) + (N 3)) else ((mset m5 2 4 0 2 v5) 2 4 0 2)) (mset (mset m5 2 4 0 2 v5) 2 4 0 4 (N 4)) r5) (fun v7 m7 r7 => some (.inl none, (mset m7 2 4 0 5 v7), r7))))))) (bI (F95 (N 97) (N 122) m1 r1) (fun v8 m8 r8 => mifO (decide ((v8 - (m8 2 4 0 3)) ≤ (N 6))) (bI (F65 ((mset m8 2 4 0 2 v8) 2 4 0 3) (((mset m8 2 4 0 2 v8) 2 4 0 2) - ((mset m8 2 4 0 2 v8) 2 4 0 3)) (mset (mset m8 2 4 0 2 v8) 2 4 0 4 (N 1)) r8) (fun v9 m9 r9 => some (.inl none, (mset m9 2 4 0 5 v9), r9))) (bI (F65 ((mset m8 2 4 0 2 v8) 2 4 0 3) (((mset m8 2 4 0 2 v8) 2 4 0 2) - ((mset m8 2 4 0 2 v8) 2 4 0 3)) (mset (mset m8 2 4 0 2 v8) 2 4 0 4 (N 4)) r8) (fun v10 m10 r10 => some (.inl none, (mset m10 2 4 0 5 v10), r10)))))))) (some (.inl none, (mset (mset mi 2 4 0 3 (mi 2 4 0 2)) 2 4 0 4 (N 0)), rs))) (bI (F64 (mi 2 4 0 2) mi rs) (fun v11 m11 r11 => mifO (decide (v11 ≠ (N 32))) (mifO (decide ((m11 2 4 0 2) < (m11 2 4 0 1))) (bI (F64 ((mset m11 2 4 0 3 (m11 2 4 0 2)) 2 4 0 3) (mset m11 2 4 0 3 (m11 2 4 0 2)) r11) (fun v12 m12 r12 => mifO (decide (v12 < (N 97))) (mifO (decide (v12 < (N 48))) (mifO (decide (v12 ≠ (N 59))) (some (.inl none, (mset (mset m12 2 4 0 2 ((m12 2 4 0 3) + (N 1))) 2 4 0 4 (N 4)), r12)) (some (.inl none, (mset (mset m12 2 4 0 2 ((m12 2 4 0 3) + (N 1))) 2 4 0 4 (N 3)), r12))) (mifO (decide ((N 57) < v12)) (mifO (decide (v12 ≠ (N 59))) (some (.inl none, (mset (mset m12 2 4 0 2 ((m12 2 4 0 3) + (N 1))) 2 4 0 4 (N 4)), r12)) (some (.inl none, (mset (mset m12 2 4 0 2 ((m12 2 4 0 3) + (N 1))) 2 4 0 4 (N 3)), r12))) (bI (F95 (N 48) (N 57) m12 r12) (fun v13 m13 r13 => mifO (decide ((v13 - (m13 2 4 0 3)) ≤ (N 3))) (bI (F96 (if (((mset m13 2 4 0 2 v13) 2 4 0 3) + (N 3)) < ((mset m13 2 4 0 2 v13) 2 4 0 2) then (((mset m13 2 4 0 2 v13) 2 4 0 3) + (N 3)) else ((mset m13 2 4 0 2 v13) 2 4 0 2)) (mset (mset m13 2 4 0 2 v13) 2 4 0 4 (N 2)) r13) (fun v14 m14 r14 => some (.inl none, (mset m14 2 4 0 5 v14), r14))) (bI (F96 (if (((mset m13 2 4 0 2 v13) 2 4 0 3) + (N 3)) < ((mset m13 2 4 0 2 v13) 2 4 0 2) then (((mset m13 2 4 0 2 v13) 2 4 0 3) + (N 3)) else ((mset m13 2 4 0 2 v13) 2 4 0 2)) (mset (mset m13 2 4 0 2 v13) 2 4 0 4 (N 4)) r13) (fun v15 m15 r15 => some (.inl none, (mset m15 2 4 0 5 v15), r15))))))) (mifO (decide ((N 122) < v12)) (mifO (decide (v12 < (N 48))) (mifO (decide (v12 ≠ (N 59))) (some (.inl none, (mset (mset m12 2 4 0 2 ((m12 2 4 0 3) + (N 1))) 2 4 0 4 (N 4)), r12)) (some (.inl none, (mset (mset m12 2 4 0 2 ((m12 2 4 0 3) + (N 1))) 2 4 0 4 (N 3)), r12))) (mifO (decide ((N 57) < v12)) (mifO (decide (v12 ≠ (N 59))) (some (.inl none, (mset (mset m12 2 4 0 2 ((m12 2 4 0 3) + (N 1))) 2 4 0 4 (N 4)), r12)) (some (.inl none, (mset (mset m12 2 4 0 2 ((m12 2 4 0 3) + (N 1))) 2 4 0 4 (N 3)), r12))) (bI (F95 (N 48) (N 57) m12 r12) (fun v16 m16 r16 => mifO (decide ((v16 - (m16 2 4 0 3)) ≤ (N 3))) (bI (F96 (if (((mset m16 2 4 0 2 v16) 2 4 0 3) + (N 3)) < ((mset m16 2 4 0 2 v16) 2 4 0 2) then (((mset m16 2 4 0 2 v16) 2 4 0 3) + (N 3)) else ((mset m16 2 4 0 2 v16) 2 4 0 2)) (mset (mset m16 2 4 0 2 v16) 2 4 0 4 (N 2)) r16) (fun v17 m17 r17 => some (.inl none, (mset m17 2 4 0 5 v17), r17))) (bI (F96 (if (((mset m16 2 4 0 2 v16) 2 4 0 3) + (N 3)) < ((mset m16 2 4 0 2 v16) 2 4 0 2) then (((mset m16 2 4 0 2 v16) 2 4 0 3) + (N 3)) else ((mset m16 2 4 0 2 v16) 2 4 0 2)) (mset (mset m16 2 4 0 2 v16) 2 4 0 4 (N 4)) r16) (fun v18 m18 r18 => some (.inl none, (mset m18 2 4 0 5 v18), r18))))))) (bI (F95 (N 97) (N 122) m12 r12) (fun v19 m19 r19 => mifO (decide ((v19 - (m19 2 4 0 3)) ≤ (N 6))) (bI (F65 ((mset m19 2 4 0 2 v19) 2 4 0 3) (((mset m19 2 4 0 2 v19) 2 4 0 2) - ((mset m19 2 4 0 2 v19) 2 4 0 3)) (mset (mset m19 2 4 0 2 v19) 2 4 0 4 (N 1)) r19) (fun v20 m20 r20 => some (.inl none, (mset m20 2 4 0 5 v20), r20))) (bI (F65 ((mset m19 2 4 0 2 v19) 2 4 0 3) (((mset m19 2 4 0 2 v19) 2 4 0 2) - ((mset m19 2 4 0 2 v19) 2 4 0 3)) (mset (mset m19 2 4 0 2 v19) 2 4 0 4 (N 4)) r19) (fun v21 m21 r21 => some (.inl none, (mset m21 2 4 0 5 v21), r21)))))))) (some (.inl none, (mset (mset m11 2 4 0 3 (m11 2 4 0 2)) 2 4 0 4 (N 0)), r11))) (F94_0 f (mset m11 2 4 0 2 ((m11 2 4 0 2) + (N 1))) r11)))
set_option maxRecDepth 100000 in
theorem R94_0 (L : Nat) : ∀ f : Nat, (∀ (mi : mMi) (rs : mRs) (D : Nat) (K : mOut → mH → Prop), 1 ≤ D → Ok (F94_0 f  mi rs) (true, L) K (WP (D + 1) 94 0 [some (mR 2 4 0), none] [] (hp L mi rs) K)) := by
  intro f
  induction f with
  | zero => intro mi rs D K hD; exact Ok.no
  | succ f ih =>
    intro mi rs D K hD
    unfold F94_0
    exact (Ok.mp (B94_0).mpr (Ok.if (Ok.mp (B94_40).mpr (Ok.if (Ok.mp (B94_65).mpr (Ok.callI (R64 L ((mset mi 2 4 0 3 (mi 2 4 0 2)) 2 4 0 3) (mset mi 2 4 0 3 (mi 2 4 0 2)) rs) (by omega) fun v1 m1 r1 => (Ok.mp (B94_76).mpr (Ok.if (Ok.mp (B94_151).mpr (Ok.if (Ok.mp (B94_221).mpr (Ok.if (Ok.mp (B94_242).mpr (Ok.mp (B94_243).mpr (Ok.mp (B94_246).mpr Ok.leaf))) (Ok.mp (B94_238).mpr (Ok.mp (B94_243).mpr (Ok.mp (B94_246).mpr Ok.leaf))))) (Ok.mp (B94_157).mpr (Ok.if (Ok.mp (B94_221).mpr (Ok.if (Ok.mp (B94_242).mpr (Ok.mp (B94_243).mpr (Ok.mp (B94_246).mpr Ok.leaf))) (Ok.mp (B94_238).mpr (Ok.mp (B94_243).mpr (Ok.mp (B94_246).mpr Ok.leaf))))) (Ok.mp (B94_163).mpr (Ok.callI (R95 L (N 48) (N 57) m1 r1) (by omega) fun v2 m2 r2 => (Ok.mp (B94_172).mpr (Ok.if (Ok.mp (B94_193).mpr (Ok.mp (B94_194).mpr (Ok.callI (R96 L (if (((mset m2 2 4 0 2 v2) 2 4 0 3) + (N 3)) < ((mset m2 2 4 0 2 v2) 2 4 0 2) then (((mset m2 2 4 0 2 v2) 2 4 0 3) + (N 3)) else ((mset m2 2 4 0 2 v2) 2 4 0 2)) (mset (mset m2 2 4 0 2 v2) 2 4 0 4 (N 2)) r2) (by omega) fun v3 m3 r3 => (Ok.mp (B94_215).mpr (Ok.mp (B94_246).mpr Ok.leaf))))) (Ok.mp (B94_189).mpr (Ok.mp (B94_194).mpr (Ok.callI (R96 L (if (((mset m2 2 4 0 2 v2) 2 4 0 3) + (N 3)) < ((mset m2 2 4 0 2 v2) 2 4 0 2) then (((mset m2 2 4 0 2 v2) 2 4 0 3) + (N 3)) else ((mset m2 2 4 0 2 v2) 2 4 0 2)) (mset (mset m2 2 4 0 2 v2) 2 4 0 4 (N 4)) r2) (by omega) fun v4 m4 r4 => (Ok.mp (B94_215).mpr (Ok.mp (B94_246).mpr Ok.leaf))))))))))))) (Ok.mp (B94_83).mpr (Ok.if (Ok.mp (B94_151).mpr (Ok.if (Ok.mp (B94_221).mpr (Ok.if (Ok.mp (B94_242).mpr (Ok.mp (B94_243).mpr (Ok.mp (B94_246).mpr Ok.leaf))) (Ok.mp (B94_238).mpr (Ok.mp (B94_243).mpr (Ok.mp (B94_246).mpr Ok.leaf))))) (Ok.mp (B94_157).mpr (Ok.if (Ok.mp (B94_221).mpr (Ok.if (Ok.mp (B94_242).mpr (Ok.mp (B94_243).mpr (Ok.mp (B94_246).mpr Ok.leaf))) (Ok.mp (B94_238).mpr (Ok.mp (B94_243).mpr (Ok.mp (B94_246).mpr Ok.leaf))))) (Ok.mp (B94_163).mpr (Ok.callI (R95 L (N 48) (N 57) m1 r1) (by omega) fun v5 m5 r5 => (Ok.mp (B94_172).mpr (Ok.if (Ok.mp (B94_193).mpr (Ok.mp (B94_194).mpr (Ok.callI (R96 L (if (((mset m5 2 4 0 2 v5) 2 4 0 3) + (N 3)) < ((mset m5 2 4 0 2 v5) 2 4 0 2) then (((mset m5 2 4 0 2 v5) 2 4 0 3) + (N 3)) else ((mset m5 2 4 0 2 v5) 2 4 0 2)) (mset (mset m5 2 4 0 2 v5) 2 4 0 4 (N 2)) r5) (by omega) fun v6 m6 r6 => (Ok.mp (B94_215).mpr (Ok.mp (B94_246).mpr Ok.leaf))))) (Ok.mp (B94_189).mpr (Ok.mp (B94_194).mpr (Ok.callI (R96 L (if (((mset m5 2 4 0 2 v5) 2 4 0 3) + (N 3)) < ((mset m5 2 4 0 2 v5) 2 4 0 2) then (((mset m5 2 4 0 2 v5) 2 4 0 3) + (N 3)) else ((mset m5 2 4 0 2 v5) 2 4 0 2)) (mset (mset m5 2 4 0 2 v5) 2 4 0 4 (N 4)) r5) (by omega) fun v7 m7 r7 => (Ok.mp (B94_215).mpr (Ok.mp (B94_246).mpr Ok.leaf))))))))))))) (Ok.mp (B94_89).mpr (Ok.callI (R95 L (N 97) (N 122) m1 r1) (by omega) fun v8 m8 r8 => (Ok.mp (B94_98).mpr (Ok.if (Ok.mp (B94_120).mpr (Ok.mp (B94_121).mpr (Ok.callI (R65 L ((mset m8 2 4 0 2 v8) 2 4 0 3) (((mset m8 2 4 0 2 v8) 2 4 0 2) - ((mset m8 2 4 0 2 v8) 2 4 0 3)) (mset (mset m8 2 4 0 2 v8) 2 4 0 4 (N 1)) r8) (by omega) fun v9 m9 r9 => (Ok.mp (B94_145).mpr (Ok.mp (B94_246).mpr Ok.leaf))))) (Ok.mp (B94_116).mpr (Ok.mp (B94_121).mpr (Ok.callI (R65 L ((mset m8 2 4 0 2 v8) 2 4 0 3) (((mset m8 2 4 0 2 v8) 2 4 0 2) - ((mset m8 2 4 0 2 v8) 2 4 0 3)) (mset (mset m8 2 4 0 2 v8) 2 4 0 4 (N 4)) r8) (by omega) fun v10 m10 r10 => (Ok.mp (B94_145).mpr (Ok.mp (B94_246).mpr Ok.leaf))))))))))))))) (Ok.mp (B94_59).mpr Ok.leaf))) (Ok.mp (B94_11).mpr (Ok.callI (R64 L (mi 2 4 0 2) mi rs) (by omega) fun v11 m11 r11 => (Ok.mp (B94_22).mpr (Ok.if (Ok.mp (B94_40).mpr (Ok.if (Ok.mp (B94_65).mpr (Ok.callI (R64 L ((mset m11 2 4 0 3 (m11 2 4 0 2)) 2 4 0 3) (mset m11 2 4 0 3 (m11 2 4 0 2)) r11) (by omega) fun v12 m12 r12 => (Ok.mp (B94_76).mpr (Ok.if (Ok.mp (B94_151).mpr (Ok.if (Ok.mp (B94_221).mpr (Ok.if (Ok.mp (B94_242).mpr (Ok.mp (B94_243).mpr (Ok.mp (B94_246).mpr Ok.leaf))) (Ok.mp (B94_238).mpr (Ok.mp (B94_243).mpr (Ok.mp (B94_246).mpr Ok.leaf))))) (Ok.mp (B94_157).mpr (Ok.if (Ok.mp (B94_221).mpr (Ok.if (Ok.mp (B94_242).mpr (Ok.mp (B94_243).mpr (Ok.mp (B94_246).mpr Ok.leaf))) (Ok.mp (B94_238).mpr (Ok.mp (B94_243).mpr (Ok.mp (B94_246).mpr Ok.leaf))))) (Ok.mp (B94_163).mpr (Ok.callI (R95 L (N 48) (N 57) m12 r12) (by omega) fun v13 m13 r13 => (Ok.mp (B94_172).mpr (Ok.if (Ok.mp (B94_193).mpr (Ok.mp (B94_194).mpr (Ok.callI (R96 L (if (((mset m13 2 4 0 2 v13) 2 4 0 3) + (N 3)) < ((mset m13 2 4 0 2 v13) 2 4 0 2) then (((mset m13 2 4 0 2 v13) 2 4 0 3) + (N 3)) else ((mset m13 2 4 0 2 v13) 2 4 0 2)) (mset (mset m13 2 4 0 2 v13) 2 4 0 4 (N 2)) r13) (by omega) fun v14 m14 r14 => (Ok.mp (B94_215).mpr (Ok.mp (B94_246).mpr Ok.leaf))))) (Ok.mp (B94_189).mpr (Ok.mp (B94_194).mpr (Ok.callI (R96 L (if (((mset m13 2 4 0 2 v13) 2 4 0 3) + (N 3)) < ((mset m13 2 4 0 2 v13) 2 4 0 2) then (((mset m13 2 4 0 2 v13) 2 4 0 3) + (N 3)) else ((mset m13 2 4 0 2 v13) 2 4 0 2)) (mset (mset m13 2 4 0 2 v13) 2 4 0 4 (N 4)) r13) (by omega) fun v15 m15 r15 => (Ok.mp (B94_215).mpr (Ok.mp (B94_246).mpr Ok.leaf))))))))))))) (Ok.mp (B94_83).mpr (Ok.if (Ok.mp (B94_151).mpr (Ok.if (Ok.mp (B94_221).mpr (Ok.if (Ok.mp (B94_242).mpr (Ok.mp (B94_243).mpr (Ok.mp (B94_246).mpr Ok.leaf))) (Ok.mp (B94_238).mpr (Ok.mp (B94_243).mpr (Ok.mp (B94_246).mpr Ok.leaf))))) (Ok.mp (B94_157).mpr (Ok.if (Ok.mp (B94_221).mpr (Ok.if (Ok.mp (B94_242).mpr (Ok.mp (B94_243).mpr (Ok.mp (B94_246).mpr Ok.leaf))) (Ok.mp (B94_238).mpr (Ok.mp (B94_243).mpr (Ok.mp (B94_246).mpr Ok.leaf))))) (Ok.mp (B94_163).mpr (Ok.callI (R95 L (N 48) (N 57) m12 r12) (by omega) fun v16 m16 r16 => (Ok.mp (B94_172).mpr (Ok.if (Ok.mp (B94_193).mpr (Ok.mp (B94_194).mpr (Ok.callI (R96 L (if (((mset m16 2 4 0 2 v16) 2 4 0 3) + (N 3)) < ((mset m16 2 4 0 2 v16) 2 4 0 2) then (((mset m16 2 4 0 2 v16) 2 4 0 3) + (N 3)) else ((mset m16 2 4 0 2 v16) 2 4 0 2)) (mset (mset m16 2 4 0 2 v16) 2 4 0 4 (N 2)) r16) (by omega) fun v17 m17 r17 => (Ok.mp (B94_215).mpr (Ok.mp (B94_246).mpr Ok.leaf))))) (Ok.mp (B94_189).mpr (Ok.mp (B94_194).mpr (Ok.callI (R96 L (if (((mset m16 2 4 0 2 v16) 2 4 0 3) + (N 3)) < ((mset m16 2 4 0 2 v16) 2 4 0 2) then (((mset m16 2 4 0 2 v16) 2 4 0 3) + (N 3)) else ((mset m16 2 4 0 2 v16) 2 4 0 2)) (mset (mset m16 2 4 0 2 v16) 2 4 0 4 (N 4)) r16) (by omega) fun v18 m18 r18 => (Ok.mp (B94_215).mpr (Ok.mp (B94_246).mpr Ok.leaf))))))))))))) (Ok.mp (B94_89).mpr (Ok.callI (R95 L (N 97) (N 122) m12 r12) (by omega) fun v19 m19 r19 => (Ok.mp (B94_98).mpr (Ok.if (Ok.mp (B94_120).mpr (Ok.mp (B94_121).mpr (Ok.callI (R65 L ((mset m19 2 4 0 2 v19) 2 4 0 3) (((mset m19 2 4 0 2 v19) 2 4 0 2) - ((mset m19 2 4 0 2 v19) 2 4 0 3)) (mset (mset m19 2 4 0 2 v19) 2 4 0 4 (N 1)) r19) (by omega) fun v20 m20 r20 => (Ok.mp (B94_145).mpr (Ok.mp (B94_246).mpr Ok.leaf))))) (Ok.mp (B94_116).mpr (Ok.mp (B94_121).mpr (Ok.callI (R65 L ((mset m19 2 4 0 2 v19) 2 4 0 3) (((mset m19 2 4 0 2 v19) 2 4 0 2) - ((mset m19 2 4 0 2 v19) 2 4 0 3)) (mset (mset m19 2 4 0 2 v19) 2 4 0 4 (N 4)) r19) (by omega) fun v21 m21 r21 => (Ok.mp (B94_145).mpr (Ok.mp (B94_246).mpr Ok.leaf))))))))))))))) (Ok.mp (B94_59).mpr Ok.leaf))) (Ok.mp (B94_27).mpr (ih  (mset m11 2 4 0 2 ((m11 2 4 0 2) + (N 1))) r11  D K (by omega)))))))))
def F94 (mi : mMi) (rs : mRs) : mRz := F94_0 FU mi rs
set_option maxRecDepth 100000 in
theorem R94 (L : Nat) (mi : mMi) (rs : mRs) : Does 94 [mR 2 4 0] (true, L) mi rs (F94  mi rs) 2 :=
  Does.of fun D K hD => (R94_0 L FU  mi rs  D K (by omega))
def F97_28 (k : Nat) : Nat → Int32 → mMi → mRs → mRz
  | 0, _, _, _ => none
  | f + 1, x2, mi, rs => mckO (Nat.blt 0 (mTxt k).length && true) (mifO (decide ((Int32.ofNat (mTxt k).length) ≤ x2)) (some (.inl (some (mI (N 1))), mi, rs)) (bI (F64 ((mi 2 4 0 3) + x2) mi rs) (fun v1 m1 r1 => mckO (mIn x2 (mTxt k).length && true) (mifO (decide (v1 = ((mTxt k).getD (mix x2) 0))) (F97_28 k f (x2 + (N 1)) m1 r1) (some (.inl (some (mI (N 0))), m1, r1))))))
set_option maxRecDepth 100000 in
theorem R97_28 (k : Nat) (L : Nat) : ∀ f : Nat, (∀ (x2 : Int32) (mi : mMi) (rs : mRs) (D : Nat) (K : mOut → mH → Prop), 1 ≤ D → Ok (F97_28 k f x2 mi rs) (true, L) K (WP (D + 1) 97 28 [some (mR 2 4 0), some (mR 3 3 k), some (mI x2)] [] (hp L mi rs) K)) := by
  intro f
  induction f with
  | zero => intro x2 mi rs D K hD; exact Ok.no
  | succ f ih =>
    intro x2 mi rs D K hD
    unfold F97_28
    exact (Ok.mp (B97_28).mpr (Ok.gd (Ok.if (Ok.mp (B97_65).mpr Ok.leaf) (Ok.mp (B97_36).mpr (Ok.callI (R64 L ((mi 2 4 0 3) + x2) mi rs) (by omega) fun v1 m1 r1 => (Ok.mp (B97_49).mpr (Ok.gd (Ok.if (Ok.mp (B97_59).mpr (ih (x2 + (N 1)) m1 r1  D K (by omega))) (Ok.mp (B97_57).mpr Ok.leaf)))))))))
def F97 (k : Nat) (mi : mMi) (rs : mRs) : mRz := mifO (decide ((mi 2 4 0 4) ≠ (N 1))) (some (.inl (some (mI (N 0))), mi, rs)) (mckO (Nat.blt 0 (mTxt k).length && true) (mifO (decide (((mi 2 4 0 2) - (mi 2 4 0 3)) = (Int32.ofNat (mTxt k).length))) (F97_28 k FU (N 0) mi rs) (some (.inl (some (mI (N 0))), mi, rs))))
set_option maxRecDepth 100000 in
theorem R97 (k : Nat) (L : Nat) (mi : mMi) (rs : mRs) : Does 97 [mR 2 4 0, mR 3 3 k] (true, L) mi rs (F97 k  mi rs) 2 :=
  Does.of fun D K hD => (Ok.mp (B97_0).mpr (Ok.if (Ok.mp (B97_24).mpr Ok.leaf) (Ok.mp (B97_8).mpr (Ok.gd (Ok.if (Ok.mp (B97_26).mpr (R97_28 k L FU (N 0) mi rs  D K (by omega))) (Ok.mp (B97_24).mpr Ok.leaf))))))
def F69 (x1 : Int32) (mi : mMi) (rs : mRs) : mRz := some (.inl (some (mI (N 0))), (mset (mset mi 2 3 0 3 x1) 2 3 0 4 (mi 2 4 0 3)), rs)
set_option maxRecDepth 100000 in
theorem R69 (L : Nat) (x1 : Int32) (mi : mMi) (rs : mRs) : Does 69 [mR 2 3 0, mI x1] (true, L) mi rs (F69 x1 mi rs) 1 :=
  Does.of fun D K hD => (Ok.mp (B69_0).mpr Ok.leaf)
def F70 (x1 : Int32) (x2 : Int32) (mi : mMi) (rs : mRs) : mRz := bV (F94 mi rs) (fun m1 r1 => mifO (decide ((m1 2 4 0 4) = (N 2))) (mifO (decide ((m1 2 4 0 5) < x1)) (bI (F69 (N 2) m1 r1) (fun v2 m2 r2 => mckO (mZ v2 || false) (some (.inl (some (mI v2)), m2, r2)))) (mifO (decide ((m1 2 4 0 5) ≤ x2)) (some (.inl (some (mI (N 1))), m1, r1)) (bI (F69 (N 2) m1 r1) (fun v3 m3 r3 => mckO (mZ v3 || false) (some (.inl (some (mI v3)), m3, r3)))))) (bI (F69 (N 1) m1 r1) (fun v4 m4 r4 => mckO (mZ v4 || false) (some (.inl (some (mI v4)), m4, r4)))))
set_option maxRecDepth 100000 in
theorem R70 (L : Nat) (x1 : Int32) (x2 : Int32) (mi : mMi) (rs : mRs) : Does 70 [mR 2 3 0, mI x1, mI x2] (true, L) mi rs (F70 x1 x2 mi rs) 3 :=
  Does.of fun D K hD => (Ok.mp (B70_0).mpr (Ok.callV (R94 L mi rs) (by omega) fun m1 r1 => (Ok.mp (B70_7).mpr (Ok.if (Ok.mp (B70_24).mpr (Ok.if (Ok.mp (B70_46).mpr (Ok.callI (R69 L (N 2) m1 r1) (by omega) fun v2 m2 r2 => (Ok.mp (B70_51).mpr (Ok.gd Ok.leaf)))) (Ok.mp (B70_35).mpr (Ok.if (Ok.mp (B70_52).mpr Ok.leaf) (Ok.mp (B70_46).mpr (Ok.callI (R69 L (N 2) m1 r1) (by omega) fun v3 m3 r3 => (Ok.mp (B70_51).mpr (Ok.gd Ok.leaf)))))))) (Ok.mp (B70_18).mpr (Ok.callI (R69 L (N 1) m1 r1) (by omega) fun v4 m4 r4 => (Ok.mp (B70_23).mpr (Ok.gd Ok.leaf))))))))
def F68_27 : Nat → Int32 → mMi → mRs → mRz
  | 0, _, _, _ => none
  | f + 1, x1, mi, rs => mifO (decide ((N 6) ≤ x1)) (some (.inl (some (mI (N 1))), mi, rs)) (mckO (mIn x1 6) (mckO (mIn x1 6) (bI (F70 (mi 3 1 0 (mix x1)) (mi 3 2 0 (mix x1)) mi rs) (fun v1 m1 r1 => mifO (decide (v1 ≠ (N 0))) (mckO (mIn x1 6) (F68_27 f (x1 + (N 1)) (mset m1 1 1 1 (mix x1) (m1 2 4 0 5)) r1)) (some (.inl (some (mI (N 0))), m1, r1))))))
set_option maxRecDepth 100000 in
theorem R68_27 (L : Nat) : ∀ f : Nat, (∀ (x1 : Int32) (mi : mMi) (rs : mRs) (D : Nat) (K : mOut → mH → Prop), 3 ≤ D → Ok (F68_27 f x1 mi rs) (true, L) K (WP (D + 1) 68 27 [some (mR 2 3 0), some (mI x1)] [] (hp L mi rs) K)) := by
  intro f
  induction f with
  | zero => intro x1 mi rs D K hD; exact Ok.no
  | succ f ih =>
    intro x1 mi rs D K hD
    unfold F68_27
    exact (Ok.mp (B68_27).mpr (Ok.if (Ok.mp (B68_74).mpr Ok.leaf) (Ok.mp (B68_33).mpr (Ok.gd (Ok.gd (Ok.callI (R70 L (mi 3 1 0 (mix x1)) (mi 3 2 0 (mix x1)) mi rs) (by omega) fun v1 m1 r1 => (Ok.mp (B68_47).mpr (Ok.if (Ok.mp (B68_52).mpr (Ok.gd (ih (x1 + (N 1)) (mset m1 1 1 1 (mix x1) (m1 2 4 0 5)) r1  D K (by omega)))) (Ok.mp (B68_50).mpr Ok.leaf)))))))))
def F68 (mi : mMi) (rs : mRs) : mRz := bV (F94 mi rs) (fun m2 r2 => bI (F97 1 m2 r2) (fun v3 m3 r3 => mifO (decide (v3 ≠ (N 0))) (F68_27 FU (N 0) m3 r3) (bI (F69 (N 1) m3 r3) (fun v4 m4 r4 => mckO (mZ v4 || false) (some (.inl (some (mI v4)), m4, r4))))))
set_option maxRecDepth 100000 in
theorem R68 (L : Nat) (mi : mMi) (rs : mRs) : Does 68 [mR 2 3 0] (true, L) mi rs (F68  mi rs) 4 :=
  Does.of fun D K hD => (Ok.mp (B68_0).mpr (Ok.callV (R94 L mi rs) (by omega) fun m2 r2 => (Ok.mp (B68_7).mpr (Ok.callI (R97 1 L m2 r2) (by omega) fun v3 m3 r3 => (Ok.mp (B68_16).mpr (Ok.if (Ok.mp (B68_25).mpr (R68_27 L FU (N 0) m3 r3  D K (by omega))) (Ok.mp (B68_19).mpr (Ok.callI (R69 L (N 1) m3 r3) (by omega) fun v4 m4 r4 => (Ok.mp (B68_24).mpr (Ok.gd Ok.leaf))))))))))
def F79_2 (i : Nat) : Nat → Int32 → Int32 → mMi → mRs → mRz
  | 0, _, _, _, _ => none
  | f + 1, x1, x2, mi, rs => mifO (decide ((mi 1 i 0 4) ≤ x2)) (some (.inl (some (mI (I (-1)))), mi, rs)) (mckO (mIn x2 40) (mifO (decide ((mi 1 i 2 (mix x2)) ≠ x1)) (F79_2 i f x1 (x2 + (N 1)) mi rs) (some (.inl (some (mI x2)), mi, rs))))
set_option maxRecDepth 100000 in
theorem R79_2 (i : Nat) (hi : i < 2) (L : Nat) : ∀ f : Nat, (∀ (x1 : Int32) (x2 : Int32) (mi : mMi) (rs : mRs) (D : Nat) (K : mOut → mH → Prop), 0 ≤ D → Ok (F79_2 i f x1 x2 mi rs) (true, L) K (WP (D + 1) 79 2 [some (mR 1 i 0), some (mI x1), some (mI x2)] [] (hp L mi rs) K)) := by
  intro f
  induction f with
  | zero => intro x1 x2 mi rs D K hD; exact Ok.no
  | succ f ih =>
    intro x1 x2 mi rs D K hD
    unfold F79_2
    exact (Ok.mp (B79_2 hi).mpr (Ok.if (Ok.mp (B79_28 hi).mpr Ok.leaf) (Ok.mp (B79_10 hi).mpr (Ok.gd (Ok.if (Ok.mp (B79_22 hi).mpr (ih x1 (x2 + (N 1)) mi rs  D K (by omega))) (Ok.mp (B79_20 hi).mpr Ok.leaf))))))
def F79 (i : Nat) (x1 : Int32) (mi : mMi) (rs : mRs) : mRz := F79_2 i FU x1 (N 0) mi rs
set_option maxRecDepth 100000 in
theorem R79 (i : Nat) (hi : i < 2) (L : Nat) (x1 : Int32) (mi : mMi) (rs : mRs) : Does 79 [mR 1 i 0, mI x1] (true, L) mi rs (F79 i x1 mi rs) 1 :=
  Does.of fun D K hD => (Ok.mp (B79_0 hi).mpr (R79_2 i hi L FU x1 (N 0) mi rs  D K (by omega)))
def F72 (mi : mMi) (rs : mRs) : mRz := bV (F94 mi rs) (fun m1 r1 => mifO (decide ((m1 2 4 0 4) = (N 1))) (bI (F79 1 (m1 2 4 0 5) m1 r1) (fun v2 m2 r2 => mifO (decide (v2 = (I (-1)))) (mckO (mIn (mi 1 1 0 4) 40) (bI (F70 (N 1) (N 9) (mset m2 1 1 2 (mix (mi 1 1 0 4)) (m2 2 4 0 5)) r2) (fun v3 m3 r3 => mifO (decide (v3 ≠ (N 0))) (mckO (mIn (mi 1 1 0 4) 40) (mckO (mIn (mi 1 1 0 4) 40) (bI (F70 (N 1) (N 9) (mset (mset m3 1 1 3 (mix (mi 1 1 0 4)) (m3 2 4 0 5)) 0 2 11 (mix (mi 1 1 0 4)) (m3 2 4 0 5)) r3) (fun v4 m4 r4 => mifO (decide (v4 ≠ (N 0))) (mckO (mIn (mi 1 1 0 4) 40) (some (.inl (some (mI (N 1))), (mset (mset m4 1 1 4 (mix (mi 1 1 0 4)) (m4 2 4 0 5)) 1 1 0 4 ((m4 1 1 0 4) + (N 1))), r4))) (some (.inl (some (mI (N 0))), m4, r4)))))) (some (.inl (some (mI (N 0))), m3, r3))))) (bI (F69 (N 3) m2 r2) (fun v5 m5 r5 => mckO (mZ v5 || false) (some (.inl (some (mI v5)), m5, r5)))))) (bI (F69 (N 1) m1 r1) (fun v6 m6 r6 => mckO (mZ v6 || false) (some (.inl (some (mI v6)), m6, r6)))))
set_option maxRecDepth 100000 in
theorem R72 (L : Nat) (mi : mMi) (rs : mRs) : Does 72 [mR 2 3 0] (true, L) mi rs (F72  mi rs) 4 :=
  Does.of fun D K hD => (Ok.mp (B72_0).mpr (Ok.callV (R94 L mi rs) (by omega) fun m1 r1 => (Ok.mp (B72_15).mpr (Ok.if (Ok.mp (B72_32).mpr (Ok.callI (R79 1 (by decide) L (m1 2 4 0 5) m1 r1) (by omega) fun v2 m2 r2 => (Ok.mp (B72_46).mpr (Ok.if (Ok.mp (B72_56).mpr (Ok.gd (Ok.callI (R70 L (N 1) (N 9) (mset m2 1 1 2 (mix (mi 1 1 0 4)) (m2 2 4 0 5)) r2) (by omega) fun v3 m3 r3 => (Ok.mp (B72_79).mpr (Ok.if (Ok.mp (B72_84).mpr (Ok.gd (Ok.gd (Ok.callI (R70 L (N 1) (N 9) (mset (mset m3 1 1 3 (mix (mi 1 1 0 4)) (m3 2 4 0 5)) 0 2 11 (mix (mi 1 1 0 4)) (m3 2 4 0 5)) r3) (by omega) fun v4 m4 r4 => (Ok.mp (B72_126).mpr (Ok.if (Ok.mp (B72_131).mpr (Ok.gd Ok.leaf)) (Ok.mp (B72_129).mpr Ok.leaf))))))) (Ok.mp (B72_82).mpr Ok.leaf)))))) (Ok.mp (B72_50).mpr (Ok.callI (R69 L (N 3) m2 r2) (by omega) fun v5 m5 r5 => (Ok.mp (B72_55).mpr (Ok.gd Ok.leaf)))))))) (Ok.mp (B72_26).mpr (Ok.callI (R69 L (N 1) m1 r1) (by omega) fun v6 m6 r6 => (Ok.mp (B72_31).mpr (Ok.gd Ok.leaf))))))))
def F80 (i : Nat) (x1 : Int32) (mi : mMi) (rs : mRs) : mRz := mifO (decide (x1 < (N 0))) (some (.inl (some (mI (N 0))), mi, rs)) (mifO (decide ((mi 1 i 1 1) ≤ x1)) (some (.inl (some (mI (N 0))), mi, rs)) (mifO (decide (x1 < (mi 1 i 1 0))) (some (.inl (some (mI ((mi 1 i 1 0) - x1))), mi, rs)) (some (.inl (some (mI (N 0))), mi, rs))))
set_option maxRecDepth 100000 in
theorem R80 (i : Nat) (hi : i < 2) (L : Nat) (x1 : Int32) (mi : mMi) (rs : mRs) : Does 80 [mR 1 i 0, mI x1] (true, L) mi rs (F80 i x1 mi rs) 1 :=
  Does.of fun D K hD => (Ok.mp (B80_0 hi).mpr (Ok.if (Ok.mp (B80_24 hi).mpr Ok.leaf) (Ok.mp (B80_4 hi).mpr (Ok.if (Ok.mp (B80_24 hi).mpr Ok.leaf) (Ok.mp (B80_14 hi).mpr (Ok.if (Ok.mp (B80_26 hi).mpr Ok.leaf) (Ok.mp (B80_24 hi).mpr Ok.leaf)))))))
def F74 (x1 : Int32) (mi : mMi) (rs : mRs) : mRz := bI (F70 x1 ((mi 1 1 1 1) - (N 1)) mi rs) (fun v1 m1 r1 => mifO (decide (v1 ≠ (N 0))) (bI (F80 1 (m1 2 4 0 5) (mset m1 2 3 0 5 (m1 2 4 0 5)) r1) (fun v2 m2 r2 => bI (F70 (N 0) (v2 - (N 1)) m2 r2) (fun v3 m3 r3 => mifO (decide (v3 ≠ (N 0))) (some (.inl (some (mI (N 1))), (mset m3 2 3 0 6 (m3 2 4 0 5)), r3)) (some (.inl (some (mI (N 0))), m3, r3))))) (some (.inl (some (mI (N 0))), m1, r1)))
set_option maxRecDepth 100000 in
theorem R74 (L : Nat) (x1 : Int32) (mi : mMi) (rs : mRs) : Does 74 [mR 2 3 0, mI x1] (true, L) mi rs (F74 x1 mi rs) 4 :=
  Does.of fun D K hD => (Ok.mp (B74_0).mpr (Ok.callI (R70 L x1 ((mi 1 1 1 1) - (N 1)) mi rs) (by omega) fun v1 m1 r1 => (Ok.mp (B74_16).mpr (Ok.if (Ok.mp (B74_21).mpr (Ok.callI (R80 1 (by decide) L (m1 2 4 0 5) (mset m1 2 3 0 5 (m1 2 4 0 5)) r1) (by omega) fun v2 m2 r2 => (Ok.mp (B74_45).mpr (Ok.callI (R70 L (N 0) (v2 - (N 1)) m2 r2) (by omega) fun v3 m3 r3 => (Ok.mp (B74_50).mpr (Ok.if (Ok.mp (B74_55).mpr Ok.leaf) (Ok.mp (B74_53).mpr Ok.leaf))))))) (Ok.mp (B74_19).mpr Ok.leaf)))))
def F81 (i : Nat) (x1 : Int32) (x2 : Int32) (mi : mMi) (rs : mRs) : mRz := mifO (decide (x2 < (N 0))) (some (.inl (some (mI (I (-1)))), mi, rs)) (bI (F80 i x1 mi rs) (fun v1 m1 r1 => mifO (decide (x2 < v1)) (some (.inl (some (mI ((x1 * (N 12)) + x2))), m1, r1)) (some (.inl (some (mI (I (-1)))), m1, r1))))
set_option maxRecDepth 100000 in
theorem R81 (i : Nat) (hi : i < 2) (L : Nat) (x1 : Int32) (x2 : Int32) (mi : mMi) (rs : mRs) : Does 81 [mR 1 i 0, mI x1, mI x2] (true, L) mi rs (F81 i x1 x2 mi rs) 2 :=
  Does.of fun D K hD => (Ok.mp (B81_0 hi).mpr (Ok.if (Ok.mp (B81_13 hi).mpr Ok.leaf) (Ok.mp (B81_4 hi).mpr (Ok.callI (R80 i hi L x1 mi rs) (by omega) fun v1 m1 r1 => (Ok.mp (B81_10 hi).mpr (Ok.if (Ok.mp (B81_15 hi).mpr Ok.leaf) (Ok.mp (B81_13 hi).mpr Ok.leaf)))))))
def F51 (i : Nat) (x1 : Int32) (mi : mMi) (rs : mRs) : mRz := mifO (decide (x1 < (N 0))) (mckO (mZ (N 0) || false) (some (.inl (some (mI (N 0))), mi, rs))) (mifO (decide ((N 96) ≤ x1)) (mckO (mZ (N 0) || false) (some (.inl (some (mI (N 0))), mi, rs))) (mckO (mIn x1 96) (mifO (decide ((mi 0 i 2 (mix x1)) = (I (-1)))) (mckO (mZ (N 0) || false) (some (.inl (some (mI (N 0))), mi, rs))) (mckO (mZ (N 1) || false) (some (.inl (some (mI (N 1))), mi, rs))))))
set_option maxRecDepth 100000 in
theorem R51 (i : Nat) (hi : i < 3) (L : Nat) (x1 : Int32) (mi : mMi) (rs : mRs) : Does 51 [mR 0 i 1, mI x1] (true, L) mi rs (F51 i x1 mi rs) 1 :=
  Does.of fun D K hD => (Ok.mp (B51_0 hi).mpr (Ok.if (Ok.mp (B51_24 hi).mpr (Ok.mp (B51_25 hi).mpr (Ok.gd Ok.leaf))) (Ok.mp (B51_4 hi).mpr (Ok.if (Ok.mp (B51_24 hi).mpr (Ok.mp (B51_25 hi).mpr (Ok.gd Ok.leaf))) (Ok.mp (B51_10 hi).mpr (Ok.gd (Ok.if (Ok.mp (B51_24 hi).mpr (Ok.mp (B51_25 hi).mpr (Ok.gd Ok.leaf))) (Ok.mp (B51_20 hi).mpr (Ok.mp (B51_25 hi).mpr (Ok.gd Ok.leaf))))))))))
def F13 (i : Nat) (x1 : Int32) (x2 : Int32) (mi : mMi) (rs : mRs) : mRz := bI (F81 (RO i) x1 x2 mi rs) (fun v1 m1 r1 => bI (F51 i v1 m1 r1) (fun v2 m2 r2 => mckO (mZ v2 || false) (some (.inl (some (mI v2)), m2, r2))))
set_option maxRecDepth 100000 in
theorem R13 (i : Nat) (hi : i < 3) (L : Nat) (x1 : Int32) (x2 : Int32) (mi : mMi) (rs : mRs) : Does 13 [mR 0 i 0, mI x1, mI x2] (true, L) mi rs (F13 i x1 x2 mi rs) 3 :=
  Does.of fun D K hD => (Ok.mp (B13_0 hi).mpr (Ok.callI (R81 (RO i) (RO_lt _) L x1 x2 mi rs) (by omega) fun v1 m1 r1 => (Ok.mp (B13_13 hi).mpr (Ok.callI (R51 i hi L v1 m1 r1) (by omega) fun v2 m2 r2 => (Ok.mp (B13_16 hi).mpr (Ok.gd Ok.leaf))))))
def F52 (i : Nat) (x1 : Int32) (mi : mMi) (rs : mRs) : mRz := mifO (decide (x1 < (N 0))) (mckO (mZ (N 0) || false) (some (.inl (some (mI (N 0))), mi, rs))) (mifO (decide ((N 96) ≤ x1)) (mckO (mZ (N 0) || false) (some (.inl (some (mI (N 0))), mi, rs))) (mckO (mIn x1 96) (mifO (decide ((mi 0 i 6 (mix x1)) = (I (-1)))) (mckO (mZ (N 0) || false) (some (.inl (some (mI (N 0))), mi, rs))) (mckO (mZ (N 1) || false) (some (.inl (some (mI (N 1))), mi, rs))))))
set_option maxRecDepth 100000 in
theorem R52 (i : Nat) (hi : i < 3) (L : Nat) (x1 : Int32) (mi : mMi) (rs : mRs) : Does 52 [mR 0 i 1, mI x1] (true, L) mi rs (F52 i x1 mi rs) 1 :=
  Does.of fun D K hD => (Ok.mp (B52_0 hi).mpr (Ok.if (Ok.mp (B52_24 hi).mpr (Ok.mp (B52_25 hi).mpr (Ok.gd Ok.leaf))) (Ok.mp (B52_4 hi).mpr (Ok.if (Ok.mp (B52_24 hi).mpr (Ok.mp (B52_25 hi).mpr (Ok.gd Ok.leaf))) (Ok.mp (B52_10 hi).mpr (Ok.gd (Ok.if (Ok.mp (B52_24 hi).mpr (Ok.mp (B52_25 hi).mpr (Ok.gd Ok.leaf))) (Ok.mp (B52_20 hi).mpr (Ok.mp (B52_25 hi).mpr (Ok.gd Ok.leaf))))))))))
def F14 (i : Nat) (x1 : Int32) (x2 : Int32) (mi : mMi) (rs : mRs) : mRz := bI (F81 (RO i) x1 x2 mi rs) (fun v1 m1 r1 => bI (F52 i v1 m1 r1) (fun v2 m2 r2 => mckO (mZ v2 || false) (some (.inl (some (mI v2)), m2, r2))))
set_option maxRecDepth 100000 in
theorem R14 (i : Nat) (hi : i < 3) (L : Nat) (x1 : Int32) (x2 : Int32) (mi : mMi) (rs : mRs) : Does 14 [mR 0 i 0, mI x1, mI x2] (true, L) mi rs (F14 i x1 x2 mi rs) 3 :=
  Does.of fun D K hD => (Ok.mp (B14_0 hi).mpr (Ok.callI (R81 (RO i) (RO_lt _) L x1 x2 mi rs) (by omega) fun v1 m1 r1 => (Ok.mp (B14_13 hi).mpr (Ok.callI (R52 i hi L v1 m1 r1) (by omega) fun v2 m2 r2 => (Ok.mp (B14_16 hi).mpr (Ok.gd Ok.leaf))))))
def F12 (i : Nat) (x1 : Int32) (x2 : Int32) (mi : mMi) (rs : mRs) : mRz := bI (F13 i x1 x2 mi rs) (fun v1 m1 r1 => mifO (decide (v1 ≠ (N 0))) (mckO (mZ (N 0) || false) (some (.inl (some (mI (N 0))), m1, r1))) (mifO (decide (x1 = (N 0))) (mckO (mZ (N 1) || false) (some (.inl (some (mI (N 1))), m1, r1))) (bI (F14 i x1 x2 m1 r1) (fun v2 m2 r2 => mifO (decide (v2 = (N 0))) (mckO (mZ (N 0) || false) (some (.inl (some (mI (N 0))), m2, r2))) (mckO (mZ (N 1) || false) (some (.inl (some (mI (N 1))), m2, r2)))))))
set_option maxRecDepth 100000 in
theorem R12 (i : Nat) (hi : i < 3) (L : Nat) (x1 : Int32) (x2 : Int32) (mi : mMi) (rs : mRs) : Does 12 [mR 0 i 0, mI x1, mI x2] (true, L) mi rs (F12 i x1 x2 mi rs) 4 :=
  Does.of fun D K hD => (Ok.mp (B12_0 hi).mpr (Ok.callI (R13 i hi L x1 x2 mi rs) (by omega) fun v1 m1 r1 => (Ok.mp (B12_6 hi).mpr (Ok.if (Ok.mp (B12_26 hi).mpr (Ok.mp (B12_27 hi).mpr (Ok.gd Ok.leaf))) (Ok.mp (B12_9 hi).mpr (Ok.if (Ok.mp (B12_22 hi).mpr (Ok.mp (B12_27 hi).mpr (Ok.gd Ok.leaf))) (Ok.mp (B12_13 hi).mpr (Ok.callI (R14 i hi L x1 x2 m1 r1) (by omega) fun v2 m2 r2 => (Ok.mp (B12_19 hi).mpr (Ok.if (Ok.mp (B12_26 hi).mpr (Ok.mp (B12_27 hi).mpr (Ok.gd Ok.leaf))) (Ok.mp (B12_22 hi).mpr (Ok.mp (B12_27 hi).mpr (Ok.gd Ok.leaf)))))))))))))
def F2 (i : Nat) (x1 : Int32) (mi : mMi) (rs : mRs) : mRz := mckO (mIn x1 40) (mifO (decide ((mi 0 i 13 (mix x1)) ≠ (I (-1)))) (mckO (mZ (N 0) || false) (some (.inl (some (mI (N 0))), mi, rs))) (mckO (mZ (N 1) || false) (some (.inl (some (mI (N 1))), mi, rs))))
set_option maxRecDepth 100000 in
theorem R2 (i : Nat) (hi : i < 3) (L : Nat) (x1 : Int32) (mi : mMi) (rs : mRs) : Does 2 [mR 0 i 10, mI x1] (true, L) mi rs (F2 i x1 mi rs) 1 :=
  Does.of fun D K hD => (Ok.mp (B2_0 hi).mpr (Ok.gd (Ok.if (Ok.mp (B2_14 hi).mpr (Ok.mp (B2_15 hi).mpr (Ok.gd Ok.leaf))) (Ok.mp (B2_10 hi).mpr (Ok.mp (B2_15 hi).mpr (Ok.gd Ok.leaf))))))
def F75 (x1 : Int32) (mi : mMi) (rs : mRs) : mRz := bV (F94 mi rs) (fun m1 r1 => mifO (decide ((m1 2 4 0 4) = (N 1))) (bI (F79 1 (m1 2 4 0 5) m1 r1) (fun v2 m2 r2 => mifO (decide (v2 = (I (-1)))) (bI (F69 (N 3) m2 r2) (fun v3 m3 r3 => some (.inl (some (mI (I (-1)))), m3, r3))) (mifO (decide (v2 = x1)) (bI (F69 (N 3) m2 r2) (fun v4 m4 r4 => some (.inl (some (mI (I (-1)))), m4, r4))) (bI (F2 2 v2 m2 r2) (fun v5 m5 r5 => mifO (decide (v5 ≠ (N 0))) (some (.inl (some (mI v2)), m5, r5)) (bI (F69 (N 3) m5 r5) (fun v6 m6 r6 => some (.inl (some (mI (I (-1)))), m6, r6)))))))) (bI (F69 (N 1) m1 r1) (fun v7 m7 r7 => some (.inl (some (mI (I (-1)))), m7, r7))))
set_option maxRecDepth 100000 in
theorem R75 (L : Nat) (x1 : Int32) (mi : mMi) (rs : mRs) : Does 75 [mR 2 3 0, mI x1] (true, L) mi rs (F75 x1 mi rs) 3 :=
  Does.of fun D K hD => (Ok.mp (B75_0).mpr (Ok.callV (R94 L mi rs) (by omega) fun m1 r1 => (Ok.mp (B75_7).mpr (Ok.if (Ok.mp (B75_26).mpr (Ok.callI (R79 1 (by decide) L (m1 2 4 0 5) m1 r1) (by omega) fun v2 m2 r2 => (Ok.mp (B75_40).mpr (Ok.if (Ok.mp (B75_65).mpr (Ok.callI (R69 L (N 3) m2 r2) (by omega) fun v3 m3 r3 => (Ok.mp (B75_70).mpr Ok.leaf))) (Ok.mp (B75_46).mpr (Ok.if (Ok.mp (B75_65).mpr (Ok.callI (R69 L (N 3) m2 r2) (by omega) fun v4 m4 r4 => (Ok.mp (B75_70).mpr Ok.leaf))) (Ok.mp (B75_51).mpr (Ok.callI (R2 2 (by decide) L v2 m2 r2) (by omega) fun v5 m5 r5 => (Ok.mp (B75_62).mpr (Ok.if (Ok.mp (B75_73).mpr Ok.leaf) (Ok.mp (B75_65).mpr (Ok.callI (R69 L (N 3) m5 r5) (by omega) fun v6 m6 r6 => (Ok.mp (B75_70).mpr Ok.leaf))))))))))))) (Ok.mp (B75_18).mpr (Ok.callI (R69 L (N 1) m1 r1) (by omega) fun v7 m7 r7 => (Ok.mp (B75_23).mpr Ok.leaf)))))))
def F15 (i : Nat) (x1 : Int32) (x2 : Int32) (x3 : Int32) (x4 : Int32) (mi : mMi) (rs : mRs) : mRz := mckO (mIn x1 96) (mckO (mIn x1 96) (mckO (mIn x1 96) (mckO (mIn x1 96) (mckO (mIn x2 40) (mckO (mIn x3 40) (some (.inl none, (mset (mset (mset (mset (mset (mset mi 0 i 2 (mix x1) x2) 0 i 3 (mix x1) x3) 0 i 4 (mix x1) x4) 0 i 5 (mix x1) (N 0)) 0 i 13 (mix x2) x1) 0 i 13 (mix x3) x1), rs)))))))
set_option maxRecDepth 100000 in
theorem R15 (i : Nat) (hi : i < 3) (L : Nat) (x1 : Int32) (x2 : Int32) (x3 : Int32) (x4 : Int32) (mi : mMi) (rs : mRs) : Does 15 [mR 0 i 0, mI x1, mI x2, mI x3, mI x4] (true, L) mi rs (F15 i x1 x2 x3 x4 mi rs) 1 :=
  Does.of fun D K hD => (Ok.mp (B15_0 hi).mpr (Ok.gd (Ok.gd (Ok.gd (Ok.gd (Ok.gd (Ok.gd Ok.leaf)))))))
def F73 (mi : mMi) (rs : mRs) : mRz := bI (F74 (N 0) mi rs) (fun v1 m1 r1 => mifO (decide (v1 ≠ (N 0))) (bI (F12 2 (m1 2 3 0 5) (m1 2 3 0 6) m1 r1) (fun v2 m2 r2 => mifO (decide (v2 ≠ (N 0))) (bI (F75 (I (-1)) m2 r2) (fun v3 m3 r3 => mifO (decide (v3 ≠ (I (-1)))) (bI (F75 v3 m3 r3) (fun v4 m4 r4 => mifO (decide (v4 = (I (-1)))) (some (.inl (some (mI (N 0))), m4, r4)) (bI (F70 (N 20) (N 70) m4 r4) (fun v5 m5 r5 => mifO (decide (v5 ≠ (N 0))) (bI (F81 1 (m5 2 3 0 5) (m5 2 3 0 6) m5 r5) (fun v6 m6 r6 => bV (F15 2 v6 v3 v4 (m6 2 4 0 5) m6 r6) (fun m7 r7 => some (.inl (some (mI (N 1))), m7, r7)))) (some (.inl (some (mI (N 0))), m5, r5)))))) (some (.inl (some (mI (N 0))), m3, r3)))) (bI (F69 (N 5) m2 r2) (fun v8 m8 r8 => mckO (mZ v8 || false) (some (.inl (some (mI v8)), m8, r8)))))) (some (.inl (some (mI (N 0))), m1, r1)))
set_option maxRecDepth 100000 in
theorem R73 (L : Nat) (mi : mMi) (rs : mRs) : Does 73 [mR 2 3 0] (true, L) mi rs (F73  mi rs) 5 :=
  Does.of fun D K hD => (Ok.mp (B73_0).mpr (Ok.callI (R74 L (N 0) mi rs) (by omega) fun v1 m1 r1 => (Ok.mp (B73_5).mpr (Ok.if (Ok.mp (B73_10).mpr (Ok.callI (R12 2 (by decide) L (m1 2 3 0 5) (m1 2 3 0 6) m1 r1) (by omega) fun v2 m2 r2 => (Ok.mp (B73_25).mpr (Ok.if (Ok.mp (B73_34).mpr (Ok.callI (R75 L (I (-1)) m2 r2) (by omega) fun v3 m3 r3 => (Ok.mp (B73_39).mpr (Ok.if (Ok.mp (B73_47).mpr (Ok.callI (R75 L v3 m3 r3) (by omega) fun v4 m4 r4 => (Ok.mp (B73_52).mpr (Ok.if (Ok.mp (B73_69).mpr Ok.leaf) (Ok.mp (B73_58).mpr (Ok.callI (R70 L (N 20) (N 70) m4 r4) (by omega) fun v5 m5 r5 => (Ok.mp (B73_66).mpr (Ok.if (Ok.mp (B73_71).mpr (Ok.callI (R81 1 (by decide) L (m5 2 3 0 5) (m5 2 3 0 6) m5 r5) (by omega) fun v6 m6 r6 => (Ok.mp (B73_90).mpr (Ok.callV (R15 2 (by decide) L v6 v3 v4 (m6 2 4 0 5) m6 r6) (by omega) fun m7 r7 => (Ok.mp (B73_102).mpr Ok.leaf))))) (Ok.mp (B73_69).mpr Ok.leaf))))))))) (Ok.mp (B73_45).mpr Ok.leaf))))) (Ok.mp (B73_28).mpr (Ok.callI (R69 L (N 5) m2 r2) (by omega) fun v8 m8 r8 => (Ok.mp (B73_33).mpr (Ok.gd Ok.leaf)))))))) (Ok.mp (B73_8).mpr Ok.leaf)))))
def F16 (i : Nat) (x1 : Int32) (x2 : Int32) (mi : mMi) (rs : mRs) : mRz := bI (F81 (RO i) x1 x2 mi rs) (fun v1 m1 r1 => mifO (decide (v1 = (I (-1)))) (mckO (mZ (N 0) || false) (some (.inl (some (mI (N 0))), m1, r1))) (bI (F14 i x1 x2 m1 r1) (fun v2 m2 r2 => mifO (decide (v2 ≠ (N 0))) (mckO (mZ (N 0) || false) (some (.inl (some (mI (N 0))), m2, r2))) (bI (F13 i (x1 - (N 1)) x2 m2 r2) (fun v3 m3 r3 => mifO (decide (v3 = (N 0))) (mckO (mZ (N 0) || false) (some (.inl (some (mI (N 0))), m3, r3))) (bI (F13 i (x1 - (N 1)) (x2 + (N 1)) m3 r3) (fun v4 m4 r4 => mifO (decide (v4 = (N 0))) (mckO (mZ (N 0) || false) (some (.inl (some (mI (N 0))), m4, r4))) (mckO (mZ (N 1) || false) (some (.inl (some (mI (N 1))), m4, r4))))))))))
set_option maxRecDepth 100000 in
theorem R16 (i : Nat) (hi : i < 3) (L : Nat) (x1 : Int32) (x2 : Int32) (mi : mMi) (rs : mRs) : Does 16 [mR 0 i 0, mI x1, mI x2] (true, L) mi rs (F16 i x1 x2 mi rs) 4 :=
  Does.of fun D K hD => (Ok.mp (B16_0 hi).mpr (Ok.callI (R81 (RO i) (RO_lt _) L x1 x2 mi rs) (by omega) fun v1 m1 r1 => (Ok.mp (B16_9 hi).mpr (Ok.if (Ok.mp (B16_50 hi).mpr (Ok.mp (B16_51 hi).mpr (Ok.gd Ok.leaf))) (Ok.mp (B16_13 hi).mpr (Ok.callI (R14 i hi L x1 x2 m1 r1) (by omega) fun v2 m2 r2 => (Ok.mp (B16_19 hi).mpr (Ok.if (Ok.mp (B16_50 hi).mpr (Ok.mp (B16_51 hi).mpr (Ok.gd Ok.leaf))) (Ok.mp (B16_22 hi).mpr (Ok.callI (R13 i hi L (x1 - (N 1)) x2 m2 r2) (by omega) fun v3 m3 r3 => (Ok.mp (B16_30 hi).mpr (Ok.if (Ok.mp (B16_50 hi).mpr (Ok.mp (B16_51 hi).mpr (Ok.gd Ok.leaf))) (Ok.mp (B16_33 hi).mpr (Ok.callI (R13 i hi L (x1 - (N 1)) (x2 + (N 1)) m3 r3) (by omega) fun v4 m4 r4 => (Ok.mp (B16_43 hi).mpr (Ok.if (Ok.mp (B16_50 hi).mpr (Ok.mp (B16_51 hi).mpr (Ok.gd Ok.leaf))) (Ok.mp (B16_46 hi).mpr (Ok.mp (B16_51 hi).mpr (Ok.gd Ok.leaf)))))))))))))))))))
def F17 (i : Nat) (x1 : Int32) (x2 : Int32) (mi : mMi) (rs : mRs) : mRz := mckO (mIn x1 96) (mckO (mIn x2 40) (some (.inl none, (mset (mset mi 0 i 6 (mix x1) x2) 0 i 13 (mix x2) x1), rs)))
set_option maxRecDepth 100000 in
theorem R17 (i : Nat) (hi : i < 3) (L : Nat) (x1 : Int32) (x2 : Int32) (mi : mMi) (rs : mRs) : Does 17 [mR 0 i 0, mI x1, mI x2] (true, L) mi rs (F17 i x1 x2 mi rs) 1 :=
  Does.of fun D K hD => (Ok.mp (B17_0 hi).mpr (Ok.gd (Ok.gd Ok.leaf)))
def F76 (mi : mMi) (rs : mRs) : mRz := bI (F74 (N 1) mi rs) (fun v1 m1 r1 => mifO (decide (v1 ≠ (N 0))) (bI (F16 2 (m1 2 3 0 5) (m1 2 3 0 6) m1 r1) (fun v2 m2 r2 => mifO (decide (v2 ≠ (N 0))) (bI (F75 (I (-1)) m2 r2) (fun v3 m3 r3 => mifO (decide (v3 ≠ (I (-1)))) (bI (F81 1 (m3 2 3 0 5) (m3 2 3 0 6) m3 r3) (fun v4 m4 r4 => bV (F17 2 v4 v3 m4 r4) (fun m5 r5 => some (.inl (some (mI (N 1))), m5, r5)))) (some (.inl (some (mI (N 0))), m3, r3)))) (bI (F69 (N 5) m2 r2) (fun v6 m6 r6 => mckO (mZ v6 || false) (some (.inl (some (mI v6)), m6, r6)))))) (some (.inl (some (mI (N 0))), m1, r1)))
set_option maxRecDepth 100000 in
theorem R76 (L : Nat) (mi : mMi) (rs : mRs) : Does 76 [mR 2 3 0] (true, L) mi rs (F76  mi rs) 5 :=
  Does.of fun D K hD => (Ok.mp (B76_0).mpr (Ok.callI (R74 L (N 1) mi rs) (by omega) fun v1 m1 r1 => (Ok.mp (B76_5).mpr (Ok.if (Ok.mp (B76_10).mpr (Ok.callI (R16 2 (by decide) L (m1 2 3 0 5) (m1 2 3 0 6) m1 r1) (by omega) fun v2 m2 r2 => (Ok.mp (B76_25).mpr (Ok.if (Ok.mp (B76_34).mpr (Ok.callI (R75 L (I (-1)) m2 r2) (by omega) fun v3 m3 r3 => (Ok.mp (B76_39).mpr (Ok.if (Ok.mp (B76_47).mpr (Ok.callI (R81 1 (by decide) L (m3 2 3 0 5) (m3 2 3 0 6) m3 r3) (by omega) fun v4 m4 r4 => (Ok.mp (B76_66).mpr (Ok.callV (R17 2 (by decide) L v4 v3 m4 r4) (by omega) fun m5 r5 => (Ok.mp (B76_70).mpr Ok.leaf))))) (Ok.mp (B76_45).mpr Ok.leaf))))) (Ok.mp (B76_28).mpr (Ok.callI (R69 L (N 5) m2 r2) (by omega) fun v6 m6 r6 => (Ok.mp (B76_33).mpr (Ok.gd Ok.leaf)))))))) (Ok.mp (B76_8).mpr Ok.leaf)))))
def F71 (mi : mMi) (rs : mRs) : mRz := bV (F94 mi rs) (fun m1 r1 => bI (F97 2 m1 r1) (fun v2 m2 r2 => mifO (decide (v2 = (N 0))) (bI (F97 3 m2 r2) (fun v3 m3 r3 => mifO (decide (v3 = (N 0))) (bI (F97 4 m3 r3) (fun v4 m4 r4 => mifO (decide (v4 = (N 0))) (bI (F69 (N 1) m4 r4) (fun v5 m5 r5 => mckO (mZ v5 || false) (some (.inl (some (mI v5)), m5, r5)))) (bI (F76 m4 r4) (fun v6 m6 r6 => mckO (mZ v6 || false) (some (.inl (some (mI v6)), m6, r6)))))) (bI (F73 m3 r3) (fun v7 m7 r7 => mckO (mZ v7 || false) (some (.inl (some (mI v7)), m7, r7)))))) (mifO (decide ((N 40) ≤ (m2 1 1 0 4))) (bI (F69 (N 4) m2 r2) (fun v8 m8 r8 => mckO (mZ v8 || false) (some (.inl (some (mI v8)), m8, r8)))) (bI (F72 m2 r2) (fun v9 m9 r9 => mckO (mZ v9 || false) (some (.inl (some (mI v9)), m9, r9)))))))
set_option maxRecDepth 100000 in
theorem R71 (L : Nat) (mi : mMi) (rs : mRs) : Does 71 [mR 2 3 0] (true, L) mi rs (F71  mi rs) 6 :=
  Does.of fun D K hD => (Ok.mp (B71_0).mpr (Ok.callV (R94 L mi rs) (by omega) fun m1 r1 => (Ok.mp (B71_7).mpr (Ok.callI (R97 2 L m1 r1) (by omega) fun v2 m2 r2 => (Ok.mp (B71_16).mpr (Ok.if (Ok.mp (B71_44).mpr (Ok.callI (R97 3 L m2 r2) (by omega) fun v3 m3 r3 => (Ok.mp (B71_53).mpr (Ok.if (Ok.mp (B71_61).mpr (Ok.callI (R97 4 L m3 r3) (by omega) fun v4 m4 r4 => (Ok.mp (B71_70).mpr (Ok.if (Ok.mp (B71_78).mpr (Ok.callI (R69 L (N 1) m4 r4) (by omega) fun v5 m5 r5 => (Ok.mp (B71_83).mpr (Ok.gd Ok.leaf)))) (Ok.mp (B71_73).mpr (Ok.callI (R76 L m4 r4) (by omega) fun v6 m6 r6 => (Ok.mp (B71_77).mpr (Ok.gd Ok.leaf)))))))) (Ok.mp (B71_56).mpr (Ok.callI (R73 L m3 r3) (by omega) fun v7 m7 r7 => (Ok.mp (B71_60).mpr (Ok.gd Ok.leaf)))))))) (Ok.mp (B71_19).mpr (Ok.if (Ok.mp (B71_38).mpr (Ok.callI (R69 L (N 4) m2 r2) (by omega) fun v8 m8 r8 => (Ok.mp (B71_43).mpr (Ok.gd Ok.leaf)))) (Ok.mp (B71_31).mpr (Ok.callI (R72 L m2 r2) (by omega) fun v9 m9 r9 => (Ok.mp (B71_35).mpr (Ok.mp (B71_43).mpr (Ok.gd Ok.leaf)))))))))))))
def F67_43 : Nat → Int32 → Int32 → mMi → mRs → mRz
  | 0, _, _, _, _ => none
  | f + 1, x1, x2, mi, rs => mifO (decide ((N 900) ≤ x2)) (bI (F69 (N 1) mi rs) (fun v1 m1 r1 => mckO (mZ v1 || false) (some (.inl (some (mI v1)), m1, r1)))) (bV (F94 mi rs) (fun m2 r2 => mifO (decide ((m2 2 4 0 4) ≠ (N 0))) (mifO (decide ((m2 2 4 0 4) = (N 3))) (bI (F71 m2 r2) (fun v3 m3 r3 => mifO (decide (v3 ≠ (N 0))) (F67_43 f x1 (x2 + (N 1)) m3 r3) (some (.inl (some (mI (N 0))), m3, r3)))) (bI (F69 (N 1) m2 r2) (fun v4 m4 r4 => mckO (mZ v4 || false) (some (.inl (some (mI v4)), m4, r4))))) (some (.inl (some (mI (N 1))), m2, r2))))
set_option maxRecDepth 100000 in
theorem R67_43 (L : Nat) : ∀ f : Nat, (∀ (x1 : Int32) (x2 : Int32) (mi : mMi) (rs : mRs) (D : Nat) (K : mOut → mH → Prop), 6 ≤ D → Ok (F67_43 f x1 x2 mi rs) (true, L) K (WP (D + 1) 67 43 [some (mR 2 3 0), some (mI x1), some (mI x2)] [] (hp L mi rs) K)) := by
  intro f
  induction f with
  | zero => intro x1 x2 mi rs D K hD; exact Ok.no
  | succ f ih =>
    intro x1 x2 mi rs D K hD
    unfold F67_43
    exact (Ok.mp (B67_43).mpr (Ok.if (Ok.mp (B67_101).mpr (Ok.callI (R69 L (N 1) mi rs) (by omega) fun v1 m1 r1 => (Ok.mp (B67_106).mpr (Ok.gd Ok.leaf)))) (Ok.mp (B67_50).mpr (Ok.callV (R94 L mi rs) (by omega) fun m2 r2 => (Ok.mp (B67_57).mpr (Ok.if (Ok.mp (B67_69).mpr (Ok.if (Ok.mp (B67_86).mpr (Ok.callI (R71 L m2 r2) (by omega) fun v3 m3 r3 => (Ok.mp (B67_90).mpr (Ok.if (Ok.mp (B67_95).mpr (ih x1 (x2 + (N 1)) m3 r3  D K (by omega))) (Ok.mp (B67_93).mpr Ok.leaf))))) (Ok.mp (B67_80).mpr (Ok.callI (R69 L (N 1) m2 r2) (by omega) fun v4 m4 r4 => (Ok.mp (B67_85).mpr (Ok.gd Ok.leaf)))))) (Ok.mp (B67_67).mpr Ok.leaf)))))))
def F67 (x1 : Int32) (mi : mMi) (rs : mRs) : mRz := bV (F78 1 (mset (mset mi 2 3 0 3 (N 0)) 2 3 0 4 (I (-1))) rs) (fun m5 r5 => bV (F11 2 m5 r5) (fun m6 r6 => bV (F93 x1 m6 r6) (fun m7 r7 => bI (F68 m7 r7) (fun v8 m8 r8 => mifO (decide (v8 ≠ (N 0))) (F67_43 FU x1 (N 0) m8 r8) (some (.inl (some (mI (N 0))), m8, r8))))))
set_option maxRecDepth 100000 in
theorem R67 (L : Nat) (x1 : Int32) (mi : mMi) (rs : mRs) : Does 67 [mR 2 3 0, mI x1] (true, L) mi rs (F67 x1 mi rs) 7 :=
  Does.of fun D K hD => (Ok.mp (B67_0).mpr (Ok.callV (R78 1 (by decide) L (mset (mset mi 2 3 0 3 (N 0)) 2 3 0 4 (I (-1))) rs) (by omega) fun m5 r5 => (Ok.mp (B67_17).mpr (Ok.callV (R11 2 (by decide) L m5 r5) (by omega) fun m6 r6 => (Ok.mp (B67_24).mpr (Ok.callV (R93 L x1 m6 r6) (by omega) fun m7 r7 => (Ok.mp (B67_32).mpr (Ok.callI (R68 L m7 r7) (by omega) fun v8 m8 r8 => (Ok.mp (B67_36).mpr (Ok.if (Ok.mp (B67_41).mpr (R67_43 L FU x1 (N 0) m8 r8  D K (by omega))) (Ok.mp (B67_39).mpr Ok.leaf)))))))))))
def F107 (x0 : Int32) (mi : mMi) (rs : mRs) : mRz := mifO (decide (x0 ≠ (N 0))) (some (.inl none, mi, rs)) (rX 3 mi (rsT rs))
set_option maxRecDepth 100000 in
theorem R107 (L : Nat) (x0 : Int32) (mi : mMi) (rs : mRs) : Does 107 [mI x0] (true, L) mi rs (F107 x0 mi rs) 1 :=
  Does.of fun D K hD => (Ok.mp (B107_0).mpr (Ok.if (Ok.mp (B107_15).mpr Ok.leaf) (Ok.mp (B107_4 (qq := (rs).1) (dy := (rs).2.1) (nx := (rs).2.2.1) (cc := (rs).2.2.2.1) (ss := (rs).2.2.2.2)).mpr Ok.leaf)))
def F82 (_ : Nat) (_ : Nat) (mi : mMi) (rs : mRs) : mRz := some (.inl none, (mset (mcopy (mcopy (mcopy (mcopy mi 1 1 1 0 1 0 1 0 6) 1 1 2 0 1 0 2 0 40) 1 1 3 0 1 0 3 0 40) 1 1 4 0 1 0 4 0 40) 1 0 0 4 (mi 1 1 0 4)), rs)
set_option maxRecDepth 100000 in
theorem R82 (L : Nat) (mi : mMi) (rs : mRs) : Does 82 [mR 1 0 0, mR 1 1 0] (true, L) mi rs (F82 0 1  mi rs) 1 :=
  Does.of fun D K hD => (Ok.mp (B82_0).mpr Ok.leaf)
def F3 (i : Nat) (i2 : Nat) (mi : mMi) (rs : mRs) : mRz := some (.inl none, (mset (mcopy (mcopy (mcopy (mcopy mi 0 i2 11 0 0 i 11 0 40) 0 i2 12 0 0 i 12 0 40) 0 i2 13 0 0 i 13 0 40) 0 i2 14 0 0 i 14 0 40) 0 i 10 5 (mi 0 i2 10 5)), rs)
set_option maxRecDepth 100000 in
theorem R3a (i : Nat) (hi : i < 13) (L : Nat) (mi : mMi) (rs : mRs) : Does 3 [mR 0 i 10, mR 0 0 10] (true, L) mi rs (F3 i 0  mi rs) 1 :=
  Does.of fun D K hD => (Ok.mp (B3_0a hi).mpr Ok.leaf)
set_option maxRecDepth 100000 in
theorem R3b (i2 : Nat) (hi2 : i2 < 13) (L : Nat) (mi : mMi) (rs : mRs) : Does 3 [mR 0 0 10, mR 0 i2 10] (true, L) mi rs (F3 0 i2  mi rs) 1 :=
  Does.of fun D K hD => (Ok.mp (B3_0b hi2).mpr Ok.leaf)
def F53 (i : Nat) (i2 : Nat) (mi : mMi) (rs : mRs) : mRz := some (.inl none, (mcopy (mcopy (mcopy (mcopy (mcopy mi 0 i2 2 0 0 i 2 0 96) 0 i2 3 0 0 i 3 0 96) 0 i2 4 0 0 i 4 0 96) 0 i2 5 0 0 i 5 0 96) 0 i2 6 0 0 i 6 0 96), rs)
set_option maxRecDepth 100000 in
theorem R53a (i : Nat) (hi : i < 13) (L : Nat) (mi : mMi) (rs : mRs) : Does 53 [mR 0 i 1, mR 0 0 1] (true, L) mi rs (F53 i 0  mi rs) 1 :=
  Does.of fun D K hD => (Ok.mp (B53_0a hi).mpr Ok.leaf)
set_option maxRecDepth 100000 in
theorem R53b (i2 : Nat) (hi2 : i2 < 13) (L : Nat) (mi : mMi) (rs : mRs) : Does 53 [mR 0 0 1, mR 0 i2 1] (true, L) mi rs (F53 0 i2  mi rs) 1 :=
  Does.of fun D K hD => (Ok.mp (B53_0b hi2).mpr Ok.leaf)
def F44 (i : Nat) (i2 : Nat) (mi : mMi) (rs : mRs) : mRz := some (.inl none, (mset (mcopy (mcopy mi 0 i2 8 0 0 i 8 0 150) 0 i2 9 0 0 i 9 0 4) 0 i 7 2 (mi 0 i2 7 2)), rs)
set_option maxRecDepth 100000 in
theorem R44a (i : Nat) (hi : i < 13) (L : Nat) (mi : mMi) (rs : mRs) : Does 44 [mR 0 i 7, mR 0 0 7] (true, L) mi rs (F44 i 0  mi rs) 1 :=
  Does.of fun D K hD => (Ok.mp (B44_0a hi).mpr Ok.leaf)
set_option maxRecDepth 100000 in
theorem R44b (i2 : Nat) (hi2 : i2 < 13) (L : Nat) (mi : mMi) (rs : mRs) : Does 44 [mR 0 0 7, mR 0 i2 7] (true, L) mi rs (F44 0 i2  mi rs) 1 :=
  Does.of fun D K hD => (Ok.mp (B44_0b hi2).mpr Ok.leaf)
def F18 (i : Nat) (i2 : Nat) (mi : mMi) (rs : mRs) : mRz := bV (F3 i i2 mi rs) (fun m1 r1 => bV (F53 i i2 m1 r1) (fun m2 r2 => bV (F44 i i2 m2 r2) (fun m3 r3 => some (.inl none, (mset (mset m3 0 i 0 5 (m3 0 i2 0 5)) 0 i 0 6 ((mset m3 0 i 0 5 (m3 0 i2 0 5)) 0 i2 0 6)), r3))))
set_option maxRecDepth 100000 in
theorem R18a (i : Nat) (hi : i < 13) (L : Nat) (mi : mMi) (rs : mRs) : Does 18 [mR 0 i 0, mR 0 0 0] (true, L) mi rs (F18 i 0  mi rs) 2 :=
  Does.of fun D K hD => (Ok.mp (B18_0a hi).mpr (Ok.callV (R3a i hi L mi rs) (by omega) fun m1 r1 => (Ok.mp (B18_11a hi).mpr (Ok.callV (R53a i hi L m1 r1) (by omega) fun m2 r2 => (Ok.mp (B18_22a hi).mpr (Ok.callV (R44a i hi L m2 r2) (by omega) fun m3 r3 => (Ok.mp (B18_33a hi).mpr Ok.leaf)))))))
set_option maxRecDepth 100000 in
theorem R18b (i2 : Nat) (hi2 : i2 < 13) (L : Nat) (mi : mMi) (rs : mRs) : Does 18 [mR 0 0 0, mR 0 i2 0] (true, L) mi rs (F18 0 i2  mi rs) 2 :=
  Does.of fun D K hD => (Ok.mp (B18_0b hi2).mpr (Ok.callV (R3b i2 hi2 L mi rs) (by omega) fun m1 r1 => (Ok.mp (B18_11b hi2).mpr (Ok.callV (R53b i2 hi2 L m1 r1) (by omega) fun m2 r2 => (Ok.mp (B18_22b hi2).mpr (Ok.callV (R44b i2 hi2 L m2 r2) (by omega) fun m3 r3 => (Ok.mp (B18_33b hi2).mpr Ok.leaf)))))))
def F108 (x0 : Int32) (mi : mMi) (rs : mRs) : mRz := some (.inl (some (mI (x0 / (N 2)))), mi, rs)
set_option maxRecDepth 100000 in
theorem R108 (L : Nat) (x0 : Int32) (mi : mMi) (rs : mRs) : Does 108 [mI x0] (true, L) mi rs (F108 x0 mi rs) 1 :=
  Does.of fun D K hD => (Ok.mp (B108_0).mpr Ok.leaf)
def F109 (x0 : Int32) (mi : mMi) (rs : mRs) : mRz := some (.inl (some (mI (x0 - (x0 / (N 2))))), mi, rs)
set_option maxRecDepth 100000 in
theorem R109 (L : Nat) (x0 : Int32) (mi : mMi) (rs : mRs) : Does 109 [mI x0] (true, L) mi rs (F109 x0 mi rs) 1 :=
  Does.of fun D K hD => (Ok.mp (B109_0).mpr Ok.leaf)
def F21 (i : Nat) (x1 : Int32) (mi : mMi) (rs : mRs) : mRz := bI (F52 i x1 mi rs) (fun v1 m1 r1 => mifO (decide (v1 = (N 0))) (some (.inl (some (mI (N 0))), m1, r1)) (mckO (mIn x1 96) (mckO (mIn (m1 0 i 6 (mix x1)) 40) (some (.inl (some (mI (m1 1 (RO i) 4 (mix (m1 0 i 6 (mix x1)))))), m1, r1)))))
set_option maxRecDepth 100000 in
theorem R21 (i : Nat) (hi : i < 3) (L : Nat) (x1 : Int32) (mi : mMi) (rs : mRs) : Does 21 [mR 0 i 0, mI x1] (true, L) mi rs (F21 i x1 mi rs) 2 :=
  Does.of fun D K hD => (Ok.mp (B21_0 hi).mpr (Ok.callI (R52 i hi L x1 mi rs) (by omega) fun v1 m1 r1 => (Ok.mp (B21_8 hi).mpr (Ok.if (Ok.mp (B21_31 hi).mpr (Ok.mp (B21_32 hi).mpr Ok.leaf)) (Ok.mp (B21_11 hi).mpr (Ok.gd (Ok.gd (Ok.mp (B21_32 hi).mpr Ok.leaf))))))))
def F22 (i : Nat) (x1 : Int32) (mi : mMi) (rs : mRs) : mRz := bI (F51 i x1 mi rs) (fun v1 m1 r1 => mifO (decide (v1 = (N 0))) (some (.inl (some (mI (N 0))), m1, r1)) (mckO (mIn x1 96) (mckO (mIn (m1 0 i 2 (mix x1)) 40) (mckO (mIn x1 96) (mckO (mIn (m1 0 i 3 (mix x1)) 40) (some (.inl (some (mI ((m1 1 (RO i) 4 (mix (m1 0 i 2 (mix x1)))) + (m1 1 (RO i) 4 (mix (m1 0 i 3 (mix x1))))))), m1, r1)))))))
set_option maxRecDepth 100000 in
theorem R22 (i : Nat) (hi : i < 3) (L : Nat) (x1 : Int32) (mi : mMi) (rs : mRs) : Does 22 [mR 0 i 0, mI x1] (true, L) mi rs (F22 i x1 mi rs) 2 :=
  Does.of fun D K hD => (Ok.mp (B22_0 hi).mpr (Ok.callI (R51 i hi L x1 mi rs) (by omega) fun v1 m1 r1 => (Ok.mp (B22_8 hi).mpr (Ok.if (Ok.mp (B22_49 hi).mpr (Ok.mp (B22_50 hi).mpr Ok.leaf)) (Ok.mp (B22_11 hi).mpr (Ok.gd (Ok.gd (Ok.gd (Ok.gd (Ok.mp (B22_50 hi).mpr Ok.leaf))))))))))
