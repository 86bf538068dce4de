/-! METHODS AS FUNCTIONS, by program. -/
def F86 (i2 : Nat) (x2 : Int32) (x3 : Int32) (mi : mMi) (rs : mRs) : mRz := bI (F81 (RO i2) x2 x3 mi rs) (fun v1 m1 r1 => bI (F81 (RO i2) (x2 + (N 1)) (x3 - (N 1)) m1 r1) (fun v2 m2 r2 => bI (F81 (RO i2) (x2 + (N 1)) x3 m2 r2) (fun v3 m3 r3 => bI (F52 i2 v2 m3 r3) (fun v4 m4 r4 => mifO (decide (v4 = (N 0))) (bI (F52 i2 v3 m4 r4) (fun v5 m5 r5 => mifO (decide (v5 = (N 0))) (mckO (mIn v1 96) (bI (F21 i2 v1 (mset m5 2 2 1 (mix v1) (N 0)) r5) (fun v6 m6 r6 => bI (F22 i2 v1 m6 r6) (fun v7 m7 r7 => mckO (mIn v1 96) (some (.inl none, (mset m7 2 2 2 (mix v1) ((v6 + v7) + (N 0))), r7)))))) (mckO (mIn v3 96) (bI (F109 (m5 2 2 2 (mix v3)) m5 r5) (fun v8 m8 r8 => mckO (mIn v1 96) (bI (F21 i2 v1 (mset m8 2 2 1 (mix v1) ((N 0) + v8)) r8) (fun v9 m9 r9 => bI (F22 i2 v1 m9 r9) (fun v10 m10 r10 => mckO (mIn v1 96) (some (.inl none, (mset m10 2 2 2 (mix v1) ((v9 + v10) + ((N 0) + v8))), r10)))))))))) (mckO (mIn v2 96) (bI (F108 (m4 2 2 2 (mix v2)) m4 r4) (fun v11 m11 r11 => bI (F52 i2 v3 m11 r11) (fun v12 m12 r12 => mifO (decide (v12 = (N 0))) (mckO (mIn v1 96) (bI (F21 i2 v1 (mset m12 2 2 1 (mix v1) ((N 0) + v11)) r12) (fun v13 m13 r13 => bI (F22 i2 v1 m13 r13) (fun v14 m14 r14 => mckO (mIn v1 96) (some (.inl none, (mset m14 2 2 2 (mix v1) ((v13 + v14) + ((N 0) + v11))), r14)))))) (mckO (mIn v3 96) (bI (F109 (m12 2 2 2 (mix v3)) m12 r12) (fun v15 m15 r15 => mckO (mIn v1 96) (bI (F21 i2 v1 (mset m15 2 2 1 (mix v1) (((N 0) + v11) + v15)) r15) (fun v16 m16 r16 => bI (F22 i2 v1 m16 r16) (fun v17 m17 r17 => mckO (mIn v1 96) (some (.inl none, (mset m17 2 2 2 (mix v1) ((v16 + v17) + (((N 0) + v11) + v15))), r17))))))))))))))))
set_option maxRecDepth 100000 in
theorem R86 (i2 : Nat) (hi2 : i2 < 3) (L : Nat) (x2 : Int32) (x3 : Int32) (mi : mMi) (rs : mRs) : Does 86 [mR 2 2 0, mR 0 i2 0, mI x2, mI x3] (true, L, none) mi rs (F86 i2 x2 x3 mi rs) 3 :=
  Does.of fun D K hD => (Ok.mp (B86_0 hi2).mpr (Ok.callI (R81 (RO i2) (RO_lt _) L x2 x3 mi rs) (by omega) fun v1 m1 r1 => (Ok.mp (B86_9 hi2).mpr (Ok.callI (R81 (RO i2) (RO_lt _) L (x2 + (N 1)) (x3 - (N 1)) m1 r1) (by omega) fun v2 m2 r2 => (Ok.mp (B86_24 hi2).mpr (Ok.callI (R81 (RO i2) (RO_lt _) L (x2 + (N 1)) x3 m2 r2) (by omega) fun v3 m3 r3 => (Ok.mp (B86_37 hi2).mpr (Ok.callI (R52 i2 hi2 L v2 m3 r3) (by omega) fun v4 m4 r4 => (Ok.mp (B86_51 hi2).mpr (Ok.if (Ok.mp (B86_69 hi2).mpr (Ok.callI (R52 i2 hi2 L v3 m4 r4) (by omega) fun v5 m5 r5 => (Ok.mp (B86_78 hi2).mpr (Ok.if (Ok.mp (B86_96 hi2).mpr (Ok.gd (Ok.callI (R21 i2 hi2 L v1 (mset m5 2 2 1 (mix v1) (N 0)) r5) (by omega) fun v6 m6 r6 => (Ok.mp (B86_117 hi2).mpr (Ok.callI (R22 i2 hi2 L v1 m6 r6) (by omega) fun v7 m7 r7 => (Ok.mp (B86_123 hi2).mpr (Ok.gd Ok.leaf))))))) (Ok.mp (B86_81 hi2).mpr (Ok.gd (Ok.callI (R109 L (m5 2 2 2 (mix v3)) m5 r5) (by omega) fun v8 m8 r8 => (Ok.mp (B86_93 hi2).mpr (Ok.mp (B86_96 hi2).mpr (Ok.gd (Ok.callI (R21 i2 hi2 L v1 (mset m8 2 2 1 (mix v1) ((N 0) + v8)) r8) (by omega) fun v9 m9 r9 => (Ok.mp (B86_117 hi2).mpr (Ok.callI (R22 i2 hi2 L v1 m9 r9) (by omega) fun v10 m10 r10 => (Ok.mp (B86_123 hi2).mpr (Ok.gd Ok.leaf))))))))))))))) (Ok.mp (B86_54 hi2).mpr (Ok.gd (Ok.callI (R108 L (m4 2 2 2 (mix v2)) m4 r4) (by omega) fun v11 m11 r11 => (Ok.mp (B86_66 hi2).mpr (Ok.mp (B86_69 hi2).mpr (Ok.callI (R52 i2 hi2 L v3 m11 r11) (by omega) fun v12 m12 r12 => (Ok.mp (B86_78 hi2).mpr (Ok.if (Ok.mp (B86_96 hi2).mpr (Ok.gd (Ok.callI (R21 i2 hi2 L v1 (mset m12 2 2 1 (mix v1) ((N 0) + v11)) r12) (by omega) fun v13 m13 r13 => (Ok.mp (B86_117 hi2).mpr (Ok.callI (R22 i2 hi2 L v1 m13 r13) (by omega) fun v14 m14 r14 => (Ok.mp (B86_123 hi2).mpr (Ok.gd Ok.leaf))))))) (Ok.mp (B86_81 hi2).mpr (Ok.gd (Ok.callI (R109 L (m12 2 2 2 (mix v3)) m12 r12) (by omega) fun v15 m15 r15 => (Ok.mp (B86_93 hi2).mpr (Ok.mp (B86_96 hi2).mpr (Ok.gd (Ok.callI (R21 i2 hi2 L v1 (mset m15 2 2 1 (mix v1) (((N 0) + v11) + v15)) r15) (by omega) fun v16 m16 r16 => (Ok.mp (B86_117 hi2).mpr (Ok.callI (R22 i2 hi2 L v1 m16 r16) (by omega) fun v17 m17 r17 => (Ok.mp (B86_123 hi2).mpr (Ok.gd Ok.leaf)))))))))))))))))))))))))))))
def F85_3 (i2 : Nat) : Nat → Nat → Int32 → Int32 → mMi → mRs → mRz
  | 0, _, _, _, _, _ => none
  | f + 1, t, x2, x3, mi, rs => match t with
    | 3 => mifO (decide (x2 < (N 0))) (some (.inl none, mi, rs)) (F85_3 i2 f 9 x2 (N 0) mi rs)
    | 9 => bI (F80 (RO i2) x2 mi rs) (fun v1 m1 r1 => mifO (decide (v1 ≤ x3)) (F85_3 i2 f 3 (x2 + (I (-1))) (N 0) m1 r1) (bV (F86 i2 x2 x3 m1 r1) (fun m2 r2 => F85_3 i2 f 9 x2 (x3 + (N 1)) m2 r2)))
    | _ => none
set_option maxRecDepth 100000 in
theorem R85_3 (i2 : Nat) (hi2 : i2 < 3) (L : Nat) : ∀ f : Nat, (∀ (x2 : Int32) (mi : mMi) (rs : mRs) (l3 : Option mV) (_ : mC2 l3 = true) (D : Nat) (K : mOut → mH → Prop), 3 ≤ D → Ok (F85_3 i2 f 3 x2 (N 0) mi rs) (true, L, none) K (WP (D + 1) 85 3 [some (mR 2 2 0), some (mR 0 i2 0), some (mI x2), l3] [] (hq (true, L, none) mi rs) K)) ∧ (∀ (x2 : Int32) (x3 : Int32) (mi : mMi) (rs : mRs) (D : Nat) (K : mOut → mH → Prop), 3 ≤ D → Ok (F85_3 i2 f 9 x2 x3 mi rs) (true, L, none) K (WP (D + 1) 85 9 [some (mR 2 2 0), some (mR 0 i2 0), some (mI x2), some (mI x3)] [] (hq (true, L, none) mi rs) K)) := by
  intro f
  induction f with
  | zero => exact ⟨(by intro x2 mi rs l3 hl3 D K hD; exact Ok.no), (by intro x2 x3 mi rs D K hD; exact Ok.no)⟩
  | succ f ih =>
    refine ⟨?_, ?_⟩
    · intro x2 mi rs l3 hl3 D K hD
      unfold F85_3
      exact (Ok.mp (B85_3 hi2).mpr (Ok.if (Ok.mp (B85_40 hi2).mpr Ok.leaf) (Ok.mp (B85_7 hi2).mpr (ih.2 x2 (N 0) mi rs  D K (by omega)))))
    · intro x2 x3 mi rs D K hD
      unfold F85_3
      exact (Ok.mp (B85_9 hi2).mpr (Ok.callI (R80 (RO i2) (RO_lt _) L x2 mi rs) (by omega) fun v1 m1 r1 => (Ok.mp (B85_18 hi2).mpr (Ok.if (Ok.mp (B85_34).mpr (Ok.mp (B85_37 hi2).mpr (ih.1 (x2 + (I (-1))) m1 r1 (some (mI x3)) rfl D K (by omega)))) (Ok.mp (B85_21 hi2).mpr (Ok.callV (R86 i2 hi2 L x2 x3 m1 r1) (by omega) fun m2 r2 => (Ok.mp (B85_28 hi2).mpr (ih.2 x2 (x3 + (N 1)) m2 r2  D K (by omega)))))))))
def F85 (i2 : Nat) (mi : mMi) (rs : mRs) : mRz := F85_3 i2 FU 3 (N 7) (N 0) mi rs
set_option maxRecDepth 100000 in
theorem R85 (i2 : Nat) (hi2 : i2 < 3) (L : Nat) (mi : mMi) (rs : mRs) : Does 85 [mR 2 2 0, mR 0 i2 0] (true, L, none) mi rs (F85 i2  mi rs) 4 :=
  Does.of fun D K hD => (Ok.mp (B85_0 hi2).mpr ((R85_3 i2 hi2 L FU).1 (N 7) mi rs none rfl D K (by omega)))
def F25 (i : Nat) (x1 : Int32) (mi : mMi) (rs : mRs) : mRz := bI (F51 i x1 mi rs) (fun v1 m1 r1 => mifO (decide (v1 = (N 0))) (some (.inl (some (mI (N 0))), m1, r1)) (mckO (mIn x1 96) (mckO (mIn (m1 0 i 2 (mix x1)) 40) (mckO (mIn x1 96) (mckO (mIn (m1 0 i 3 (mix x1)) 40) (some (.inl (some (mI ((m1 0 i 11 (mix (m1 0 i 2 (mix x1)))) + (m1 0 i 11 (mix (m1 0 i 3 (mix x1))))))), m1, r1)))))))
set_option maxRecDepth 100000 in
theorem R25 (i : Nat) (hi : i < 3) (L : Nat) (x1 : Int32) (mi : mMi) (rs : mRs) : Does 25 [mR 0 i 0, mI x1] (true, L, none) mi rs (F25 i x1 mi rs) 2 :=
  Does.of fun D K hD => (Ok.mp (B25_0 hi).mpr (Ok.callI (R51 i hi L x1 mi rs) (by omega) fun v1 m1 r1 => (Ok.mp (B25_8 hi).mpr (Ok.if (Ok.mp (B25_49 hi).mpr (Ok.mp (B25_50 hi).mpr Ok.leaf)) (Ok.mp (B25_11 hi).mpr (Ok.gd (Ok.gd (Ok.gd (Ok.gd (Ok.mp (B25_50 hi).mpr Ok.leaf))))))))))
def F110 (x0 : Int32) (x1 : Int32) (mi : mMi) (rs : mRs) : mRz := some (.inl (some (mI ((x0 * ((N 100) - ((N 2) * (if 0 ≤ (x1 - (N 45)) then (x1 - (N 45)) else 0 - (x1 - (N 45)))))) / (N 25)))), mi, rs)
set_option maxRecDepth 100000 in
theorem R110 (L : Nat) (x0 : Int32) (x1 : Int32) (mi : mMi) (rs : mRs) : Does 110 [mI x0, mI x1] (true, L, none) mi rs (F110 x0 x1 mi rs) 1 :=
  Does.of fun D K hD => (Ok.mp (B110_0).mpr Ok.leaf)
def F24 (i : Nat) (x1 : Int32) (mi : mMi) (rs : mRs) : mRz := bI (F51 i x1 mi rs) (fun v1 m1 r1 => mifO (decide (v1 = (N 0))) (some (.inl (some (mI (N 0))), m1, r1)) (bI (F25 i x1 m1 r1) (fun v2 m2 r2 => mckO (mIn x1 96) (bI (F110 v2 (m2 0 i 4 (mix x1)) m2 r2) (fun v3 m3 r3 => some (.inl (some (mI v3)), m3, r3))))))
set_option maxRecDepth 100000 in
theorem R24 (i : Nat) (hi : i < 3) (L : Nat) (x1 : Int32) (mi : mMi) (rs : mRs) : Does 24 [mR 0 i 0, mI x1] (true, L, none) mi rs (F24 i x1 mi rs) 3 :=
  Does.of fun D K hD => (Ok.mp (B24_0 hi).mpr (Ok.callI (R51 i hi L x1 mi rs) (by omega) fun v1 m1 r1 => (Ok.mp (B24_8 hi).mpr (Ok.if (Ok.mp (B24_31 hi).mpr (Ok.mp (B24_32 hi).mpr Ok.leaf)) (Ok.mp (B24_11 hi).mpr (Ok.callI (R25 i hi L x1 m1 r1) (by omega) fun v2 m2 r2 => (Ok.mp (B24_16 hi).mpr (Ok.gd (Ok.callI (R110 L v2 (m2 0 i 4 (mix x1)) m2 r2) (by omega) fun v3 m3 r3 => (Ok.mp (B24_28 hi).mpr (Ok.mp (B24_32 hi).mpr Ok.leaf)))))))))))
def F23 (i : Nat) (x1 : Int32) (mi : mMi) (rs : mRs) : mRz := bI (F24 i x1 mi rs) (fun v1 m1 r1 => mckO (mIn x1 96) (some (.inl (some (mI (v1 - (m1 2 2 1 (mix x1))))), m1, r1)))
set_option maxRecDepth 100000 in
theorem R23 (i : Nat) (hi : i < 3) (L : Nat) (x1 : Int32) (mi : mMi) (rs : mRs) : Does 23 [mR 0 i 0, mI x1] (true, L, none) mi rs (F23 i x1 mi rs) 4 :=
  Does.of fun D K hD => (Ok.mp (B23_0 hi).mpr (Ok.callI (R24 i hi L x1 mi rs) (by omega) fun v1 m1 r1 => (Ok.mp (B23_5 hi).mpr (Ok.gd Ok.leaf))))
def F20_10 (i : Nat) : Nat → Int32 → mMi → mRs → mRz
  | 0, _, _, _ => none
  | f + 1, x1, mi, rs => mifO (decide ((N 96) ≤ x1)) (some (.inl (some (mI (I (-1)))), mi, rs)) (bI (F51 i x1 mi rs) (fun v1 m1 r1 => mifO (decide (v1 = (N 0))) (F20_10 i f (x1 + (N 1)) m1 r1) (bI (F23 i x1 m1 r1) (fun v2 m2 r2 => mifO (decide ((N 0) ≤ v2)) (F20_10 i f (x1 + (N 1)) m2 r2) (some (.inl (some (mI x1)), m2, r2))))))
set_option maxRecDepth 100000 in
theorem R20_10 (i : Nat) (hi : i < 3) (L : Nat) : ∀ f : Nat, (∀ (x1 : Int32) (mi : mMi) (rs : mRs) (D : Nat) (K : mOut → mH → Prop), 4 ≤ D → Ok (F20_10 i f x1 mi rs) (true, L, none) K (WP (D + 1) 20 10 [some (mR 0 i 0), some (mI x1)] [] (hq (true, L, none) mi rs) K)) := by
  intro f
  induction f with
  | zero => intro x1 mi rs D K hD; exact Ok.no
  | succ f ih =>
    intro x1 mi rs D K hD
    unfold F20_10
    exact (Ok.mp (B20_10 hi).mpr (Ok.if (Ok.mp (B20_43 hi).mpr Ok.leaf) (Ok.mp (B20_16 hi).mpr (Ok.callI (R51 i hi L x1 mi rs) (by omega) fun v1 m1 r1 => (Ok.mp (B20_24 hi).mpr (Ok.if (Ok.mp (B20_37 hi).mpr (ih (x1 + (N 1)) m1 r1  D K (by omega))) (Ok.mp (B20_27 hi).mpr (Ok.callI (R23 i hi L x1 m1 r1) (by omega) fun v2 m2 r2 => (Ok.mp (B20_32 hi).mpr (Ok.if (Ok.mp (B20_37 hi).mpr (ih (x1 + (N 1)) m2 r2  D K (by omega))) (Ok.mp (B20_35 hi).mpr Ok.leaf)))))))))))
def F20 (i : Nat) (mi : mMi) (rs : mRs) : mRz := bV (F85 i mi rs) (fun m3 r3 => F20_10 i FU (N 0) m3 r3)
set_option maxRecDepth 100000 in
theorem R20 (i : Nat) (hi : i < 3) (L : Nat) (mi : mMi) (rs : mRs) : Does 20 [mR 0 i 0] (true, L, none) mi rs (F20 i  mi rs) 5 :=
  Does.of fun D K hD => (Ok.mp (B20_0 hi).mpr (Ok.callV (R85 i hi L mi rs) (by omega) fun m3 r3 => (Ok.mp (B20_8 hi).mpr (R20_10 i hi L FU (N 0) m3 r3  D K (by omega)))))
def F111 (x0 : Int32) (mi : mMi) (rs : mRs) : mRz := some (.inl (some (mI (x0 / (N 12)))), mi, rs)
set_option maxRecDepth 100000 in
theorem R111 (L : Nat) (x0 : Int32) (mi : mMi) (rs : mRs) : Does 111 [mI x0] (true, L, none) mi rs (F111 x0 mi rs) 1 :=
  Does.of fun D K hD => (Ok.mp (B111_0).mpr Ok.leaf)
def F112 (x0 : Int32) (mi : mMi) (rs : mRs) : mRz := some (.inl (some (mI (x0 - x0 / (N 12) * (N 12)))), mi, rs)
set_option maxRecDepth 100000 in
theorem R112 (L : Nat) (x0 : Int32) (mi : mMi) (rs : mRs) : Does 112 [mI x0] (true, L, none) mi rs (F112 x0 mi rs) 1 :=
  Does.of fun D K hD => (Ok.mp (B112_0).mpr Ok.leaf)
def F45 (i : Nat) (x1 : Int32) (x2 : Int32) (x3 : Int32) (x4 : Int32) (x5 : Int32) (mi : mMi) (rs : mRs) : mRz := mckO (mIn (((mi 0 i 7 2) - (mi 0 i 7 2) / (N 30) * (N 30)) * (N 5)) 150) (mckO (mIn ((((mi 0 i 7 2) - (mi 0 i 7 2) / (N 30) * (N 30)) * (N 5)) + (N 1)) 150) (mckO (mIn ((((mi 0 i 7 2) - (mi 0 i 7 2) / (N 30) * (N 30)) * (N 5)) + (N 2)) 150) (mckO (mIn ((((mi 0 i 7 2) - (mi 0 i 7 2) / (N 30) * (N 30)) * (N 5)) + (N 3)) 150) (mckO (mIn ((((mi 0 i 7 2) - (mi 0 i 7 2) / (N 30) * (N 30)) * (N 5)) + (N 4)) 150) (mckO (mIn x5 4) (mckO (mIn x5 4) (some (.inl none, (mset (mset (mset (mset (mset (mset (mset mi 0 i 8 (mix (((mi 0 i 7 2) - (mi 0 i 7 2) / (N 30) * (N 30)) * (N 5))) x1) 0 i 8 (mix ((((mi 0 i 7 2) - (mi 0 i 7 2) / (N 30) * (N 30)) * (N 5)) + (N 1))) x2) 0 i 8 (mix ((((mi 0 i 7 2) - (mi 0 i 7 2) / (N 30) * (N 30)) * (N 5)) + (N 2))) x3) 0 i 8 (mix ((((mi 0 i 7 2) - (mi 0 i 7 2) / (N 30) * (N 30)) * (N 5)) + (N 3))) x4) 0 i 8 (mix ((((mi 0 i 7 2) - (mi 0 i 7 2) / (N 30) * (N 30)) * (N 5)) + (N 4))) x5) 0 i 9 (mix x5) ((mi 0 i 9 (mix x5)) + (N 1))) 0 i 7 2 ((mi 0 i 7 2) + (N 1))), rs))))))))
set_option maxRecDepth 100000 in
theorem R45 (i : Nat) (hi : i < 3) (L : Nat) (x1 : Int32) (x2 : Int32) (x3 : Int32) (x4 : Int32) (x5 : Int32) (mi : mMi) (rs : mRs) : Does 45 [mR 0 i 7, mI x1, mI x2, mI x3, mI x4, mI x5] (true, L, none) mi rs (F45 i x1 x2 x3 x4 x5 mi rs) 1 :=
  Does.of fun D K hD => (Ok.mp (B45_0 hi).mpr (Ok.gd (Ok.gd (Ok.gd (Ok.gd (Ok.gd (Ok.gd (Ok.gd Ok.leaf))))))))
def F4 (i : Nat) (x1 : Int32) (mi : mMi) (rs : mRs) : mRz := mifO (decide ((N 40) ≤ (mi 0 i 10 5))) (some (.inl none, mi, rs)) (mckO (mIn (mi 0 i 10 5) 40) (mckO (mIn x1 40) (some (.inl none, (mset (mset (mset mi 0 i 14 (mix (mi 0 i 10 5)) x1) 0 i 10 5 ((mi 0 i 10 5) + (N 1))) 0 i 13 (mix x1) (I (-2))), rs))))
set_option maxRecDepth 100000 in
theorem R4 (i : Nat) (hi : i < 3) (L : Nat) (x1 : Int32) (mi : mMi) (rs : mRs) : Does 4 [mR 0 i 10, mI x1] (true, L, none) mi rs (F4 i x1 mi rs) 1 :=
  Does.of fun D K hD => (Ok.mp (B4_0 hi).mpr (Ok.if (Ok.mp (B4_37 hi).mpr Ok.leaf) (Ok.mp (B4_9 hi).mpr (Ok.gd (Ok.gd (Ok.mp (B4_37 hi).mpr Ok.leaf))))))
def F5 (i : Nat) (x1 : Int32) (mi : mMi) (rs : mRs) : mRz := mckO (mIn x1 40) (mifO (decide ((mi 0 i 11 (mix x1)) ≤ (N 1))) (some (.inl none, mi, rs)) (mckO (mIn x1 40) (mckO (mIn x1 40) (mckO (mIn x1 40) (mckO (mIn x1 40) (some (.inl none, (mset (mset mi 0 i 11 (mix x1) ((mi 0 i 11 (mix x1)) - (N 1))) 0 i 12 (mix x1) ((mi 0 i 12 (mix x1)) + (N 1))), rs)))))))
set_option maxRecDepth 100000 in
theorem R5 (i : Nat) (hi : i < 3) (L : Nat) (x1 : Int32) (mi : mMi) (rs : mRs) : Does 5 [mR 0 i 10, mI x1] (true, L, none) mi rs (F5 i x1 mi rs) 1 :=
  Does.of fun D K hD => (Ok.mp (B5_0 hi).mpr (Ok.gd (Ok.if (Ok.mp (B5_30 hi).mpr Ok.leaf) (Ok.mp (B5_10 hi).mpr (Ok.gd (Ok.gd (Ok.gd (Ok.gd (Ok.mp (B5_30 hi).mpr Ok.leaf)))))))))
def F27 (i : Nat) (x1 : Int32) (x2 : Int32) (x3 : Int32) (mi : mMi) (rs : mRs) : mRz := mifO (decide (x1 ≠ x3)) (bV (F4 i x1 mi rs) (fun m1 r1 => mifO (decide (x2 < (m1 1 (RO i) 1 5))) (some (.inl none, m1, r1)) (bV (F5 i x1 m1 r1) (fun m2 r2 => some (.inl none, m2, r2))))) (mckO (mIn x1 40) (some (.inl none, (mset mi 0 i 13 (mix x1) (I (-1))), rs)))
set_option maxRecDepth 100000 in
theorem R27 (i : Nat) (hi : i < 3) (L : Nat) (x1 : Int32) (x2 : Int32) (x3 : Int32) (mi : mMi) (rs : mRs) : Does 27 [mR 0 i 0, mI x1, mI x2, mI x3] (true, L, none) mi rs (F27 i x1 x2 x3 mi rs) 2 :=
  Does.of fun D K hD => (Ok.mp (B27_0 hi).mpr (Ok.if (Ok.mp (B27_16 hi).mpr (Ok.callV (R4 i hi L x1 mi rs) (by omega) fun m1 r1 => (Ok.mp (B27_24 hi).mpr (Ok.if (Ok.mp (B27_45 hi).mpr Ok.leaf) (Ok.mp (B27_37 hi).mpr (Ok.callV (R5 i hi L x1 m1 r1) (by omega) fun m2 r2 => (Ok.mp (B27_45 hi).mpr Ok.leaf))))))) (Ok.mp (B27_5 hi).mpr (Ok.gd Ok.leaf))))
def FR : Nat → Nat → Nat → Int32 → Int32 → Int32 → Int32 → mMi → mRs → mRz
  | 0, _, _, _, _, _, _, _, _ => none
  | f + 1, t, i, x1, x2, x3, x4, mi, rs => match t with
    | 26 => bI (F81 (RO i) x1 x2 mi rs) (fun v1 m1 r1 => bI (F51 i v1 m1 r1) (fun v2 m2 r2 => mifO (decide (v2 ≠ (N 0))) (mckO (mIn v1 96) (mckO (mIn v1 96) (mckO (mIn v1 96) (bV (F45 i (m2 0 i 0 5) x1 x2 (N 0) x3 (mset m2 0 i 2 (mix v1) (I (-1))) r2) (fun m3 r3 => bV (F27 i (m2 0 i 2 (mix v1)) x1 x4 m3 r3) (fun m4 r4 => bV (F27 i (m2 0 i 3 (mix v1)) x1 x4 m4 r4) (fun m5 r5 => bV (FR f 28 i (x1 + (N 1)) (x2 - (N 1)) (N 2) (I (-1)) m5 r5) (fun m6 r6 => bV (FR f 28 i (x1 + (N 1)) x2 (N 2) (I (-1)) m6 r6) (fun m7 r7 => some (.inl none, m7, r7)))))))))) (some (.inl none, m2, r2))))
    | 28 => bI (F81 (RO i) x1 x2 mi rs) (fun v1 m1 r1 => bI (F52 i v1 m1 r1) (fun v2 m2 r2 => mifO (decide (v2 ≠ (N 0))) (mckO (mIn v1 96) (mckO (mIn v1 96) (bV (F45 i (m2 0 i 0 5) x1 x2 (N 1) x3 (mset m2 0 i 6 (mix v1) (I (-1))) r2) (fun m3 r3 => bV (F27 i (m2 0 i 6 (mix v1)) x1 x4 m3 r3) (fun m4 r4 => bV (FR f 26 i x1 x2 (N 2) (I (-1)) m4 r4) (fun m5 r5 => some (.inl none, m5, r5))))))) (some (.inl none, m2, r2))))
    | _ => none
set_option maxRecDepth 100000 in
theorem RR (L : Nat) : ∀ f : Nat, (∀ (i : Nat) (hi : i < 3) (x1 x2 x3 x4 : Int32) (mi : mMi) (rs : mRs), Does 26 [mR 0 i 0, mI x1, mI x2, mI x3, mI x4] (true, L, none) mi rs (FR f 26 i x1 x2 x3 x4 mi rs) (2 + f + 1)) ∧ (∀ (i : Nat) (hi : i < 3) (x1 x2 x3 x4 : Int32) (mi : mMi) (rs : mRs), Does 28 [mR 0 i 0, mI x1, mI x2, mI x3, mI x4] (true, L, none) mi rs (FR f 28 i x1 x2 x3 x4 mi rs) (2 + f + 1)) := by
  intro f
  induction f with
  | zero => exact ⟨fun i hi x1 x2 x3 x4 mi rs z e => (by cases e), fun i hi x1 x2 x3 x4 mi rs z e => (by cases e)⟩
  | succ f ih =>
    refine ⟨?_, ?_⟩
    · intro i hi x1 x2 x3 x4 mi rs
      unfold FR
      exact Does.of (d := 2 + f + 1) fun D K hD => (Ok.mp (B26_0 hi).mpr (Ok.callI (R81 (RO i) (RO_lt _) L x1 x2 mi rs) (by omega) fun v1 m1 r1 => (Ok.mp (B26_9 hi).mpr (Ok.callI (R51 i hi L v1 m1 r1) (by omega) fun v2 m2 r2 => (Ok.mp (B26_20 hi).mpr (Ok.if (Ok.mp (B26_24 hi).mpr (Ok.gd (Ok.gd (Ok.gd (Ok.callV (R45 i hi L (m2 0 i 0 5) x1 x2 (N 0) x3 (mset m2 0 i 2 (mix v1) (I (-1))) r2) (by omega) fun m3 r3 => (Ok.mp (B26_74 hi).mpr (Ok.callV (R27 i hi L (m2 0 i 2 (mix v1)) x1 x4 m3 r3) (by omega) fun m4 r4 => (Ok.mp (B26_83 hi).mpr (Ok.callV (R27 i hi L (m2 0 i 3 (mix v1)) x1 x4 m4 r4) (by omega) fun m5 r5 => (Ok.mp (B26_92 hi).mpr (Ok.callV (ih.2 i hi (x1 + (N 1)) (x2 - (N 1)) (N 2) (I (-1)) m5 r5) (by omega) fun m6 r6 => (Ok.mp (B26_104 hi).mpr (Ok.callV (ih.2 i hi (x1 + (N 1)) x2 (N 2) (I (-1)) m6 r6) (by omega) fun m7 r7 => (Ok.mp (B26_114 hi).mpr Ok.leaf)))))))))))))) (Ok.mp (B26_23 hi).mpr Ok.leaf)))))))
    · intro i hi x1 x2 x3 x4 mi rs
      unfold FR
      exact Does.of (d := 2 + f + 1) fun D K hD => (Ok.mp (B28_0 hi).mpr (Ok.callI (R81 (RO i) (RO_lt _) L x1 x2 mi rs) (by omega) fun v1 m1 r1 => (Ok.mp (B28_9 hi).mpr (Ok.callI (R52 i hi L v1 m1 r1) (by omega) fun v2 m2 r2 => (Ok.mp (B28_20 hi).mpr (Ok.if (Ok.mp (B28_24 hi).mpr (Ok.gd (Ok.gd (Ok.callV (R45 i hi L (m2 0 i 0 5) x1 x2 (N 1) x3 (mset m2 0 i 6 (mix v1) (I (-1))) r2) (by omega) fun m3 r3 => (Ok.mp (B28_62 hi).mpr (Ok.callV (R27 i hi L (m2 0 i 6 (mix v1)) x1 x4 m3 r3) (by omega) fun m4 r4 => (Ok.mp (B28_71 hi).mpr (Ok.callV (ih.1 i hi x1 x2 (N 2) (I (-1)) m4 r4) (by omega) fun m5 r5 => (Ok.mp (B28_79 hi).mpr Ok.leaf))))))))) (Ok.mp (B28_23 hi).mpr Ok.leaf)))))))
def F26 (i : Nat) (x1 : Int32) (x2 : Int32) (x3 : Int32) (x4 : Int32) (mi : mMi) (rs : mRs) : mRz := FR 20 26 i x1 x2 x3 x4 mi rs
set_option maxRecDepth 100000 in
theorem R26 (i : Nat) (hi : i < 3) (L : Nat) (x1 : Int32) (x2 : Int32) (x3 : Int32) (x4 : Int32) (mi : mMi) (rs : mRs) : Does 26 [mR 0 i 0, mI x1, mI x2, mI x3, mI x4] (true, L, none) mi rs (F26 i x1 x2 x3 x4 mi rs) 23 := (RR L 20).1 i hi x1 x2 x3 x4 mi rs
def F28 (i : Nat) (x1 : Int32) (x2 : Int32) (x3 : Int32) (x4 : Int32) (mi : mMi) (rs : mRs) : mRz := FR 20 28 i x1 x2 x3 x4 mi rs
set_option maxRecDepth 100000 in
theorem R28 (i : Nat) (hi : i < 3) (L : Nat) (x1 : Int32) (x2 : Int32) (x3 : Int32) (x4 : Int32) (mi : mMi) (rs : mRs) : Does 28 [mR 0 i 0, mI x1, mI x2, mI x3, mI x4] (true, L, none) mi rs (F28 i x1 x2 x3 x4 mi rs) 23 := (RR L 20).2 i hi x1 x2 x3 x4 mi rs
def F19_10 (i : Nat) : Nat → Int32 → Int32 → mMi → mRs → mRz
  | 0, _, _, _, _ => none
  | f + 1, x1, x2, mi, rs => mifO (decide ((N 96) ≤ x2)) (some (.inl (some (mI ((mi 0 i 7 2) - x1))), mi, rs)) (bI (F20 i mi rs) (fun v1 m1 r1 => mifO (decide (v1 ≠ (I (-1)))) (bI (F111 v1 m1 r1) (fun v2 m2 r2 => bI (F112 v1 m2 r2) (fun v3 m3 r3 => bV (F26 i v2 v3 (N 0) (I (-1)) m3 r3) (fun m4 r4 => F19_10 i f x1 (x2 + (N 1)) m4 r4)))) (some (.inl (some (mI ((m1 0 i 7 2) - x1))), m1, r1))))
set_option maxRecDepth 100000 in
theorem R19_10 (i : Nat) (hi : i < 3) (L : Nat) : ∀ f : Nat, (∀ (x1 : Int32) (x2 : Int32) (mi : mMi) (rs : mRs) (l3 : Option mV) (_ : mC2 l3 = true) (D : Nat) (K : mOut → mH → Prop), 23 ≤ D → Ok (F19_10 i f x1 x2 mi rs) (true, L, none) K (WP (D + 1) 19 10 [some (mR 0 i 0), some (mI x1), some (mI x2), l3] [] (hq (true, L, none) mi rs) K)) := by
  intro f
  induction f with
  | zero => intro x1 x2 mi rs l3 hl3 D K hD; exact Ok.no
  | succ f ih =>
    intro x1 x2 mi rs l3 hl3 D K hD
    unfold F19_10
    exact (Ok.mp (B19_10 hi).mpr (Ok.if (Ok.mp (B19_49 hi).mpr Ok.leaf) (Ok.mp (B19_16 hi).mpr (Ok.callI (R20 i hi L mi rs) (by omega) fun v1 m1 r1 => (Ok.mp (B19_20 hi).mpr (Ok.if (Ok.mp (B19_29 hi).mpr (Ok.callI (R111 L v1 m1 r1) (by omega) fun v2 m2 r2 => (Ok.mp (B19_34 hi).mpr (Ok.callI (R112 L v1 m2 r2) (by omega) fun v3 m3 r3 => (Ok.mp (B19_38 hi).mpr (Ok.callV (R26 i hi L v2 v3 (N 0) (I (-1)) m3 r3) (by omega) fun m4 r4 => (Ok.mp (B19_43 hi).mpr (ih x1 (x2 + (N 1)) m4 r4 (some (mI v1)) rfl D K (by omega))))))))) (Ok.mp (B19_26 hi).mpr (Ok.mp (B19_49 hi).mpr Ok.leaf))))))))
def F19 (i : Nat) (mi : mMi) (rs : mRs) : mRz := F19_10 i FU (mi 0 i 7 2) (N 0) mi rs
set_option maxRecDepth 100000 in
theorem R19 (i : Nat) (hi : i < 3) (L : Nat) (mi : mMi) (rs : mRs) : Does 19 [mR 0 i 0] (true, L, none) mi rs (F19 i  mi rs) 24 :=
  Does.of fun D K hD => (Ok.mp (B19_0 hi).mpr (R19_10 i hi L FU (mi 0 i 7 2) (N 0) mi rs none rfl D K (by omega)))
def F104_72 : Nat → Int32 → Int32 → Int32 → mMi → mRs → mRz
  | 0, _, _, _, _, _ => none
  | f + 1, x1, x2, x3, mi, rs => mifO (decide ((N 2) ≤ x3)) (some (.inl (some (mI (mi 1 0 0 4))), (mset mi 2 0 0 10 (N 1)), rs)) (mckO (mIn x3 2) (F104_72 f x1 x2 (x3 + (N 1)) (mset mi 2 6 1 (mix x3) (N 0)) rs))
set_option maxRecDepth 100000 in
theorem R104_72 (L : Nat) : ∀ f : Nat, (∀ (x1 : Int32) (x2 : Int32) (x3 : Int32) (mi : mMi) (rs : mRs) (D : Nat) (K : mOut → mH → Prop), 24 ≤ D → Ok (F104_72 f x1 x2 x3 mi rs) (true, L, none) K (WP (D + 1) 104 72 [some (mR 2 0 0), some (mI x1), some (mI x2), some (mI x3)] [] (hq (true, L, none) mi rs) K)) := by
  intro f
  induction f with
  | zero => intro x1 x2 x3 mi rs D K hD; exact Ok.no
  | succ f ih =>
    intro x1 x2 x3 mi rs D K hD
    unfold F104_72
    exact (Ok.mp (B104_72).mpr (Ok.if (Ok.mp (B104_90).mpr Ok.leaf) (Ok.mp (B104_77).mpr (Ok.gf (ih x1 x2 (x3 + (N 1)) (mset mi 2 6 1 (mix x3) (N 0)) rs  D K (by omega))))))
def F104 (x1 : Int32) (mi : mMi) (rs : mRs) : mRz := bV (F105 x1 mi rs) (fun m1 r1 => bI (F67 x1 m1 r1) (fun v2 m2 r2 => bV (F107 v2 (mset m2 2 1 0 1 (N 0)) r2) (fun m3 r3 => bV (F82 0 1 m3 r3) (fun m4 r4 => bV (F18 0 2 m4 r4) (fun m5 r5 => bI (F19 0 m5 r5) (fun v6 m6 r6 => F104_72 FU x1 v2 (N 0) (mset m6 2 5 0 1 (N 0)) r6))))))
set_option maxRecDepth 100000 in
theorem R104 (L : Nat) (x1 : Int32) (mi : mMi) (rs : mRs) : Does 104 [mR 2 0 0, mI x1] (true, L, none) mi rs (F104 x1 mi rs) 25 :=
  Does.of fun D K hD => (Ok.mp (B104_0).mpr (Ok.callV (R105 L x1 mi rs) (by omega) fun m1 r1 => (Ok.mp (B104_5).mpr (Ok.callI (R67 L x1 m1 r1) (by omega) fun v2 m2 r2 => (Ok.mp (B104_13).mpr (Ok.callV (R107 L v2 (mset m2 2 1 0 1 (N 0)) r2) (by omega) fun m3 r3 => (Ok.mp (B104_26).mpr (Ok.callV (R82 L m3 r3) (by omega) fun m4 r4 => (Ok.mp (B104_40).mpr (Ok.callV (R18b 2 (by decide) L m4 r4) (by omega) fun m5 r5 => (Ok.mp (B104_54).mpr (Ok.callI (R19 0 (by decide) L m5 r5) (by omega) fun v6 m6 r6 => (Ok.mp (B104_61).mpr (R104_72 L FU x1 v2 (N 0) (mset m6 2 5 0 1 (N 0)) r6  D K (by omega)))))))))))))))
def F115 (x0 : Int32) (mi : mMi) (rs : mRs) : mRz := mifO (decide (x0 ≠ (N 0))) (some (.inl none, mi, rs)) (rX 1 mi (rsT rs))
set_option maxRecDepth 100000 in
theorem R115 (L : Nat) (x0 : Int32) (mi : mMi) (rs : mRs) : Does 115 [mI x0] (true, L, none) mi rs (F115 x0 mi rs) 1 :=
  Does.of fun D K hD => (Ok.mp (B115_0).mpr (Ok.if (Ok.mp (B115_15).mpr Ok.leaf) (Ok.mp (B115_4 (qq := (rs).1) (dy := (rs).2.1) (nx := (rs).2.2.1) (cc := (rs).2.2.2.1) (ss := (rs).2.2.2.2)).mpr Ok.leaf)))
def F114 (mi : mMi) (rs : mRs) : mRz := bV (F115 (mi 2 0 0 10) mi rs) (fun m1 r1 => some (.inl none, m1, r1))
set_option maxRecDepth 100000 in
theorem R114 (L : Nat) (mi : mMi) (rs : mRs) : Does 114 [mR 2 0 0] (true, L, none) mi rs (F114  mi rs) 2 :=
  Does.of fun D K hD => (Ok.mp (B114_0).mpr (Ok.callV (R115 L (mi 2 0 0 10) mi rs) (by omega) fun m1 r1 => (Ok.mp (B114_7).mpr Ok.leaf)))
def F113 (x1 : Int32) (mi : mMi) (rs : mRs) : mRz := bV (F114 mi rs) (fun m1 r1 => bV (F105 x1 m1 r1) (fun m2 r2 => bI (F65 (N 0) x1 m2 r2) (fun v3 m3 r3 => bI (F79 0 v3 (mset m3 2 1 0 1 (N 0)) r3) (fun v4 m4 r4 => some (.inl (some (mI v4)), m4, r4)))))
set_option maxRecDepth 100000 in
theorem R113 (L : Nat) (x1 : Int32) (mi : mMi) (rs : mRs) : Does 113 [mR 2 0 0, mI x1] (true, L, none) mi rs (F113 x1 mi rs) 3 :=
  Does.of fun D K hD => (Ok.mp (B113_0).mpr (Ok.callV (R114 L mi rs) (by omega) fun m1 r1 => (Ok.mp (B113_4).mpr (Ok.callV (R105 L x1 m1 r1) (by omega) fun m2 r2 => (Ok.mp (B113_9).mpr (Ok.callI (R65 L (N 0) x1 m2 r2) (by omega) fun v3 m3 r3 => (Ok.mp (B113_18).mpr (Ok.callI (R79 0 (by decide) L v3 (mset m3 2 1 0 1 (N 0)) r3) (by omega) fun v4 m4 r4 => (Ok.mp (B113_35).mpr Ok.leaf)))))))))
def F117 (x0 : Int32) (x1 : Int32) (x2 : Int32) (mi : mMi) (rs : mRs) : mRz := mifO (decide (x0 < x1)) (bV (F107 (N 0) mi rs) (fun m1 r1 => some (.inl none, m1, r1))) (mifO (decide (x2 < x0)) (bV (F107 (N 0) mi rs) (fun m2 r2 => some (.inl none, m2, r2))) (bV (F107 (N 1) mi rs) (fun m3 r3 => some (.inl none, m3, r3))))
set_option maxRecDepth 100000 in
theorem R117 (L : Nat) (x0 : Int32) (x1 : Int32) (x2 : Int32) (mi : mMi) (rs : mRs) : Does 117 [mI x0, mI x1, mI x2] (true, L, none) mi rs (F117 x0 x1 x2 mi rs) 2 :=
  Does.of fun D K hD => (Ok.mp (B117_0).mpr (Ok.if (Ok.mp (B117_14).mpr (Ok.mp (B117_15).mpr (Ok.callV (R107 L (N 0) mi rs) (by omega) fun m1 r1 => (Ok.mp (B117_18).mpr Ok.leaf)))) (Ok.mp (B117_5).mpr (Ok.if (Ok.mp (B117_14).mpr (Ok.mp (B117_15).mpr (Ok.callV (R107 L (N 0) mi rs) (by omega) fun m2 r2 => (Ok.mp (B117_18).mpr Ok.leaf)))) (Ok.mp (B117_10).mpr (Ok.mp (B117_15).mpr (Ok.callV (R107 L (N 1) mi rs) (by omega) fun m3 r3 => (Ok.mp (B117_18).mpr Ok.leaf))))))))
def F6_4 (i : Nat) : Nat → Int32 → Int32 → mMi → mRs → mRz
  | 0, _, _, _, _ => none
  | f + 1, x1, x2, mi, rs => mifO (decide ((mi 1 (RO i) 0 4) ≤ x2)) (some (.inl (some (mI x1)), mi, rs)) (bI (F2 i x2 mi rs) (fun v1 m1 r1 => mifO (decide (v1 = (N 0))) (F6_4 i f (x1 + (N 0)) (x2 + (N 1)) m1 r1) (F6_4 i f (x1 + (N 1)) (x2 + (N 1)) m1 r1)))
set_option maxRecDepth 100000 in
theorem R6_4 (i : Nat) (hi : i < 3) (L : Nat) : ∀ f : Nat, (∀ (x1 : Int32) (x2 : Int32) (mi : mMi) (rs : mRs) (D : Nat) (K : mOut → mH → Prop), 1 ≤ D → Ok (F6_4 i f x1 x2 mi rs) (true, L, none) K (WP (D + 1) 6 4 [some (mR 0 i 10), some (mI x1), some (mI x2)] [] (hq (true, L, none) mi rs) K)) := by
  intro f
  induction f with
  | zero => intro x1 x2 mi rs D K hD; exact Ok.no
  | succ f ih =>
    intro x1 x2 mi rs D K hD
    unfold F6_4
    exact (Ok.mp (B6_4 hi).mpr (Ok.if (Ok.mp (B6_37 hi).mpr Ok.leaf) (Ok.mp (B6_15 hi).mpr (Ok.callI (R2 i hi L x2 mi rs) (by omega) fun v1 m1 r1 => (Ok.mp (B6_21 hi).mpr (Ok.if (Ok.mp (B6_28 hi).mpr (Ok.mp (B6_29 hi).mpr (ih (x1 + (N 0)) (x2 + (N 1)) m1 r1  D K (by omega)))) (Ok.mp (B6_24 hi).mpr (Ok.mp (B6_29 hi).mpr (ih (x1 + (N 1)) (x2 + (N 1)) m1 r1  D K (by omega))))))))))
def F6 (i : Nat) (mi : mMi) (rs : mRs) : mRz := F6_4 i FU (N 0) (N 0) mi rs
set_option maxRecDepth 100000 in
theorem R6 (i : Nat) (hi : i < 3) (L : Nat) (mi : mMi) (rs : mRs) : Does 6 [mR 0 i 10] (true, L, none) mi rs (F6 i  mi rs) 2 :=
  Does.of fun D K hD => (Ok.mp (B6_0 hi).mpr (R6_4 i hi L FU (N 0) (N 0) mi rs  D K (by omega)))
def F54_4 (i : Nat) : Nat → Int32 → Int32 → mMi → mRs → mRz
  | 0, _, _, _, _ => none
  | f + 1, x1, x2, mi, rs => mifO (decide ((N 96) ≤ x2)) (some (.inl (some (mI x1)), mi, rs)) (bI (F51 i x2 mi rs) (fun v1 m1 r1 => mifO (decide (v1 = (N 0))) (F54_4 i f (x1 + (N 0)) (x2 + (N 1)) m1 r1) (F54_4 i f (x1 + (N 1)) (x2 + (N 1)) m1 r1)))
set_option maxRecDepth 100000 in
theorem R54_4 (i : Nat) (hi : i < 3) (L : Nat) : ∀ f : Nat, (∀ (x1 : Int32) (x2 : Int32) (mi : mMi) (rs : mRs) (D : Nat) (K : mOut → mH → Prop), 1 ≤ D → Ok (F54_4 i f x1 x2 mi rs) (true, L, none) K (WP (D + 1) 54 4 [some (mR 0 i 1), some (mI x1), some (mI x2)] [] (hq (true, L, none) mi rs) K)) := by
  intro f
  induction f with
  | zero => intro x1 x2 mi rs D K hD; exact Ok.no
  | succ f ih =>
    intro x1 x2 mi rs D K hD
    unfold F54_4
    exact (Ok.mp (B54_4 hi).mpr (Ok.if (Ok.mp (B54_32 hi).mpr Ok.leaf) (Ok.mp (B54_10 hi).mpr (Ok.callI (R51 i hi L x2 mi rs) (by omega) fun v1 m1 r1 => (Ok.mp (B54_16 hi).mpr (Ok.if (Ok.mp (B54_23 hi).mpr (Ok.mp (B54_24 hi).mpr (ih (x1 + (N 0)) (x2 + (N 1)) m1 r1  D K (by omega)))) (Ok.mp (B54_19 hi).mpr (Ok.mp (B54_24 hi).mpr (ih (x1 + (N 1)) (x2 + (N 1)) m1 r1  D K (by omega))))))))))
def F54 (i : Nat) (mi : mMi) (rs : mRs) : mRz := F54_4 i FU (N 0) (N 0) mi rs
set_option maxRecDepth 100000 in
theorem R54 (i : Nat) (hi : i < 3) (L : Nat) (mi : mMi) (rs : mRs) : Does 54 [mR 0 i 1] (true, L, none) mi rs (F54 i  mi rs) 2 :=
  Does.of fun D K hD => (Ok.mp (B54_0 hi).mpr (R54_4 i hi L FU (N 0) (N 0) mi rs  D K (by omega)))
def F55_4 (i : Nat) : Nat → Int32 → Int32 → mMi → mRs → mRz
  | 0, _, _, _, _ => none
  | f + 1, x1, x2, mi, rs => mifO (decide ((N 96) ≤ x2)) (some (.inl (some (mI x1)), mi, rs)) (bI (F52 i x2 mi rs) (fun v1 m1 r1 => mifO (decide (v1 = (N 0))) (F55_4 i f (x1 + (N 0)) (x2 + (N 1)) m1 r1) (F55_4 i f (x1 + (N 1)) (x2 + (N 1)) m1 r1)))
set_option maxRecDepth 100000 in
theorem R55_4 (i : Nat) (hi : i < 3) (L : Nat) : ∀ f : Nat, (∀ (x1 : Int32) (x2 : Int32) (mi : mMi) (rs : mRs) (D : Nat) (K : mOut → mH → Prop), 1 ≤ D → Ok (F55_4 i f x1 x2 mi rs) (true, L, none) K (WP (D + 1) 55 4 [some (mR 0 i 1), some (mI x1), some (mI x2)] [] (hq (true, L, none) mi rs) K)) := by
  intro f
  induction f with
  | zero => intro x1 x2 mi rs D K hD; exact Ok.no
  | succ f ih =>
    intro x1 x2 mi rs D K hD
    unfold F55_4
    exact (Ok.mp (B55_4 hi).mpr (Ok.if (Ok.mp (B55_32 hi).mpr Ok.leaf) (Ok.mp (B55_10 hi).mpr (Ok.callI (R52 i hi L x2 mi rs) (by omega) fun v1 m1 r1 => (Ok.mp (B55_16 hi).mpr (Ok.if (Ok.mp (B55_23 hi).mpr (Ok.mp (B55_24 hi).mpr (ih (x1 + (N 0)) (x2 + (N 1)) m1 r1  D K (by omega)))) (Ok.mp (B55_19 hi).mpr (Ok.mp (B55_24 hi).mpr (ih (x1 + (N 1)) (x2 + (N 1)) m1 r1  D K (by omega))))))))))
def F55 (i : Nat) (mi : mMi) (rs : mRs) : mRz := F55_4 i FU (N 0) (N 0) mi rs
set_option maxRecDepth 100000 in
theorem R55 (i : Nat) (hi : i < 3) (L : Nat) (mi : mMi) (rs : mRs) : Does 55 [mR 0 i 1] (true, L, none) mi rs (F55 i  mi rs) 2 :=
  Does.of fun D K hD => (Ok.mp (B55_0 hi).mpr (R55_4 i hi L FU (N 0) (N 0) mi rs  D K (by omega)))
def F83_4 (i : Nat) : Nat → Int32 → Int32 → mMi → mRs → mRz
  | 0, _, _, _, _ => none
  | f + 1, x1, x2, mi, rs => mifO (decide ((N 8) ≤ x2)) (some (.inl (some (mI x1)), mi, rs)) (bI (F80 i x2 mi rs) (fun v1 m1 r1 => F83_4 i f (x1 + v1) (x2 + (N 1)) m1 r1))
set_option maxRecDepth 100000 in
theorem R83_4 (i : Nat) (hi : i < 2) (L : Nat) : ∀ f : Nat, (∀ (x1 : Int32) (x2 : Int32) (mi : mMi) (rs : mRs) (D : Nat) (K : mOut → mH → Prop), 1 ≤ D → Ok (F83_4 i f x1 x2 mi rs) (true, L, none) K (WP (D + 1) 83 4 [some (mR 1 i 0), some (mI x1), some (mI x2)] [] (hq (true, L, none) mi rs) K)) := by
  intro f
  induction f with
  | zero => intro x1 x2 mi rs D K hD; exact Ok.no
  | succ f ih =>
    intro x1 x2 mi rs D K hD
    unfold F83_4
    exact (Ok.mp (B83_4 hi).mpr (Ok.if (Ok.mp (B83_24 hi).mpr Ok.leaf) (Ok.mp (B83_10 hi).mpr (Ok.callI (R80 i hi L x2 mi rs) (by omega) fun v1 m1 r1 => (Ok.mp (B83_16 hi).mpr (ih (x1 + v1) (x2 + (N 1)) m1 r1  D K (by omega)))))))
def F83 (i : Nat) (mi : mMi) (rs : mRs) : mRz := F83_4 i FU (N 0) (N 0) mi rs
set_option maxRecDepth 100000 in
theorem R83 (i : Nat) (hi : i < 2) (L : Nat) (mi : mMi) (rs : mRs) : Does 83 [mR 1 i 0] (true, L, none) mi rs (F83 i  mi rs) 2 :=
  Does.of fun D K hD => (Ok.mp (B83_0 hi).mpr (R83_4 i hi L FU (N 0) (N 0) mi rs  D K (by omega)))
def F46 (i : Nat) (x1 : Int32) (mi : mMi) (rs : mRs) : mRz := mifO (decide (x1 < (N 0))) (some (.inl (some (mI (N 0))), mi, rs)) (mifO (decide ((N 4) ≤ x1)) (some (.inl (some (mI (N 0))), mi, rs)) (mckO (mIn x1 4) (some (.inl (some (mI (mi 0 i 9 (mix x1)))), mi, rs))))
set_option maxRecDepth 100000 in
theorem R46 (i : Nat) (hi : i < 3) (L : Nat) (x1 : Int32) (mi : mMi) (rs : mRs) : Does 46 [mR 0 i 7, mI x1] (true, L, none) mi rs (F46 i x1 mi rs) 1 :=
  Does.of fun D K hD => (Ok.mp (B46_0 hi).mpr (Ok.if (Ok.mp (B46_18 hi).mpr (Ok.mp (B46_19 hi).mpr Ok.leaf)) (Ok.mp (B46_4 hi).mpr (Ok.if (Ok.mp (B46_18 hi).mpr (Ok.mp (B46_19 hi).mpr Ok.leaf)) (Ok.mp (B46_9 hi).mpr (Ok.gd (Ok.mp (B46_19 hi).mpr Ok.leaf)))))))
def F116 (x1 : Int32) (mi : mMi) (rs : mRs) : mRz := bV (F114 mi rs) (fun m1 r1 => bV (F117 x1 (N 0) (N 12) m1 r1) (fun m2 r2 => mTswO x1 12 155 0 12 #[68, 76, 87, 98, 109, 120, 128, 155, 155, 155, 155, 139, 147] (fun t9 => if t9 = 80 then some (.inl (some (mI (m2 1 0 0 4))), m2, r2) else if t9 = 88 then bI (F6 0 m2 r2) (fun v7 m7 r7 => some (.inl (some (mI v7)), m7, r7)) else if t9 = 99 then some (.inl (some (mI (m2 0 0 10 5))), m2, r2) else if t9 = 110 then bI (F54 0 m2 r2) (fun v6 m6 r6 => some (.inl (some (mI v6)), m6, r6)) else if t9 = 121 then bI (F55 0 m2 r2) (fun v5 m5 r5 => some (.inl (some (mI v5)), m5, r5)) else if t9 = 132 then some (.inl (some (mI (m2 0 0 0 5))), m2, r2) else if t9 = 140 then some (.inl (some (mI (m2 0 0 7 2))), m2, r2) else if t9 = 151 then some (.inl (some (mI (m2 0 0 0 6))), m2, r2) else if t9 = 159 then bI (F83 0 m2 r2) (fun v4 m4 r4 => some (.inl (some (mI v4)), m4, r4)) else if t9 = 167 then bI (F46 0 (x1 - (N 7)) m2 r2) (fun v3 m3 r3 => some (.inl (some (mI v3)), m3, r3)) else none)))
set_option maxRecDepth 100000 in
theorem R116 (L : Nat) (x1 : Int32) (mi : mMi) (rs : mRs) : Does 116 [mR 2 0 0, mI x1] (true, L, none) mi rs (F116 x1 mi rs) 3 :=
  Does.of fun D K hD => (Ok.mp (B116_0).mpr (Ok.callV (R114 L mi rs) (by omega) fun m1 r1 => (Ok.mp (B116_4).mpr (Ok.callV (R117 L x1 (N 0) (N 12) m1 r1) (by omega) fun m2 r2 => (Ok.mp (B116_11).mpr (Ok.tsw rfl (by decide) fun t9 => Ok.ite (fun e9 => by rw [e9]; exact (Ok.mp (B116_80).mpr Ok.leaf)) (Ok.ite (fun e9 => by rw [e9]; exact (Ok.mp (B116_88).mpr (Ok.callI (R6 0 (by decide) L m2 r2) (by omega) fun v7 m7 r7 => (Ok.mp (B116_98).mpr Ok.leaf)))) (Ok.ite (fun e9 => by rw [e9]; exact (Ok.mp (B116_99).mpr Ok.leaf)) (Ok.ite (fun e9 => by rw [e9]; exact (Ok.mp (B116_110).mpr (Ok.callI (R54 0 (by decide) L m2 r2) (by omega) fun v6 m6 r6 => (Ok.mp (B116_120).mpr Ok.leaf)))) (Ok.ite (fun e9 => by rw [e9]; exact (Ok.mp (B116_121).mpr (Ok.callI (R55 0 (by decide) L m2 r2) (by omega) fun v5 m5 r5 => (Ok.mp (B116_131).mpr Ok.leaf)))) (Ok.ite (fun e9 => by rw [e9]; exact (Ok.mp (B116_132).mpr Ok.leaf)) (Ok.ite (fun e9 => by rw [e9]; exact (Ok.mp (B116_140).mpr Ok.leaf)) (Ok.ite (fun e9 => by rw [e9]; exact (Ok.mp (B116_151).mpr Ok.leaf)) (Ok.ite (fun e9 => by rw [e9]; exact (Ok.mp (B116_159).mpr (Ok.callI (R83 0 (by decide) L m2 r2) (by omega) fun v4 m4 r4 => (Ok.mp (B116_166).mpr Ok.leaf)))) (Ok.ite (fun e9 => by rw [e9]; exact (Ok.mp (B116_167).mpr (Ok.callI (R46 0 (by decide) L (x1 - (N 7)) m2 r2) (by omega) fun v3 m3 r3 => (Ok.mp (B116_181).mpr Ok.leaf)))) (Ok.no))))))))))))))))
def F118 (x1 : Int32) (mi : mMi) (rs : mRs) : mRz := bV (F114 mi rs) (fun m1 r1 => bV (F117 x1 (N 0) (N 5) m1 r1) (fun m2 r2 => mckO (mIn x1 6) (some (.inl (some (mI (m2 1 0 1 (mix x1)))), m2, r2))))
set_option maxRecDepth 100000 in
theorem R118 (L : Nat) (x1 : Int32) (mi : mMi) (rs : mRs) : Does 118 [mR 2 0 0, mI x1] (true, L, none) mi rs (F118 x1 mi rs) 3 :=
  Does.of fun D K hD => (Ok.mp (B118_0).mpr (Ok.callV (R114 L mi rs) (by omega) fun m1 r1 => (Ok.mp (B118_4).mpr (Ok.callV (R117 L x1 (N 0) (N 5) m1 r1) (by omega) fun m2 r2 => (Ok.mp (B118_10).mpr (Ok.gd Ok.leaf))))))
def F120 (x1 : Int32) (mi : mMi) (rs : mRs) : mRz := bV (F114 mi rs) (fun m1 r1 => bV (F106 x1 (m1 1 0 0 4) m1 r1) (fun m2 r2 => some (.inl none, m2, r2)))
set_option maxRecDepth 100000 in
theorem R120 (L : Nat) (x1 : Int32) (mi : mMi) (rs : mRs) : Does 120 [mR 2 0 0, mI x1] (true, L, none) mi rs (F120 x1 mi rs) 3 :=
  Does.of fun D K hD => (Ok.mp (B120_0).mpr (Ok.callV (R114 L mi rs) (by omega) fun m1 r1 => (Ok.mp (B120_4).mpr (Ok.callV (R106 L x1 (m1 1 0 0 4) m1 r1) (by omega) fun m2 r2 => (Ok.mp (B120_15).mpr Ok.leaf)))))
def F30 (i : Nat) (x1 : Int32) (mi : mMi) (rs : mRs) : mRz := mckO (mIn x1 40) (bI (F52 i (mi 0 i 13 (mix x1)) mi rs) (fun v1 m1 r1 => mifO (decide (v1 = (N 0))) (mckO (mZ (N 0) || false) (some (.inl (some (mI (N 0))), m1, r1))) (mckO (mIn (mi 0 i 13 (mix x1)) 96) (mifO (decide ((m1 0 i 6 (mix (mi 0 i 13 (mix x1)))) ≠ x1)) (mckO (mZ (N 0) || false) (some (.inl (some (mI (N 0))), m1, r1))) (mckO (mZ (N 1) || false) (some (.inl (some (mI (N 1))), m1, r1)))))))
set_option maxRecDepth 100000 in
theorem R30 (i : Nat) (hi : i < 3) (L : Nat) (x1 : Int32) (mi : mMi) (rs : mRs) : Does 30 [mR 0 i 0, mI x1] (true, L, none) mi rs (F30 i x1 mi rs) 2 :=
  Does.of fun D K hD => (Ok.mp (B30_0 hi).mpr (Ok.gd (Ok.callI (R52 i hi L (mi 0 i 13 (mix x1)) mi rs) (by omega) fun v1 m1 r1 => (Ok.mp (B30_18 hi).mpr (Ok.if (Ok.mp (B30_38 hi).mpr (Ok.mp (B30_39 hi).mpr (Ok.gd Ok.leaf))) (Ok.mp (B30_21 hi).mpr (Ok.gd (Ok.if (Ok.mp (B30_38 hi).mpr (Ok.mp (B30_39 hi).mpr (Ok.gd Ok.leaf))) (Ok.mp (B30_34 hi).mpr (Ok.mp (B30_39 hi).mpr (Ok.gd Ok.leaf)))))))))))
def F29 (i : Nat) (x1 : Int32) (mi : mMi) (rs : mRs) : mRz := mckO (mIn x1 40) (mifO (decide ((mi 0 i 13 (mix x1)) ≠ (I (-1)))) (mifO (decide ((mi 0 i 13 (mix x1)) ≠ (I (-2)))) (bI (F30 i x1 mi rs) (fun v1 m1 r1 => mifO (decide (v1 = (N 0))) (some (.inl (some (mI (N 2))), m1, r1)) (some (.inl (some (mI (N 3))), m1, r1)))) (some (.inl (some (mI (N 1))), mi, rs))) (some (.inl (some (mI (N 0))), mi, rs)))
set_option maxRecDepth 100000 in
theorem R29 (i : Nat) (hi : i < 3) (L : Nat) (x1 : Int32) (mi : mMi) (rs : mRs) : Does 29 [mR 0 i 0, mI x1] (true, L, none) mi rs (F29 i x1 mi rs) 3 :=
  Does.of fun D K hD => (Ok.mp (B29_0 hi).mpr (Ok.gd (Ok.if (Ok.mp (B29_17 hi).mpr (Ok.if (Ok.mp (B29_25 hi).mpr (Ok.callI (R30 i hi L x1 mi rs) (by omega) fun v1 m1 r1 => (Ok.mp (B29_30 hi).mpr (Ok.if (Ok.mp (B29_37 hi).mpr (Ok.mp (B29_38 hi).mpr Ok.leaf)) (Ok.mp (B29_33 hi).mpr (Ok.mp (B29_38 hi).mpr Ok.leaf)))))) (Ok.mp (B29_23 hi).mpr Ok.leaf))) (Ok.mp (B29_15 hi).mpr Ok.leaf))))
def F119 (x1 : Int32) (x2 : Int32) (mi : mMi) (rs : mRs) : mRz := bV (F120 x1 mi rs) (fun m1 r1 => bV (F117 x2 (N 0) (N 5) m1 r1) (fun m2 r2 => mckO (mIn x1 40) (mTswO x2 25 93 0 4 #[35, 48, 58, 67, 80] (fun t9 => if t9 = 60 then mckO (mIn x1 40) (some (.inl (some (mI (m2 0 0 11 (mix x1)))), m2, r2)) else if t9 = 73 then mckO (mIn x1 40) (some (.inl (some (mI (m2 1 0 4 (mix x1)))), m2, r2)) else if t9 = 83 then bI (F29 0 x1 m2 r2) (fun v5 m5 r5 => some (.inl (some (mI v5)), m5, r5)) else if t9 = 92 then mifO (decide ((N 0) ≤ (m2 0 0 13 (mix x1)))) (bI (F111 (m2 0 0 13 (mix x1)) m2 r2) (fun v4 m4 r4 => some (.inl (some (mI v4)), m4, r4))) (some (.inl (some (mI (I (-1)))), m2, r2)) else if t9 = 105 then mifO (decide ((N 0) ≤ (m2 0 0 13 (mix x1)))) (bI (F112 (m2 0 0 13 (mix x1)) m2 r2) (fun v3 m3 r3 => some (.inl (some (mI v3)), m3, r3))) (some (.inl (some (mI (I (-1)))), m2, r2)) else if t9 = 118 then mckO (mIn x1 40) (some (.inl (some (mI (m2 0 0 12 (mix x1)))), m2, r2)) else none))))
set_option maxRecDepth 100000 in
theorem R119 (L : Nat) (x1 : Int32) (x2 : Int32) (mi : mMi) (rs : mRs) : Does 119 [mR 2 0 0, mI x1, mI x2] (true, L, none) mi rs (F119 x1 x2 mi rs) 4 :=
  Does.of fun D K hD => (Ok.mp (B119_0).mpr (Ok.callV (R120 L x1 mi rs) (by omega) fun m1 r1 => (Ok.mp (B119_5).mpr (Ok.callV (R117 L x2 (N 0) (N 5) m1 r1) (by omega) fun m2 r2 => (Ok.mp (B119_11).mpr (Ok.gd (Ok.tsw rfl (by decide) fun t9 => Ok.ite (fun e9 => by rw [e9]; exact (Ok.mp (B119_60).mpr (Ok.gd Ok.leaf))) (Ok.ite (fun e9 => by rw [e9]; exact (Ok.mp (B119_73).mpr (Ok.gd Ok.leaf))) (Ok.ite (fun e9 => by rw [e9]; exact (Ok.mp (B119_83).mpr (Ok.callI (R29 0 (by decide) L x1 m2 r2) (by omega) fun v5 m5 r5 => (Ok.mp (B119_91).mpr Ok.leaf)))) (Ok.ite (fun e9 => by rw [e9]; exact (Ok.mp (B119_92).mpr (Ok.if (Ok.mp (B119_100).mpr (Ok.callI (R111 L (m2 0 0 13 (mix x1)) m2 r2) (by omega) fun v4 m4 r4 => (Ok.mp (B119_104).mpr Ok.leaf))) (Ok.mp (B119_96).mpr (Ok.mp (B119_104).mpr Ok.leaf))))) (Ok.ite (fun e9 => by rw [e9]; exact (Ok.mp (B119_105).mpr (Ok.if (Ok.mp (B119_113).mpr (Ok.callI (R112 L (m2 0 0 13 (mix x1)) m2 r2) (by omega) fun v3 m3 r3 => (Ok.mp (B119_117).mpr Ok.leaf))) (Ok.mp (B119_109).mpr (Ok.mp (B119_117).mpr Ok.leaf))))) (Ok.ite (fun e9 => by rw [e9]; exact (Ok.mp (B119_118).mpr (Ok.gd Ok.leaf))) (Ok.no)))))))))))))
def F122 (x1 : Int32) (x2 : Int32) (mi : mMi) (rs : mRs) : mRz := bV (F114 mi rs) (fun m1 r1 => bI (F80 0 x1 m1 r1) (fun v2 m2 r2 => bV (F106 x2 v2 m2 r2) (fun m3 r3 => some (.inl none, m3, r3))))
set_option maxRecDepth 100000 in
theorem R122 (L : Nat) (x1 : Int32) (x2 : Int32) (mi : mMi) (rs : mRs) : Does 122 [mR 2 0 0, mI x1, mI x2] (true, L, none) mi rs (F122 x1 x2 mi rs) 3 :=
  Does.of fun D K hD => (Ok.mp (B122_0).mpr (Ok.callV (R114 L mi rs) (by omega) fun m1 r1 => (Ok.mp (B122_4).mpr (Ok.callI (R80 0 (by decide) L x1 m1 r1) (by omega) fun v2 m2 r2 => (Ok.mp (B122_13).mpr (Ok.callV (R106 L x2 v2 m2 r2) (by omega) fun m3 r3 => (Ok.mp (B122_16).mpr Ok.leaf)))))))
def F121 (x1 : Int32) (x2 : Int32) (x3 : Int32) (mi : mMi) (rs : mRs) : mRz := bV (F122 x1 x2 mi rs) (fun m1 r1 => bV (F117 x3 (N 0) (N 6) m1 r1) (fun m2 r2 => bI (F81 0 x1 x2 m2 r2) (fun v3 m3 r3 => bI (F51 0 v3 m3 r3) (fun v4 m4 r4 => mifO (decide (v4 ≠ (N 0))) (bV (F85 0 m4 r4) (fun m5 r5 => mTswO x3 53 116 0 5 #[39, 53, 67, 81, 95, 105] (fun t9 => if t9 = 92 then mckO (mIn v3 96) (some (.inl (some (mI (m5 0 0 2 (mix v3)))), m5, r5)) else if t9 = 106 then mckO (mIn v3 96) (some (.inl (some (mI (m5 0 0 3 (mix v3)))), m5, r5)) else if t9 = 120 then mckO (mIn v3 96) (some (.inl (some (mI (m5 0 0 4 (mix v3)))), m5, r5)) else if t9 = 134 then mckO (mIn v3 96) (some (.inl (some (mI (m5 0 0 5 (mix v3)))), m5, r5)) else if t9 = 148 then bI (F24 0 v3 m5 r5) (fun v7 m7 r7 => some (.inl (some (mI v7)), m7, r7)) else if t9 = 158 then mckO (mIn v3 96) (some (.inl (some (mI (m5 2 2 1 (mix v3)))), m5, r5)) else if t9 = 169 then bI (F23 0 v3 m5 r5) (fun v6 m6 r6 => some (.inl (some (mI v6)), m6, r6)) else none))) (some (.inl (some (mI (I (-1)))), m4, r4))))))
set_option maxRecDepth 100000 in
theorem R121 (L : Nat) (x1 : Int32) (x2 : Int32) (x3 : Int32) (mi : mMi) (rs : mRs) : Does 121 [mR 2 0 0, mI x1, mI x2, mI x3] (true, L, none) mi rs (F121 x1 x2 x3 mi rs) 5 :=
  Does.of fun D K hD => (Ok.mp (B121_0).mpr (Ok.callV (R122 L x1 x2 mi rs) (by omega) fun m1 r1 => (Ok.mp (B121_6).mpr (Ok.callV (R117 L x3 (N 0) (N 6) m1 r1) (by omega) fun m2 r2 => (Ok.mp (B121_13).mpr (Ok.callI (R81 0 (by decide) L x1 x2 m2 r2) (by omega) fun v3 m3 r3 => (Ok.mp (B121_22).mpr (Ok.callI (R51 0 (by decide) L v3 m3 r3) (by omega) fun v4 m4 r4 => (Ok.mp (B121_36).mpr (Ok.if (Ok.mp (B121_41).mpr (Ok.callV (R85 0 (by decide) L m4 r4) (by omega) fun m5 r5 => (Ok.mp (B121_52).mpr (Ok.tsw rfl (by decide) fun t9 => Ok.ite (fun e9 => by rw [e9]; exact (Ok.mp (B121_92).mpr (Ok.gd Ok.leaf))) (Ok.ite (fun e9 => by rw [e9]; exact (Ok.mp (B121_106).mpr (Ok.gd Ok.leaf))) (Ok.ite (fun e9 => by rw [e9]; exact (Ok.mp (B121_120).mpr (Ok.gd Ok.leaf))) (Ok.ite (fun e9 => by rw [e9]; exact (Ok.mp (B121_134).mpr (Ok.gd Ok.leaf))) (Ok.ite (fun e9 => by rw [e9]; exact (Ok.mp (B121_148).mpr (Ok.callI (R24 0 (by decide) L v3 m5 r5) (by omega) fun v7 m7 r7 => (Ok.mp (B121_157).mpr Ok.leaf)))) (Ok.ite (fun e9 => by rw [e9]; exact (Ok.mp (B121_158).mpr (Ok.gd Ok.leaf))) (Ok.ite (fun e9 => by rw [e9]; exact (Ok.mp (B121_169).mpr (Ok.callI (R23 0 (by decide) L v3 m5 r5) (by omega) fun v6 m6 r6 => (Ok.mp (B121_178).mpr Ok.leaf)))) (Ok.no))))))))))) (Ok.mp (B121_39).mpr Ok.leaf)))))))))))
def F123 (x1 : Int32) (x2 : Int32) (x3 : Int32) (mi : mMi) (rs : mRs) : mRz := bV (F122 x1 x2 mi rs) (fun m1 r1 => bV (F117 x3 (N 0) (N 3) m1 r1) (fun m2 r2 => bI (F81 0 x1 x2 m2 r2) (fun v3 m3 r3 => bI (F52 0 v3 m3 r3) (fun v4 m4 r4 => mifO (decide (v4 ≠ (N 0))) (bV (F85 0 m4 r4) (fun m5 r5 => mTswO x3 52 67 0 2 #[28, 42, 53] (fun t9 => if t9 = 80 then mckO (mIn v3 96) (some (.inl (some (mI (m5 0 0 6 (mix v3)))), m5, r5)) else if t9 = 94 then mckO (mIn v3 96) (some (.inl (some (mI (m5 2 2 2 (mix v3)))), m5, r5)) else if t9 = 105 then mckO (mIn v3 96) (bI (F109 (m5 2 2 2 (mix v3)) m5 r5) (fun v7 m7 r7 => some (.inl (some (mI v7)), m7, r7))) else if t9 = 119 then mckO (mIn v3 96) (bI (F108 (m5 2 2 2 (mix v3)) m5 r5) (fun v6 m6 r6 => some (.inl (some (mI v6)), m6, r6))) else none))) (some (.inl (some (mI (I (-1)))), m4, r4))))))
set_option maxRecDepth 100000 in
theorem R123 (L : Nat) (x1 : Int32) (x2 : Int32) (x3 : Int32) (mi : mMi) (rs : mRs) : Does 123 [mR 2 0 0, mI x1, mI x2, mI x3] (true, L, none) mi rs (F123 x1 x2 x3 mi rs) 5 :=
  Does.of fun D K hD => (Ok.mp (B123_0).mpr (Ok.callV (R122 L x1 x2 mi rs) (by omega) fun m1 r1 => (Ok.mp (B123_6).mpr (Ok.callV (R117 L x3 (N 0) (N 3) m1 r1) (by omega) fun m2 r2 => (Ok.mp (B123_12).mpr (Ok.callI (R81 0 (by decide) L x1 x2 m2 r2) (by omega) fun v3 m3 r3 => (Ok.mp (B123_21).mpr (Ok.callI (R52 0 (by decide) L v3 m3 r3) (by omega) fun v4 m4 r4 => (Ok.mp (B123_35).mpr (Ok.if (Ok.mp (B123_40).mpr (Ok.callV (R85 0 (by decide) L m4 r4) (by omega) fun m5 r5 => (Ok.mp (B123_51).mpr (Ok.tsw rfl (by decide) fun t9 => Ok.ite (fun e9 => by rw [e9]; exact (Ok.mp (B123_80).mpr (Ok.gd Ok.leaf))) (Ok.ite (fun e9 => by rw [e9]; exact (Ok.mp (B123_94).mpr (Ok.gd Ok.leaf))) (Ok.ite (fun e9 => by rw [e9]; exact (Ok.mp (B123_105).mpr (Ok.gd (Ok.callI (R109 L (m5 2 2 2 (mix v3)) m5 r5) (by omega) fun v7 m7 r7 => (Ok.mp (B123_118).mpr Ok.leaf))))) (Ok.ite (fun e9 => by rw [e9]; exact (Ok.mp (B123_119).mpr (Ok.gd (Ok.callI (R108 L (m5 2 2 2 (mix v3)) m5 r5) (by omega) fun v6 m6 r6 => (Ok.mp (B123_132).mpr Ok.leaf))))) (Ok.no)))))))) (Ok.mp (B123_38).mpr Ok.leaf)))))))))))
def F47 (i : Nat) (mi : mMi) (rs : mRs) : mRz := some (.inl (some (mI (if (N 30) < (mi 0 i 7 2) then (N 30) else (mi 0 i 7 2)))), mi, rs)
set_option maxRecDepth 100000 in
theorem R47 (i : Nat) (hi : i < 3) (L : Nat) (mi : mMi) (rs : mRs) : Does 47 [mR 0 i 7] (true, L, none) mi rs (F47 i  mi rs) 1 :=
  Does.of fun D K hD => (Ok.mp (B47_0 hi).mpr Ok.leaf)
def F48 (i : Nat) (x1 : Int32) (x2 : Int32) (mi : mMi) (rs : mRs) : mRz := mifO (decide (x1 < (N 0))) (some (.inl (some (mI (I (-1)))), mi, rs)) (bI (F47 i mi rs) (fun v1 m1 r1 => mifO (decide (v1 ≤ x1)) (some (.inl (some (mI (I (-1)))), m1, r1)) (mifO (decide (x2 < (N 0))) (some (.inl (some (mI (I (-1)))), m1, r1)) (mifO (decide (x2 < (N 5))) (mckO (mIn ((((((m1 0 i 7 2) - (N 1)) - x1) - (((m1 0 i 7 2) - (N 1)) - x1) / (N 30) * (N 30)) * (N 5)) + x2) 150) (some (.inl (some (mI (m1 0 i 8 (mix ((((((m1 0 i 7 2) - (N 1)) - x1) - (((m1 0 i 7 2) - (N 1)) - x1) / (N 30) * (N 30)) * (N 5)) + x2))))), m1, r1))) (some (.inl (some (mI (I (-1)))), m1, r1))))))
set_option maxRecDepth 100000 in
theorem R48 (i : Nat) (hi : i < 3) (L : Nat) (x1 : Int32) (x2 : Int32) (mi : mMi) (rs : mRs) : Does 48 [mR 0 i 7, mI x1, mI x2] (true, L, none) mi rs (F48 i x1 x2 mi rs) 2 :=
  Does.of fun D K hD => (Ok.mp (B48_0 hi).mpr (Ok.if (Ok.mp (B48_21 hi).mpr Ok.leaf) (Ok.mp (B48_4 hi).mpr (Ok.callI (R47 i hi L mi rs) (by omega) fun v1 m1 r1 => (Ok.mp (B48_9 hi).mpr (Ok.if (Ok.mp (B48_21 hi).mpr Ok.leaf) (Ok.mp (B48_12 hi).mpr (Ok.if (Ok.mp (B48_21 hi).mpr Ok.leaf) (Ok.mp (B48_16 hi).mpr (Ok.if (Ok.mp (B48_23 hi).mpr (Ok.gd Ok.leaf)) (Ok.mp (B48_21 hi).mpr Ok.leaf)))))))))))
def F124 (x1 : Int32) (x2 : Int32) (mi : mMi) (rs : mRs) : mRz := bV (F114 mi rs) (fun m1 r1 => bI (F47 0 m1 r1) (fun v2 m2 r2 => bV (F106 x1 v2 m2 r2) (fun m3 r3 => bV (F117 x2 (N 0) (N 4) m3 r3) (fun m4 r4 => bI (F48 0 x1 x2 m4 r4) (fun v5 m5 r5 => some (.inl (some (mI v5)), m5, r5))))))
set_option maxRecDepth 100000 in
theorem R124 (L : Nat) (x1 : Int32) (x2 : Int32) (mi : mMi) (rs : mRs) : Does 124 [mR 2 0 0, mI x1, mI x2] (true, L, none) mi rs (F124 x1 x2 mi rs) 3 :=
  Does.of fun D K hD => (Ok.mp (B124_0).mpr (Ok.callV (R114 L mi rs) (by omega) fun m1 r1 => (Ok.mp (B124_4).mpr (Ok.callI (R47 0 (by decide) L m1 r1) (by omega) fun v2 m2 r2 => (Ok.mp (B124_15).mpr (Ok.callV (R106 L x1 v2 m2 r2) (by omega) fun m3 r3 => (Ok.mp (B124_18).mpr (Ok.callV (R117 L x2 (N 0) (N 4) m3 r3) (by omega) fun m4 r4 => (Ok.mp (B124_24).mpr (Ok.callI (R48 0 (by decide) L x1 x2 m4 r4) (by omega) fun v5 m5 r5 => (Ok.mp (B124_36).mpr Ok.leaf)))))))))))
def F7_4 (i : Nat) : Nat → Int32 → Int32 → Int32 → mMi → mRs → mRz
  | 0, _, _, _, _, _ => none
  | f + 1, x1, x2, x3, mi, rs => mifO (decide ((mi 1 (RO i) 0 4) ≤ x3)) (some (.inl (some (mI (I (-1)))), mi, rs)) (bI (F2 i x3 mi rs) (fun v1 m1 r1 => mifO (decide (v1 = (N 0))) (F7_4 i f x1 x2 (x3 + (N 1)) m1 r1) (mifO (decide (x2 ≠ x1)) (F7_4 i f x1 (x2 + (N 1)) (x3 + (N 1)) m1 r1) (some (.inl (some (mI x3)), m1, r1)))))
set_option maxRecDepth 100000 in
theorem R7_4 (i : Nat) (hi : i < 3) (L : Nat) : ∀ f : Nat, (∀ (x1 : Int32) (x2 : Int32) (x3 : Int32) (mi : mMi) (rs : mRs) (D : Nat) (K : mOut → mH → Prop), 1 ≤ D → Ok (F7_4 i f x1 x2 x3 mi rs) (true, L, none) K (WP (D + 1) 7 4 [some (mR 0 i 10), some (mI x1), some (mI x2), some (mI x3)] [] (hq (true, L, none) mi rs) K)) := by
  intro f
  induction f with
  | zero => intro x1 x2 x3 mi rs D K hD; exact Ok.no
  | succ f ih =>
    intro x1 x2 x3 mi rs D K hD
    unfold F7_4
    exact (Ok.mp (B7_4 hi).mpr (Ok.if (Ok.mp (B7_39 hi).mpr Ok.leaf) (Ok.mp (B7_15 hi).mpr (Ok.callI (R2 i hi L x3 mi rs) (by omega) fun v1 m1 r1 => (Ok.mp (B7_20 hi).mpr (Ok.if (Ok.mp (B7_33 hi).mpr (ih x1 x2 (x3 + (N 1)) m1 r1  D K (by omega))) (Ok.mp (B7_23 hi).mpr (Ok.if (Ok.mp (B7_30 hi).mpr (Ok.mp (B7_33 hi).mpr (ih x1 (x2 + (N 1)) (x3 + (N 1)) m1 r1  D K (by omega)))) (Ok.mp (B7_28 hi).mpr Ok.leaf)))))))))
def F7 (i : Nat) (x1 : Int32) (mi : mMi) (rs : mRs) : mRz := F7_4 i FU x1 (N 0) (N 0) mi rs
set_option maxRecDepth 100000 in
theorem R7 (i : Nat) (hi : i < 3) (L : Nat) (x1 : Int32) (mi : mMi) (rs : mRs) : Does 7 [mR 0 i 10, mI x1] (true, L, none) mi rs (F7 i x1 mi rs) 2 :=
  Does.of fun D K hD => (Ok.mp (B7_0 hi).mpr (R7_4 i hi L FU x1 (N 0) (N 0) mi rs  D K (by omega)))
def F125 (x1 : Int32) (mi : mMi) (rs : mRs) : mRz := bV (F114 mi rs) (fun m1 r1 => bI (F6 0 m1 r1) (fun v2 m2 r2 => bV (F106 x1 v2 m2 r2) (fun m3 r3 => bI (F7 0 x1 m3 r3) (fun v4 m4 r4 => some (.inl (some (mI v4)), m4, r4)))))
set_option maxRecDepth 100000 in
theorem R125 (L : Nat) (x1 : Int32) (mi : mMi) (rs : mRs) : Does 125 [mR 2 0 0, mI x1] (true, L, none) mi rs (F125 x1 mi rs) 3 :=
  Does.of fun D K hD => (Ok.mp (B125_0).mpr (Ok.callV (R114 L mi rs) (by omega) fun m1 r1 => (Ok.mp (B125_4).mpr (Ok.callI (R6 0 (by decide) L m1 r1) (by omega) fun v2 m2 r2 => (Ok.mp (B125_15).mpr (Ok.callV (R106 L x1 v2 m2 r2) (by omega) fun m3 r3 => (Ok.mp (B125_18).mpr (Ok.callI (R7 0 (by decide) L x1 m3 r3) (by omega) fun v4 m4 r4 => (Ok.mp (B125_29).mpr Ok.leaf)))))))))
def F126 (x1 : Int32) (mi : mMi) (rs : mRs) : mRz := bV (F114 mi rs) (fun m1 r1 => bV (F106 x1 (m1 0 0 10 5) m1 r1) (fun m2 r2 => mckO (mIn x1 40) (some (.inl (some (mI (m2 0 0 14 (mix x1)))), m2, r2))))
set_option maxRecDepth 100000 in
theorem R126 (L : Nat) (x1 : Int32) (mi : mMi) (rs : mRs) : Does 126 [mR 2 0 0, mI x1] (true, L, none) mi rs (F126 x1 mi rs) 3 :=
  Does.of fun D K hD => (Ok.mp (B126_0).mpr (Ok.callV (R114 L mi rs) (by omega) fun m1 r1 => (Ok.mp (B126_4).mpr (Ok.callV (R106 L x1 (m1 0 0 10 5) m1 r1) (by omega) fun m2 r2 => (Ok.mp (B126_18).mpr (Ok.gd Ok.leaf))))))
def F127 (x1 : Int32) (x2 : Int32) (mi : mMi) (rs : mRs) : mRz := bV (F122 x1 x2 mi rs) (fun m1 r1 => bI (F12 0 x1 x2 m1 r1) (fun v2 m2 r2 => mckO (mZ v2 || false) (some (.inl (some (mI v2)), m2, r2))))
set_option maxRecDepth 100000 in
theorem R127 (L : Nat) (x1 : Int32) (x2 : Int32) (mi : mMi) (rs : mRs) : Does 127 [mR 2 0 0, mI x1, mI x2] (true, L, none) mi rs (F127 x1 x2 mi rs) 5 :=
  Does.of fun D K hD => (Ok.mp (B127_0).mpr (Ok.callV (R122 L x1 x2 mi rs) (by omega) fun m1 r1 => (Ok.mp (B127_6).mpr (Ok.callI (R12 0 (by decide) L x1 x2 m1 r1) (by omega) fun v2 m2 r2 => (Ok.mp (B127_15).mpr (Ok.gd Ok.leaf))))))
def F128 (x1 : Int32) (x2 : Int32) (mi : mMi) (rs : mRs) : mRz := bV (F122 x1 x2 mi rs) (fun m1 r1 => bI (F16 0 x1 x2 m1 r1) (fun v2 m2 r2 => mckO (mZ v2 || false) (some (.inl (some (mI v2)), m2, r2))))
set_option maxRecDepth 100000 in
theorem R128 (L : Nat) (x1 : Int32) (x2 : Int32) (mi : mMi) (rs : mRs) : Does 128 [mR 2 0 0, mI x1, mI x2] (true, L, none) mi rs (F128 x1 x2 mi rs) 5 :=
  Does.of fun D K hD => (Ok.mp (B128_0).mpr (Ok.callV (R122 L x1 x2 mi rs) (by omega) fun m1 r1 => (Ok.mp (B128_6).mpr (Ok.callI (R16 0 (by decide) L x1 x2 m1 r1) (by omega) fun v2 m2 r2 => (Ok.mp (B128_15).mpr (Ok.gd Ok.leaf))))))
def F129_8 : Nat → Int32 → Int32 → mMi → mRs → mRz
  | 0, _, _, _, _ => none
  | f + 1, x1, x2, mi, rs => mifO (decide ((N 96) ≤ x2)) (some (.inl (some (mI x1)), mi, rs)) (bI (F51 0 x2 mi rs) (fun v1 m1 r1 => mifO (decide (v1 = (N 0))) (F129_8 f x1 (x2 + (N 1)) m1 r1) (bI (F111 x2 m1 r1) (fun v2 m2 r2 => F129_8 f v2 (x2 + (N 1)) m2 r2))))
set_option maxRecDepth 100000 in
theorem R129_8 (L : Nat) : ∀ f : Nat, (∀ (x1 : Int32) (x2 : Int32) (mi : mMi) (rs : mRs) (D : Nat) (K : mOut → mH → Prop), 2 ≤ D → Ok (F129_8 f x1 x2 mi rs) (true, L, none) K (WP (D + 1) 129 8 [some (mR 2 0 0), some (mI x1), some (mI x2)] [] (hq (true, L, none) mi rs) K)) := by
  intro f
  induction f with
  | zero => intro x1 x2 mi rs D K hD; exact Ok.no
  | succ f ih =>
    intro x1 x2 mi rs D K hD
    unfold F129_8
    exact (Ok.mp (B129_8).mpr (Ok.if (Ok.mp (B129_39).mpr Ok.leaf) (Ok.mp (B129_14).mpr (Ok.callI (R51 0 (by decide) L x2 mi rs) (by omega) fun v1 m1 r1 => (Ok.mp (B129_25).mpr (Ok.if (Ok.mp (B129_33).mpr (ih x1 (x2 + (N 1)) m1 r1  D K (by omega))) (Ok.mp (B129_28).mpr (Ok.callI (R111 L x2 m1 r1) (by omega) fun v2 m2 r2 => (Ok.mp (B129_32).mpr (Ok.mp (B129_33).mpr (ih v2 (x2 + (N 1)) m2 r2  D K (by omega))))))))))))
def F129 (mi : mMi) (rs : mRs) : mRz := bV (F114 mi rs) (fun m3 r3 => F129_8 FU (I (-1)) (N 0) m3 r3)
set_option maxRecDepth 100000 in
theorem R129 (L : Nat) (mi : mMi) (rs : mRs) : Does 129 [mR 2 0 0] (true, L, none) mi rs (F129  mi rs) 3 :=
  Does.of fun D K hD => (Ok.mp (B129_0).mpr (Ok.callV (R114 L mi rs) (by omega) fun m3 r3 => (Ok.mp (B129_4).mpr (R129_8 L FU (I (-1)) (N 0) m3 r3  D K (by omega)))))
def F31_12 (i : Nat) : Nat → Int32 → Int32 → mMi → mRs → mRz
  | 0, _, _, _, _ => none
  | f + 1, x1, x2, mi, rs => mifO (decide ((N 96) ≤ x2)) (some (.inl (some (mI x1)), mi, rs)) (bI (F51 i x2 mi rs) (fun v1 m1 r1 => mifO (decide (v1 = (N 0))) (F31_12 i f x1 (x2 + (N 1)) m1 r1) (mifO (decide (x1 = (I (-1)))) (F31_12 i f x2 (x2 + (N 1)) m1 r1) (bI (F23 i x2 m1 r1) (fun v2 m2 r2 => bI (F23 i x1 m2 r2) (fun v3 m3 r3 => mifO (decide (v3 ≤ v2)) (F31_12 i f x1 (x2 + (N 1)) m3 r3) (F31_12 i f x2 (x2 + (N 1)) m3 r3)))))))
set_option maxRecDepth 100000 in
theorem R31_12 (i : Nat) (hi : i < 3) (L : Nat) : ∀ f : Nat, (∀ (x1 : Int32) (x2 : Int32) (mi : mMi) (rs : mRs) (D : Nat) (K : mOut → mH → Prop), 4 ≤ D → Ok (F31_12 i f x1 x2 mi rs) (true, L, none) K (WP (D + 1) 31 12 [some (mR 0 i 0), some (mI x1), some (mI x2)] [] (hq (true, L, none) mi rs) K)) := by
  intro f
  induction f with
  | zero => intro x1 x2 mi rs D K hD; exact Ok.no
  | succ f ih =>
    intro x1 x2 mi rs D K hD
    unfold F31_12
    exact (Ok.mp (B31_12 hi).mpr (Ok.if (Ok.mp (B31_55 hi).mpr Ok.leaf) (Ok.mp (B31_18 hi).mpr (Ok.callI (R51 i hi L x2 mi rs) (by omega) fun v1 m1 r1 => (Ok.mp (B31_26 hi).mpr (Ok.if (Ok.mp (B31_49 hi).mpr (ih x1 (x2 + (N 1)) m1 r1  D K (by omega))) (Ok.mp (B31_29 hi).mpr (Ok.if (Ok.mp (B31_47 hi).mpr (Ok.mp (B31_49 hi).mpr (ih x2 (x2 + (N 1)) m1 r1  D K (by omega)))) (Ok.mp (B31_34 hi).mpr (Ok.callI (R23 i hi L x2 m1 r1) (by omega) fun v2 m2 r2 => (Ok.mp (B31_39 hi).mpr (Ok.callI (R23 i hi L x1 m2 r2) (by omega) fun v3 m3 r3 => (Ok.mp (B31_44 hi).mpr (Ok.if (Ok.mp (B31_49 hi).mpr (ih x1 (x2 + (N 1)) m3 r3  D K (by omega))) (Ok.mp (B31_47 hi).mpr (Ok.mp (B31_49 hi).mpr (ih x2 (x2 + (N 1)) m3 r3  D K (by omega))))))))))))))))))
def F31 (i : Nat) (mi : mMi) (rs : mRs) : mRz := bV (F85 i mi rs) (fun m4 r4 => F31_12 i FU (I (-1)) (N 0) m4 r4)
set_option maxRecDepth 100000 in
theorem R31 (i : Nat) (hi : i < 3) (L : Nat) (mi : mMi) (rs : mRs) : Does 31 [mR 0 i 0] (true, L, none) mi rs (F31 i  mi rs) 5 :=
  Does.of fun D K hD => (Ok.mp (B31_0 hi).mpr (Ok.callV (R85 i hi L mi rs) (by omega) fun m4 r4 => (Ok.mp (B31_8 hi).mpr (R31_12 i hi L FU (I (-1)) (N 0) m4 r4  D K (by omega)))))
def F131 (x0 : Int32) (mi : mMi) (rs : mRs) : mRz := mifO (decide (x0 ≠ (I (-1)))) (bI (F111 x0 mi rs) (fun v1 m1 r1 => bI (F112 x0 m1 r1) (fun v2 m2 r2 => some (.inl (some (mI (((N 100) * v1) + v2))), m2, r2)))) (some (.inl (some (mI (I (-1)))), mi, rs))
set_option maxRecDepth 100000 in
theorem R131 (L : Nat) (x0 : Int32) (mi : mMi) (rs : mRs) : Does 131 [mI x0] (true, L, none) mi rs (F131 x0 mi rs) 2 :=
  Does.of fun D K hD => (Ok.mp (B131_0).mpr (Ok.if (Ok.mp (B131_9).mpr (Ok.callI (R111 L x0 mi rs) (by omega) fun v1 m1 r1 => (Ok.mp (B131_15).mpr (Ok.callI (R112 L x0 m1 r1) (by omega) fun v2 m2 r2 => (Ok.mp (B131_20).mpr (Ok.mp (B131_21).mpr Ok.leaf)))))) (Ok.mp (B131_5).mpr (Ok.mp (B131_21).mpr Ok.leaf))))
def F130 (mi : mMi) (rs : mRs) : mRz := bV (F114 mi rs) (fun m1 r1 => bI (F31 0 m1 r1) (fun v2 m2 r2 => bI (F131 v2 m2 r2) (fun v3 m3 r3 => some (.inl (some (mI v3)), m3, r3))))
set_option maxRecDepth 100000 in
theorem R130 (L : Nat) (mi : mMi) (rs : mRs) : Does 130 [mR 2 0 0] (true, L, none) mi rs (F130  mi rs) 6 :=
  Does.of fun D K hD => (Ok.mp (B130_0).mpr (Ok.callV (R114 L mi rs) (by omega) fun m1 r1 => (Ok.mp (B130_4).mpr (Ok.callI (R31 0 (by decide) L m1 r1) (by omega) fun v2 m2 r2 => (Ok.mp (B130_11).mpr (Ok.callI (R131 L v2 m2 r2) (by omega) fun v3 m3 r3 => (Ok.mp (B130_14).mpr Ok.leaf)))))))
def F56_4 (i : Nat) : Nat → Int32 → Int32 → mMi → mRs → mRz
  | 0, _, _, _, _ => none
  | f + 1, x1, x2, mi, rs => mifO (decide ((N 96) ≤ x2)) (some (.inl (some (mI x1)), mi, rs)) (bI (F51 i x2 mi rs) (fun v1 m1 r1 => mifO (decide (v1 = (N 0))) (F56_4 i f x1 (x2 + (N 1)) m1 r1) (mifO (decide (x1 = (I (-1)))) (F56_4 i f x2 (x2 + (N 1)) m1 r1) (mckO (mIn x2 96) (mckO (mIn x1 96) (mifO (decide ((m1 0 i 5 (mix x2)) ≤ (m1 0 i 5 (mix x1)))) (F56_4 i f x1 (x2 + (N 1)) m1 r1) (F56_4 i f x2 (x2 + (N 1)) m1 r1)))))))
set_option maxRecDepth 100000 in
theorem R56_4 (i : Nat) (hi : i < 3) (L : Nat) : ∀ f : Nat, (∀ (x1 : Int32) (x2 : Int32) (mi : mMi) (rs : mRs) (D : Nat) (K : mOut → mH → Prop), 1 ≤ D → Ok (F56_4 i f x1 x2 mi rs) (true, L, none) K (WP (D + 1) 56 4 [some (mR 0 i 1), some (mI x1), some (mI x2)] [] (hq (true, L, none) mi rs) K)) := by
  intro f
  induction f with
  | zero => intro x1 x2 mi rs D K hD; exact Ok.no
  | succ f ih =>
    intro x1 x2 mi rs D K hD
    unfold F56_4
    exact (Ok.mp (B56_4 hi).mpr (Ok.if (Ok.mp (B56_46 hi).mpr Ok.leaf) (Ok.mp (B56_10 hi).mpr (Ok.callI (R51 i hi L x2 mi rs) (by omega) fun v1 m1 r1 => (Ok.mp (B56_15 hi).mpr (Ok.if (Ok.mp (B56_40 hi).mpr (ih x1 (x2 + (N 1)) m1 r1  D K (by omega))) (Ok.mp (B56_18 hi).mpr (Ok.if (Ok.mp (B56_38 hi).mpr (Ok.mp (B56_40 hi).mpr (ih x2 (x2 + (N 1)) m1 r1  D K (by omega)))) (Ok.mp (B56_23 hi).mpr (Ok.gd (Ok.gd (Ok.if (Ok.mp (B56_40 hi).mpr (ih x1 (x2 + (N 1)) m1 r1  D K (by omega))) (Ok.mp (B56_38 hi).mpr (Ok.mp (B56_40 hi).mpr (ih x2 (x2 + (N 1)) m1 r1  D K (by omega))))))))))))))))
def F56 (i : Nat) (mi : mMi) (rs : mRs) : mRz := F56_4 i FU (I (-1)) (N 0) mi rs
set_option maxRecDepth 100000 in
theorem R56 (i : Nat) (hi : i < 3) (L : Nat) (mi : mMi) (rs : mRs) : Does 56 [mR 0 i 1] (true, L, none) mi rs (F56 i  mi rs) 2 :=
  Does.of fun D K hD => (Ok.mp (B56_0 hi).mpr (R56_4 i hi L FU (I (-1)) (N 0) mi rs  D K (by omega)))
def F132 (mi : mMi) (rs : mRs) : mRz := bV (F114 mi rs) (fun m1 r1 => bI (F56 0 m1 r1) (fun v2 m2 r2 => bI (F131 v2 m2 r2) (fun v3 m3 r3 => some (.inl (some (mI v3)), m3, r3))))
set_option maxRecDepth 100000 in
theorem R132 (L : Nat) (mi : mMi) (rs : mRs) : Does 132 [mR 2 0 0] (true, L, none) mi rs (F132  mi rs) 3 :=
  Does.of fun D K hD => (Ok.mp (B132_0).mpr (Ok.callV (R114 L mi rs) (by omega) fun m1 r1 => (Ok.mp (B132_4).mpr (Ok.callI (R56 0 (by decide) L m1 r1) (by omega) fun v2 m2 r2 => (Ok.mp (B132_14).mpr (Ok.callI (R131 L v2 m2 r2) (by omega) fun v3 m3 r3 => (Ok.mp (B132_17).mpr Ok.leaf)))))))
def F32 (i : Nat) (x1 : Int32) (x2 : Int32) (mi : mMi) (rs : mRs) : mRz := bV (F26 i x1 x2 (N 0) (I (-1)) mi rs) (fun m1 r1 => some (.inl (some (mI ((m1 0 i 7 2) - (mi 0 i 7 2)))), m1, r1))
set_option maxRecDepth 100000 in
theorem R32 (i : Nat) (hi : i < 3) (L : Nat) (x1 : Int32) (x2 : Int32) (mi : mMi) (rs : mRs) : Does 32 [mR 0 i 0, mI x1, mI x2] (true, L, none) mi rs (F32 i x1 x2 mi rs) 24 :=
  Does.of fun D K hD => (Ok.mp (B32_0 hi).mpr (Ok.callV (R26 i hi L x1 x2 (N 0) (I (-1)) mi rs) (by omega) fun m1 r1 => (Ok.mp (B32_16 hi).mpr Ok.leaf)))
def F133 (x1 : Int32) (x2 : Int32) (mi : mMi) (rs : mRs) : mRz := bV (F122 x1 x2 mi rs) (fun m1 r1 => bV (F18 1 0 m1 r1) (fun m2 r2 => bI (F32 1 x1 x2 m2 r2) (fun v3 m3 r3 => some (.inl (some (mI v3)), m3, r3))))
set_option maxRecDepth 100000 in
theorem R133 (L : Nat) (x1 : Int32) (x2 : Int32) (mi : mMi) (rs : mRs) : Does 133 [mR 2 0 0, mI x1, mI x2] (true, L, none) mi rs (F133 x1 x2 mi rs) 25 :=
  Does.of fun D K hD => (Ok.mp (B133_0).mpr (Ok.callV (R122 L x1 x2 mi rs) (by omega) fun m1 r1 => (Ok.mp (B133_6).mpr (Ok.callV (R18a 1 (by decide) L m1 r1) (by omega) fun m2 r2 => (Ok.mp (B133_17).mpr (Ok.callI (R32 1 (by decide) L x1 x2 m2 r2) (by omega) fun v3 m3 r3 => (Ok.mp (B133_26).mpr Ok.leaf)))))))
def F33_4 (i : Nat) : Nat → Int32 → Int32 → mMi → mRs → mRz
  | 0, _, _, _, _ => none
  | f + 1, x1, x2, mi, rs => mifO (decide ((N 96) ≤ x2)) (some (.inl (some (mI x1)), mi, rs)) (bI (F22 i x2 mi rs) (fun v1 m1 r1 => bI (F21 i x2 m1 r1) (fun v2 m2 r2 => F33_4 i f (x1 + (v1 + v2)) (x2 + (N 1)) m2 r2)))
set_option maxRecDepth 100000 in
theorem R33_4 (i : Nat) (hi : i < 3) (L : Nat) : ∀ f : Nat, (∀ (x1 : Int32) (x2 : Int32) (mi : mMi) (rs : mRs) (D : Nat) (K : mOut → mH → Prop), 2 ≤ D → Ok (F33_4 i f x1 x2 mi rs) (true, L, none) K (WP (D + 1) 33 4 [some (mR 0 i 0), some (mI x1), some (mI x2)] [] (hq (true, L, none) mi rs) K)) := by
  intro f
  induction f with
  | zero => intro x1 x2 mi rs D K hD; exact Ok.no
  | succ f ih =>
    intro x1 x2 mi rs D K hD
    unfold F33_4
    exact (Ok.mp (B33_4 hi).mpr (Ok.if (Ok.mp (B33_30 hi).mpr Ok.leaf) (Ok.mp (B33_10 hi).mpr (Ok.callI (R22 i hi L x2 mi rs) (by omega) fun v1 m1 r1 => (Ok.mp (B33_16 hi).mpr (Ok.callI (R21 i hi L x2 m1 r1) (by omega) fun v2 m2 r2 => (Ok.mp (B33_21 hi).mpr (ih (x1 + (v1 + v2)) (x2 + (N 1)) m2 r2  D K (by omega)))))))))
def F33 (i : Nat) (mi : mMi) (rs : mRs) : mRz := F33_4 i FU (N 0) (N 0) mi rs
set_option maxRecDepth 100000 in
theorem R33 (i : Nat) (hi : i < 3) (L : Nat) (mi : mMi) (rs : mRs) : Does 33 [mR 0 i 0] (true, L, none) mi rs (F33 i  mi rs) 3 :=
  Does.of fun D K hD => (Ok.mp (B33_0 hi).mpr (R33_4 i hi L FU (N 0) (N 0) mi rs  D K (by omega)))
