/-! METHODS AS FUNCTIONS, by program. -/
def F246_40 : Nat → Nat → Int32 → Int32 → Int32 → mMi → mRs → mRz
  | 0, _, _, _, _, _, _ => none
  | f + 1, t, x1, x2, x3, mi, rs => match t with
    | 40 => mifO (decide (x3 < (N 0))) (some (.inl (some (mI x2)), mi, rs)) (F246_40 f 47 x1 (x2 + (N 1)) x3 mi rs)
    | 47 => bI (F204 x2 (N 1) mi rs) (fun v1 m1 r1 => mifO (decide (v1 = (N 0))) (F246_40 f 40 x1 x2 (x3 + (I (-1))) m1 r1) (F246_40 f 47 x1 (x2 + (N 1)) x3 m1 r1))
    | _ => none
set_option maxRecDepth 100000 in
theorem R246_40 (L : Nat) : ∀ f : Nat, (∀ (x1 : Int32) (x2 : Int32) (x3 : Int32) (mi : mMi) (rs : mRs) (D : Nat) (K : mOut → mH → Prop), 2 ≤ D → Ok (F246_40 f 40 x1 x2 x3 mi rs) L K (WP (D + 1) 246 40 [some (mR 4 0 0), some (mI x1), some (mI x2), some (mI x3)] [] (hp L mi rs) K)) ∧ (∀ (x1 : Int32) (x2 : Int32) (x3 : Int32) (mi : mMi) (rs : mRs) (D : Nat) (K : mOut → mH → Prop), 2 ≤ D → Ok (F246_40 f 47 x1 x2 x3 mi rs) L K (WP (D + 1) 246 47 [some (mR 4 0 0), some (mI x1), some (mI x2), some (mI x3)] [] (hp L mi rs) K)) := by
  intro f
  induction f with
  | zero => exact ⟨(by intro x1 x2 x3 mi rs D K hD; exact Ok.no), (by intro x1 x2 x3 mi rs D K hD; exact Ok.no)⟩
  | succ f ih =>
    refine ⟨?_, ?_⟩
    · intro x1 x2 x3 mi rs D K hD
      unfold F246_40
      exact (Ok.mp (B246_40).mpr (Ok.if (Ok.mp (B246_68).mpr Ok.leaf) (Ok.mp (B246_44).mpr (ih.2 x1 (x2 + (N 1)) x3 mi rs  D K (by omega)))))
    · intro x1 x2 x3 mi rs D K hD
      unfold F246_40
      exact (Ok.mp (B246_47).mpr (Ok.callI (R204 L x2 (N 1) mi rs) (by omega) fun v1 m1 r1 => (Ok.mp (B246_53).mpr (Ok.if (Ok.mp (B246_62).mpr (Ok.mp (B246_65).mpr (ih.1 x1 x2 (x3 + (I (-1))) m1 r1  D K (by omega)))) (Ok.mp (B246_56).mpr (ih.2 x1 (x2 + (N 1)) x3 m1 r1  D K (by omega)))))))
def F246 (x1 : Int32) (mi : mMi) (rs : mRs) : mRz := bI (F230 mi rs) (fun v2 m2 r2 => mifO (decide (v2 ≠ (N 0))) (some (.inl (some (mI (N 0))), m2, r2)) (bI (F232 m2 r2) (fun v3 m3 r3 => bI (F177 x1 (N 0) (v3 - (N 1)) m3 r3) (fun v4 m4 r4 => mifO (decide (v4 ≠ (N 0))) (bI (F178 (N 0) (N 2) m4 r4) (fun v5 m5 r5 => mifO (decide (v5 = (N 0))) (F246_40 FU 40 x1 (I (-1)) x1 m5 r5) (some (.inl (some (mI (N 0))), m5, r5)))) (bI (F178 (N 1) (N 2) m4 r4) (fun v6 m6 r6 => mifO (decide (v6 = (N 0))) (F246_40 FU 40 x1 (I (-1)) x1 m6 r6) (some (.inl (some (mI (N 0))), m6, r6))))))))
set_option maxRecDepth 100000 in
theorem R246 (L : Nat) (x1 : Int32) (mi : mMi) (rs : mRs) : Does 246 [mR 4 0 0, mI x1] L mi rs (F246 x1 mi rs) 3 :=
  Does.of fun D K hD => (Ok.mp (B246_0).mpr (Ok.callI (R230 L mi rs) (by omega) fun v2 m2 r2 => (Ok.mp (B246_4).mpr (Ok.if (Ok.mp (B246_34).mpr Ok.leaf) (Ok.mp (B246_7).mpr (Ok.callI (R232 L m2 r2) (by omega) fun v3 m3 r3 => (Ok.mp (B246_14).mpr (Ok.callI (R177 L x1 (N 0) (v3 - (N 1)) m3 r3) (by omega) fun v4 m4 r4 => (Ok.mp (B246_19).mpr (Ok.if (Ok.mp (B246_26).mpr (Ok.mp (B246_27).mpr (Ok.callI (R178 L (N 0) (N 2) m4 r4) (by omega) fun v5 m5 r5 => (Ok.mp (B246_31).mpr (Ok.if (Ok.mp (B246_36).mpr ((R246_40 L FU).1 x1 (I (-1)) x1 m5 r5  D K (by omega))) (Ok.mp (B246_34).mpr Ok.leaf)))))) (Ok.mp (B246_22).mpr (Ok.mp (B246_27).mpr (Ok.callI (R178 L (N 1) (N 2) m4 r4) (by omega) fun v6 m6 r6 => (Ok.mp (B246_31).mpr (Ok.if (Ok.mp (B246_36).mpr ((R246_40 L FU).1 x1 (I (-1)) x1 m6 r6  D K (by omega))) (Ok.mp (B246_34).mpr Ok.leaf))))))))))))))))
def F247 (x1 : Int32) (mi : mMi) (rs : mRs) : mRz := bI (F230 mi rs) (fun v1 m1 r1 => mifO (decide (v1 ≠ (N 0))) (some (.inl (some (mI (N 0))), m1, r1)) (bI (F177 x1 (N 0) ((m1 4 0 3 7) - (N 1)) m1 r1) (fun v2 m2 r2 => mifO (decide (v2 ≠ (N 0))) (bI (F178 (N 0) (N 2) m2 r2) (fun v3 m3 r3 => mifO (decide (v3 = (N 0))) (mckO (mIn ((N 728) + x1) 918) (some (.inl (some (mI (m3 4 0 3 (mix ((N 728) + x1))))), m3, r3))) (some (.inl (some (mI (N 0))), m3, r3)))) (bI (F178 (N 1) (N 2) m2 r2) (fun v4 m4 r4 => mifO (decide (v4 = (N 0))) (mckO (mIn ((N 728) + x1) 918) (some (.inl (some (mI (m4 4 0 3 (mix ((N 728) + x1))))), m4, r4))) (some (.inl (some (mI (N 0))), m4, r4)))))))
set_option maxRecDepth 100000 in
theorem R247 (L : Nat) (x1 : Int32) (mi : mMi) (rs : mRs) : Does 247 [mR 4 0 0, mI x1] L mi rs (F247 x1 mi rs) 3 :=
  Does.of fun D K hD => (Ok.mp (B247_0).mpr (Ok.callI (R230 L mi rs) (by omega) fun v1 m1 r1 => (Ok.mp (B247_4).mpr (Ok.if (Ok.mp (B247_37).mpr (Ok.mp (B247_51).mpr Ok.leaf)) (Ok.mp (B247_7).mpr (Ok.callI (R177 L x1 (N 0) ((m1 4 0 3 7) - (N 1)) m1 r1) (by omega) fun v2 m2 r2 => (Ok.mp (B247_22).mpr (Ok.if (Ok.mp (B247_29).mpr (Ok.mp (B247_30).mpr (Ok.callI (R178 L (N 0) (N 2) m2 r2) (by omega) fun v3 m3 r3 => (Ok.mp (B247_34).mpr (Ok.if (Ok.mp (B247_41).mpr (Ok.gd (Ok.mp (B247_51).mpr Ok.leaf))) (Ok.mp (B247_37).mpr (Ok.mp (B247_51).mpr Ok.leaf))))))) (Ok.mp (B247_25).mpr (Ok.mp (B247_30).mpr (Ok.callI (R178 L (N 1) (N 2) m2 r2) (by omega) fun v4 m4 r4 => (Ok.mp (B247_34).mpr (Ok.if (Ok.mp (B247_41).mpr (Ok.gd (Ok.mp (B247_51).mpr Ok.leaf))) (Ok.mp (B247_37).mpr (Ok.mp (B247_51).mpr Ok.leaf)))))))))))))))
def F248 (x1 : Int32) (x2 : Int32) (mi : mMi) (rs : mRs) : mRz := bI (F241 x1 x2 mi rs) (fun v1 m1 r1 => mifO (decide (v1 ≠ (N 0))) (mckO (mZ (N 0) || false) (some (.inl (some (mI (N 0))), m1, r1))) (bI (F197 x1 x2 m1 r1) (fun v2 m2 r2 => mifO (decide (v2 = (N 0))) (mckO (mZ (N 0) || false) (some (.inl (some (mI (N 0))), m2, r2))) (mckO (mZ (N 1) || false) (some (.inl (some (mI (N 1))), m2, r2))))))
set_option maxRecDepth 100000 in
theorem R248 (L : Nat) (x1 : Int32) (x2 : Int32) (mi : mMi) (rs : mRs) : Does 248 [mR 4 0 0, mI x1, mI x2] L mi rs (F248 x1 x2 mi rs) 5 :=
  Does.of fun D K hD => (Ok.mp (B248_0).mpr (Ok.callI (R241 L x1 x2 mi rs) (by omega) fun v1 m1 r1 => (Ok.mp (B248_6).mpr (Ok.if (Ok.mp (B248_22).mpr (Ok.mp (B248_23).mpr (Ok.gd Ok.leaf))) (Ok.mp (B248_9).mpr (Ok.callI (R197 L x1 x2 m1 r1) (by omega) fun v2 m2 r2 => (Ok.mp (B248_15).mpr (Ok.if (Ok.mp (B248_22).mpr (Ok.mp (B248_23).mpr (Ok.gd Ok.leaf))) (Ok.mp (B248_18).mpr (Ok.mp (B248_23).mpr (Ok.gd Ok.leaf)))))))))))
def F249 (x1 : Int32) (x2 : Int32) (mi : mMi) (rs : mRs) : mRz := bI (F241 x1 x2 mi rs) (fun v1 m1 r1 => mifO (decide (v1 ≠ (N 0))) (mckO (mZ (N 0) || false) (some (.inl (some (mI (N 0))), m1, r1))) (bI (F209 x1 x2 m1 r1) (fun v2 m2 r2 => mifO (decide (v2 = (N 0))) (mckO (mZ (N 0) || false) (some (.inl (some (mI (N 0))), m2, r2))) (mckO (mZ (N 1) || false) (some (.inl (some (mI (N 1))), m2, r2))))))
set_option maxRecDepth 100000 in
theorem R249 (L : Nat) (x1 : Int32) (x2 : Int32) (mi : mMi) (rs : mRs) : Does 249 [mR 4 0 0, mI x1, mI x2] L mi rs (F249 x1 x2 mi rs) 5 :=
  Does.of fun D K hD => (Ok.mp (B249_0).mpr (Ok.callI (R241 L x1 x2 mi rs) (by omega) fun v1 m1 r1 => (Ok.mp (B249_6).mpr (Ok.if (Ok.mp (B249_22).mpr (Ok.mp (B249_23).mpr (Ok.gd Ok.leaf))) (Ok.mp (B249_9).mpr (Ok.callI (R209 L x1 x2 m1 r1) (by omega) fun v2 m2 r2 => (Ok.mp (B249_15).mpr (Ok.if (Ok.mp (B249_22).mpr (Ok.mp (B249_23).mpr (Ok.gd Ok.leaf))) (Ok.mp (B249_18).mpr (Ok.mp (B249_23).mpr (Ok.gd Ok.leaf)))))))))))
def F250_13 : Nat → Int32 → Int32 → mMi → mRs → mRz
  | 0, _, _, _, _ => none
  | f + 1, x1, x2, mi, rs => mifO (decide ((N 96) ≤ x2)) (some (.inl (some (mI x1)), mi, rs)) (bI (F201 x2 (N 0) mi rs) (fun v1 m1 r1 => mifO (decide (v1 = (I (-1)))) (F250_13 f x1 (x2 + (N 1)) m1 r1) (F250_13 f (x2 / (N 12)) (x2 + (N 1)) m1 r1)))
set_option maxRecDepth 100000 in
theorem R250_13 (L : Nat) : ∀ f : Nat, (∀ (x1 : Int32) (x2 : Int32) (mi : mMi) (rs : mRs) (D : Nat) (K : mOut → mH → Prop), 2 ≤ D → Ok (F250_13 f x1 x2 mi rs) L K (WP (D + 1) 250 13 [some (mR 4 0 0), some (mI x1), some (mI x2)] [] (hp L mi rs) K)) := by
  intro f
  induction f with
  | zero => intro x1 x2 mi rs D K hD; exact Ok.no
  | succ f ih =>
    intro x1 x2 mi rs D K hD
    unfold F250_13
    exact (Ok.mp (B250_13).mpr (Ok.if (Ok.mp (B250_44).mpr Ok.leaf) (Ok.mp (B250_19).mpr (Ok.callI (R201 L x2 (N 0) mi rs) (by omega) fun v1 m1 r1 => (Ok.mp (B250_25).mpr (Ok.if (Ok.mp (B250_36).mpr (Ok.mp (B250_37).mpr (ih x1 (x2 + (N 1)) m1 r1  D K (by omega)))) (Ok.mp (B250_29).mpr (Ok.mp (B250_37).mpr (ih (x2 / (N 12)) (x2 + (N 1)) m1 r1  D K (by omega))))))))))
def F250 (mi : mMi) (rs : mRs) : mRz := bI (F230 mi rs) (fun v2 m2 r2 => mifO (decide (v2 = (N 0))) (F250_13 FU (I (-1)) (N 0) m2 r2) (some (.inl (some (mI (N 0))), m2, r2)))
set_option maxRecDepth 100000 in
theorem R250 (L : Nat) (mi : mMi) (rs : mRs) : Does 250 [mR 4 0 0] L mi rs (F250  mi rs) 3 :=
  Does.of fun D K hD => (Ok.mp (B250_0).mpr (Ok.callI (R230 L mi rs) (by omega) fun v2 m2 r2 => (Ok.mp (B250_4).mpr (Ok.if (Ok.mp (B250_9).mpr (R250_13 L FU (I (-1)) (N 0) m2 r2  D K (by omega))) (Ok.mp (B250_7).mpr Ok.leaf)))))
def F252 (x0 : Int32) (mi : mMi) (rs : mRs) : mRz := mifO (decide (x0 ≠ (I (-1)))) (some (.inl (some (mI (((N 100) * (x0 / (N 12))) + (x0 - x0 / (N 12) * (N 12))))), mi, rs)) (some (.inl (some (mI (I (-1)))), mi, rs))
set_option maxRecDepth 100000 in
theorem R252 (L : Nat) (x0 : Int32) (mi : mMi) (rs : mRs) : Does 252 [mI x0] L mi rs (F252 x0 mi rs) 1 :=
  Does.of fun D K hD => (Ok.mp (B252_0).mpr (Ok.if (Ok.mp (B252_9).mpr (Ok.mp (B252_21).mpr Ok.leaf)) (Ok.mp (B252_5).mpr (Ok.mp (B252_21).mpr Ok.leaf))))
def F251_17 : Nat → Int32 → Int32 → mMi → mRs → mRz
  | 0, _, _, _, _ => none
  | f + 1, x1, x2, mi, rs => mifO (decide ((N 96) ≤ x2)) (bI (F252 x1 mi rs) (fun v1 m1 r1 => some (.inl (some (mI v1)), m1, r1))) (bI (F201 x2 (N 0) mi rs) (fun v2 m2 r2 => mifO (decide (v2 = (I (-1)))) (F251_17 f x1 (x2 + (N 1)) m2 r2) (mifO (decide (x1 = (I (-1)))) (F251_17 f x2 (x2 + (N 1)) m2 r2) (bI (F218 x2 m2 r2) (fun v3 m3 r3 => bI (F218 x1 m3 r3) (fun v4 m4 r4 => mifO (decide (v4 ≤ v3)) (F251_17 f x1 (x2 + (N 1)) m4 r4) (F251_17 f x2 (x2 + (N 1)) m4 r4)))))))
set_option maxRecDepth 100000 in
theorem R251_17 (L : Nat) : ∀ f : Nat, (∀ (x1 : Int32) (x2 : Int32) (mi : mMi) (rs : mRs) (D : Nat) (K : mOut → mH → Prop), 5 ≤ D → Ok (F251_17 f x1 x2 mi rs) L K (WP (D + 1) 251 17 [some (mR 4 0 0), some (mI x1), some (mI x2)] [] (hp L mi rs) K)) := by
  intro f
  induction f with
  | zero => intro x1 x2 mi rs D K hD; exact Ok.no
  | succ f ih =>
    intro x1 x2 mi rs D K hD
    unfold F251_17
    exact (Ok.mp (B251_17).mpr (Ok.if (Ok.mp (B251_59).mpr (Ok.callI (R252 L x1 mi rs) (by omega) fun v1 m1 r1 => (Ok.mp (B251_63).mpr Ok.leaf))) (Ok.mp (B251_23).mpr (Ok.callI (R201 L x2 (N 0) mi rs) (by omega) fun v2 m2 r2 => (Ok.mp (B251_29).mpr (Ok.if (Ok.mp (B251_53).mpr (ih x1 (x2 + (N 1)) m2 r2  D K (by omega))) (Ok.mp (B251_33).mpr (Ok.if (Ok.mp (B251_51).mpr (Ok.mp (B251_53).mpr (ih x2 (x2 + (N 1)) m2 r2  D K (by omega)))) (Ok.mp (B251_38).mpr (Ok.callI (R218 L x2 m2 r2) (by omega) fun v3 m3 r3 => (Ok.mp (B251_43).mpr (Ok.callI (R218 L x1 m3 r3) (by omega) fun v4 m4 r4 => (Ok.mp (B251_48).mpr (Ok.if (Ok.mp (B251_53).mpr (ih x1 (x2 + (N 1)) m4 r4  D K (by omega))) (Ok.mp (B251_51).mpr (Ok.mp (B251_53).mpr (ih x2 (x2 + (N 1)) m4 r4  D K (by omega))))))))))))))))))
def F251 (mi : mMi) (rs : mRs) : mRz := bI (F230 mi rs) (fun v5 m5 r5 => mifO (decide (v5 = (N 0))) (bV (F213 m5 r5) (fun m6 r6 => F251_17 FU (I (-1)) (N 0) m6 r6)) (some (.inl (some (mI (N 0))), m5, r5)))
set_option maxRecDepth 100000 in
theorem R251 (L : Nat) (mi : mMi) (rs : mRs) : Does 251 [mR 4 0 0] L mi rs (F251  mi rs) 6 :=
  Does.of fun D K hD => (Ok.mp (B251_0).mpr (Ok.callI (R230 L mi rs) (by omega) fun v5 m5 r5 => (Ok.mp (B251_4).mpr (Ok.if (Ok.mp (B251_9).mpr (Ok.callV (R213 L m5 r5) (by omega) fun m6 r6 => (Ok.mp (B251_13).mpr (R251_17 L FU (I (-1)) (N 0) m6 r6  D K (by omega))))) (Ok.mp (B251_7).mpr Ok.leaf)))))
def F253_13 : Nat → Int32 → Int32 → mMi → mRs → mRz
  | 0, _, _, _, _ => none
  | f + 1, x1, x2, mi, rs => mifO (decide ((N 96) ≤ x2)) (bI (F252 x1 mi rs) (fun v1 m1 r1 => some (.inl (some (mI v1)), m1, r1))) (bI (F201 x2 (N 0) mi rs) (fun v2 m2 r2 => mifO (decide (v2 = (I (-1)))) (F253_13 f x1 (x2 + (N 1)) m2 r2) (mifO (decide (x1 = (I (-1)))) (F253_13 f x2 (x2 + (N 1)) m2 r2) (bI (F201 x2 (N 3) m2 r2) (fun v3 m3 r3 => bI (F201 x1 (N 3) m3 r3) (fun v4 m4 r4 => mifO (decide (v3 ≤ v4)) (F253_13 f x1 (x2 + (N 1)) m4 r4) (F253_13 f x2 (x2 + (N 1)) m4 r4)))))))
set_option maxRecDepth 100000 in
theorem R253_13 (L : Nat) : ∀ f : Nat, (∀ (x1 : Int32) (x2 : Int32) (mi : mMi) (rs : mRs) (D : Nat) (K : mOut → mH → Prop), 2 ≤ D → Ok (F253_13 f x1 x2 mi rs) L K (WP (D + 1) 253 13 [some (mR 4 0 0), some (mI x1), some (mI x2)] [] (hp L mi rs) K)) := by
  intro f
  induction f with
  | zero => intro x1 x2 mi rs D K hD; exact Ok.no
  | succ f ih =>
    intro x1 x2 mi rs D K hD
    unfold F253_13
    exact (Ok.mp (B253_13).mpr (Ok.if (Ok.mp (B253_57).mpr (Ok.callI (R252 L x1 mi rs) (by omega) fun v1 m1 r1 => (Ok.mp (B253_61).mpr Ok.leaf))) (Ok.mp (B253_19).mpr (Ok.callI (R201 L x2 (N 0) mi rs) (by omega) fun v2 m2 r2 => (Ok.mp (B253_25).mpr (Ok.if (Ok.mp (B253_51).mpr (ih x1 (x2 + (N 1)) m2 r2  D K (by omega))) (Ok.mp (B253_29).mpr (Ok.if (Ok.mp (B253_49).mpr (Ok.mp (B253_51).mpr (ih x2 (x2 + (N 1)) m2 r2  D K (by omega)))) (Ok.mp (B253_34).mpr (Ok.callI (R201 L x2 (N 3) m2 r2) (by omega) fun v3 m3 r3 => (Ok.mp (B253_40).mpr (Ok.callI (R201 L x1 (N 3) m3 r3) (by omega) fun v4 m4 r4 => (Ok.mp (B253_46).mpr (Ok.if (Ok.mp (B253_51).mpr (ih x1 (x2 + (N 1)) m4 r4  D K (by omega))) (Ok.mp (B253_49).mpr (Ok.mp (B253_51).mpr (ih x2 (x2 + (N 1)) m4 r4  D K (by omega))))))))))))))))))
def F253 (mi : mMi) (rs : mRs) : mRz := bI (F230 mi rs) (fun v5 m5 r5 => mifO (decide (v5 = (N 0))) (F253_13 FU (I (-1)) (N 0) m5 r5) (some (.inl (some (mI (N 0))), m5, r5)))
set_option maxRecDepth 100000 in
theorem R253 (L : Nat) (mi : mMi) (rs : mRs) : Does 253 [mR 4 0 0] L mi rs (F253  mi rs) 3 :=
  Does.of fun D K hD => (Ok.mp (B253_0).mpr (Ok.callI (R230 L mi rs) (by omega) fun v5 m5 r5 => (Ok.mp (B253_4).mpr (Ok.if (Ok.mp (B253_9).mpr (R253_13 L FU (I (-1)) (N 0) m5 r5  D K (by omega))) (Ok.mp (B253_7).mpr Ok.leaf)))))
def F255_2 : Nat → Int32 → mMi → mRs → mRz
  | 0, _, _, _ => none
  | f + 1, x1, mi, rs => mifO (decide ((N 918) ≤ x1)) (some (.inl none, mi, rs)) (mckO (mIn x1 918) (mckO (mIn x1 918) (F255_2 f (x1 + (N 1)) (mset mi 4 0 4 (mix x1) (mi 4 0 3 (mix x1))) rs)))
set_option maxRecDepth 100000 in
theorem R255_2 (L : Nat) : ∀ f : Nat, (∀ (x1 : Int32) (mi : mMi) (rs : mRs) (D : Nat) (K : mOut → mH → Prop), 0 ≤ D → Ok (F255_2 f x1 mi rs) L K (WP (D + 1) 255 2 [some (mR 4 0 0), some (mI x1)] [] (hp L mi rs) K)) := by
  intro f
  induction f with
  | zero => intro x1 mi rs D K hD; exact Ok.no
  | succ f ih =>
    intro x1 mi rs D K hD
    unfold F255_2
    exact (Ok.mp (B255_2).mpr (Ok.if (Ok.mp (B255_27).mpr Ok.leaf) (Ok.mp (B255_9).mpr (Ok.gd (Ok.gd (ih (x1 + (N 1)) (mset mi 4 0 4 (mix x1) (mi 4 0 3 (mix x1))) rs  D K (by omega)))))))
def F255 (mi : mMi) (rs : mRs) : mRz := F255_2 FU (N 0) mi rs
set_option maxRecDepth 100000 in
theorem R255 (L : Nat) (mi : mMi) (rs : mRs) : Does 255 [mR 4 0 0] L mi rs (F255  mi rs) 1 :=
  Does.of fun D K hD => (Ok.mp (B255_0).mpr (R255_2 L FU (N 0) mi rs  D K (by omega)))
def F256_2 : Nat → Int32 → mMi → mRs → mRz
  | 0, _, _, _ => none
  | f + 1, x1, mi, rs => mifO (decide ((N 918) ≤ x1)) (some (.inl none, mi, rs)) (mckO (mIn x1 918) (mckO (mIn x1 918) (F256_2 f (x1 + (N 1)) (mset mi 4 0 3 (mix x1) (mi 4 0 4 (mix x1))) rs)))
set_option maxRecDepth 100000 in
theorem R256_2 (L : Nat) : ∀ f : Nat, (∀ (x1 : Int32) (mi : mMi) (rs : mRs) (D : Nat) (K : mOut → mH → Prop), 0 ≤ D → Ok (F256_2 f x1 mi rs) L K (WP (D + 1) 256 2 [some (mR 4 0 0), some (mI x1)] [] (hp L mi rs) K)) := by
  intro f
  induction f with
  | zero => intro x1 mi rs D K hD; exact Ok.no
  | succ f ih =>
    intro x1 mi rs D K hD
    unfold F256_2
    exact (Ok.mp (B256_2).mpr (Ok.if (Ok.mp (B256_27).mpr Ok.leaf) (Ok.mp (B256_9).mpr (Ok.gd (Ok.gd (ih (x1 + (N 1)) (mset mi 4 0 3 (mix x1) (mi 4 0 4 (mix x1))) rs  D K (by omega)))))))
def F256 (mi : mMi) (rs : mRs) : mRz := F256_2 FU (N 0) mi rs
set_option maxRecDepth 100000 in
theorem R256 (L : Nat) (mi : mMi) (rs : mRs) : Does 256 [mR 4 0 0] L mi rs (F256  mi rs) 1 :=
  Does.of fun D K hD => (Ok.mp (B256_0).mpr (R256_2 L FU (N 0) mi rs  D K (by omega)))
def F254 (x1 : Int32) (x2 : Int32) (mi : mMi) (rs : mRs) : mRz := bI (F241 x1 x2 mi rs) (fun v1 m1 r1 => mifO (decide (v1 ≠ (N 0))) (some (.inl (some (mI (N 0))), m1, r1)) (bI (F198 x1 x2 m1 r1) (fun v2 m2 r2 => mifO (decide (v2 ≠ (N 0))) (bV (F255 m2 r2) (fun m3 r3 => bI (F200 x1 x2 m3 r3) (fun v4 m4 r4 => bV (F222 v4 (N 0) (N 0) (I (-1)) m4 r4) (fun m5 r5 => bV (F256 m5 r5) (fun m6 r6 => some (.inl (some (mI ((m5 4 0 3 1) - (m3 4 0 3 1)))), m6, r6)))))) (some (.inl (some (mI (N 0))), m2, r2)))))
set_option maxRecDepth 100000 in
theorem R254 (L : Nat) (x1 : Int32) (x2 : Int32) (mi : mMi) (rs : mRs) : Does 254 [mR 4 0 0, mI x1, mI x2] L mi rs (F254 x1 x2 mi rs) 7 :=
  Does.of fun D K hD => (Ok.mp (B254_0).mpr (Ok.callI (R241 L x1 x2 mi rs) (by omega) fun v1 m1 r1 => (Ok.mp (B254_6).mpr (Ok.if (Ok.mp (B254_18).mpr Ok.leaf) (Ok.mp (B254_9).mpr (Ok.callI (R198 L x1 x2 m1 r1) (by omega) fun v2 m2 r2 => (Ok.mp (B254_15).mpr (Ok.if (Ok.mp (B254_20).mpr (Ok.callV (R255 L m2 r2) (by omega) fun m3 r3 => (Ok.mp (B254_24).mpr (Ok.callI (R200 L x1 x2 m3 r3) (by omega) fun v4 m4 r4 => (Ok.mp (B254_37).mpr (Ok.callV (R222 L v4 (N 0) (N 0) (I (-1)) m4 r4) (by omega) fun m5 r5 => (Ok.mp (B254_43).mpr (Ok.callV (R256 L m5 r5) (by omega) fun m6 r6 => (Ok.mp (B254_57).mpr Ok.leaf))))))))) (Ok.mp (B254_18).mpr Ok.leaf)))))))))
def F258_4 : Nat → Int32 → Int32 → mMi → mRs → mRz
  | 0, _, _, _, _ => none
  | f + 1, x1, x2, mi, rs => mifO (decide ((mi 4 0 0 8) ≤ x2)) (some (.inl (some (mI x1)), mi, rs)) (bI (F204 x2 (N 1) mi rs) (fun v1 m1 r1 => mifO (decide (v1 < (N 2))) (F258_4 f (x1 + (N 0)) (x2 + (N 1)) m1 r1) (mckO (mIn x2 40) (F258_4 f (x1 + (m1 4 0 2 (mix x2))) (x2 + (N 1)) m1 r1))))
set_option maxRecDepth 100000 in
theorem R258_4 (L : Nat) : ∀ f : Nat, (∀ (x1 : Int32) (x2 : Int32) (mi : mMi) (rs : mRs) (D : Nat) (K : mOut → mH → Prop), 1 ≤ D → Ok (F258_4 f x1 x2 mi rs) L K (WP (D + 1) 258 4 [some (mR 4 0 0), some (mI x1), some (mI x2)] [] (hp L mi rs) K)) := by
  intro f
  induction f with
  | zero => intro x1 x2 mi rs D K hD; exact Ok.no
  | succ f ih =>
    intro x1 x2 mi rs D K hD
    unfold F258_4
    exact (Ok.mp (B258_4).mpr (Ok.if (Ok.mp (B258_41).mpr Ok.leaf) (Ok.mp (B258_12).mpr (Ok.callI (R204 L x2 (N 1) mi rs) (by omega) fun v1 m1 r1 => (Ok.mp (B258_19).mpr (Ok.if (Ok.mp (B258_32).mpr (Ok.mp (B258_33).mpr (ih (x1 + (N 0)) (x2 + (N 1)) m1 r1  D K (by omega)))) (Ok.mp (B258_23).mpr (Ok.gd (Ok.mp (B258_33).mpr (ih (x1 + (m1 4 0 2 (mix x2))) (x2 + (N 1)) m1 r1  D K (by omega)))))))))))
def F258 (mi : mMi) (rs : mRs) : mRz := F258_4 FU (N 0) (N 0) mi rs
set_option maxRecDepth 100000 in
theorem R258 (L : Nat) (mi : mMi) (rs : mRs) : Does 258 [mR 4 0 0] L mi rs (F258  mi rs) 2 :=
  Does.of fun D K hD => (Ok.mp (B258_0).mpr (R258_4 L FU (N 0) (N 0) mi rs  D K (by omega)))
def F257 (x1 : Int32) (x2 : Int32) (mi : mMi) (rs : mRs) : mRz := bI (F241 x1 x2 mi rs) (fun v1 m1 r1 => mifO (decide (v1 ≠ (N 0))) (some (.inl (some (mI (N 0))), m1, r1)) (bI (F198 x1 x2 m1 r1) (fun v2 m2 r2 => mifO (decide (v2 ≠ (N 0))) (bI (F200 x1 x2 m2 r2) (fun v3 m3 r3 => bI (F216 v3 m3 r3) (fun v4 m4 r4 => bI (F258 m4 r4) (fun v5 m5 r5 => bV (F255 m5 r5) (fun m6 r6 => bI (F200 x1 x2 m6 r6) (fun v7 m7 r7 => bV (F222 v7 (N 0) (N 0) (I (-1)) m7 r7) (fun m8 r8 => bI (F258 m8 r8) (fun v9 m9 r9 => bV (F256 m9 r9) (fun m10 r10 => some (.inl (some (mI ((v5 - v9) - v4))), m10, r10)))))))))) (some (.inl (some (mI (N 0))), m2, r2)))))
set_option maxRecDepth 100000 in
theorem R257 (L : Nat) (x1 : Int32) (x2 : Int32) (mi : mMi) (rs : mRs) : Does 257 [mR 4 0 0, mI x1, mI x2] L mi rs (F257 x1 x2 mi rs) 7 :=
  Does.of fun D K hD => (Ok.mp (B257_0).mpr (Ok.callI (R241 L x1 x2 mi rs) (by omega) fun v1 m1 r1 => (Ok.mp (B257_6).mpr (Ok.if (Ok.mp (B257_18).mpr Ok.leaf) (Ok.mp (B257_9).mpr (Ok.callI (R198 L x1 x2 m1 r1) (by omega) fun v2 m2 r2 => (Ok.mp (B257_15).mpr (Ok.if (Ok.mp (B257_20).mpr (Ok.callI (R200 L x1 x2 m2 r2) (by omega) fun v3 m3 r3 => (Ok.mp (B257_26).mpr (Ok.callI (R216 L v3 m3 r3) (by omega) fun v4 m4 r4 => (Ok.mp (B257_29).mpr (Ok.callI (R258 L m4 r4) (by omega) fun v5 m5 r5 => (Ok.mp (B257_34).mpr (Ok.callV (R255 L m5 r5) (by omega) fun m6 r6 => (Ok.mp (B257_40).mpr (Ok.callI (R200 L x1 x2 m6 r6) (by omega) fun v7 m7 r7 => (Ok.mp (B257_46).mpr (Ok.callV (R222 L v7 (N 0) (N 0) (I (-1)) m7 r7) (by omega) fun m8 r8 => (Ok.mp (B257_52).mpr (Ok.callI (R258 L m8 r8) (by omega) fun v9 m9 r9 => (Ok.mp (B257_56).mpr (Ok.callV (R256 L m9 r9) (by omega) fun m10 r10 => (Ok.mp (B257_62).mpr Ok.leaf))))))))))))))))) (Ok.mp (B257_18).mpr Ok.leaf)))))))))
def F259 (x1 : Int32) (mi : mMi) (rs : mRs) : mRz := bI (F241 (N 0) x1 mi rs) (fun v1 m1 r1 => mifO (decide (v1 ≠ (N 0))) (some (.inl (some (mI (N 0))), m1, r1)) (bI (F198 (N 0) x1 m1 r1) (fun v2 m2 r2 => mifO (decide (v2 ≠ (N 0))) (bV (F213 m2 r2) (fun m3 r3 => mckO (mIn x1 96) (bI (F216 x1 m3 r3) (fun v4 m4 r4 => some (.inl (some (mI ((m3 4 0 12 (mix x1)) + v4))), m4, r4))))) (some (.inl (some (mI (N 0))), m2, r2)))))
set_option maxRecDepth 100000 in
theorem R259 (L : Nat) (x1 : Int32) (mi : mMi) (rs : mRs) : Does 259 [mR 4 0 0, mI x1] L mi rs (F259 x1 mi rs) 6 :=
  Does.of fun D K hD => (Ok.mp (B259_0).mpr (Ok.callI (R241 L (N 0) x1 mi rs) (by omega) fun v1 m1 r1 => (Ok.mp (B259_6).mpr (Ok.if (Ok.mp (B259_18).mpr Ok.leaf) (Ok.mp (B259_9).mpr (Ok.callI (R198 L (N 0) x1 m1 r1) (by omega) fun v2 m2 r2 => (Ok.mp (B259_15).mpr (Ok.if (Ok.mp (B259_20).mpr (Ok.callV (R213 L m2 r2) (by omega) fun m3 r3 => (Ok.mp (B259_24).mpr (Ok.gd (Ok.callI (R216 L x1 m3 r3) (by omega) fun v4 m4 r4 => (Ok.mp (B259_35).mpr Ok.leaf)))))) (Ok.mp (B259_18).mpr Ok.leaf)))))))))
def F260 (mi : mMi) (rs : mRs) : mRz := bI (F230 mi rs) (fun v1 m1 r1 => mifO (decide (v1 = (N 0))) (bI (F258 m1 r1) (fun v2 m2 r2 => some (.inl (some (mI v2)), m2, r2))) (some (.inl (some (mI (N 0))), m1, r1)))
set_option maxRecDepth 100000 in
theorem R260 (L : Nat) (mi : mMi) (rs : mRs) : Does 260 [mR 4 0 0] L mi rs (F260  mi rs) 3 :=
  Does.of fun D K hD => (Ok.mp (B260_0).mpr (Ok.callI (R230 L mi rs) (by omega) fun v1 m1 r1 => (Ok.mp (B260_4).mpr (Ok.if (Ok.mp (B260_11).mpr (Ok.callI (R258 L m1 r1) (by omega) fun v2 m2 r2 => (Ok.mp (B260_15).mpr Ok.leaf))) (Ok.mp (B260_7).mpr (Ok.mp (B260_15).mpr Ok.leaf))))))
def F261_24 : Nat → Int32 → Int32 → mMi → mRs → mRz
  | 0, _, _, _, _ => none
  | f + 1, x1, x2, mi, rs => mifO (decide ((N 96) ≤ x2)) (bI (F233 mi rs) (fun v1 m1 r1 => mckO (!(isNaN64 (FP.ddiv (FP.i2d x1) (FP.i2d v1)))) (some (.inl (some (mD (FP.ddiv (FP.i2d x1) (FP.i2d v1)))), m1, r1)))) (bI (F201 x2 (N 0) mi rs) (fun v2 m2 r2 => mifO (decide (v2 = (I (-1)))) (F261_24 f (x1 + (N 0)) (x2 + (N 1)) m2 r2) (bI (F218 x2 m2 r2) (fun v3 m3 r3 => F261_24 f (x1 + v3) (x2 + (N 1)) m3 r3))))
set_option maxRecDepth 100000 in
theorem R261_24 (L : Nat) : ∀ f : Nat, (∀ (x1 : Int32) (x2 : Int32) (mi : mMi) (rs : mRs) (D : Nat) (K : mOut → mH → Prop), 5 ≤ D → Ok (F261_24 f x1 x2 mi rs) L K (WP (D + 1) 261 24 [some (mR 4 0 0), some (mI x1), some (mI x2)] [] (hp L mi rs) K)) := by
  intro f
  induction f with
  | zero => intro x1 x2 mi rs D K hD; exact Ok.no
  | succ f ih =>
    intro x1 x2 mi rs D K hD
    unfold F261_24
    exact (Ok.mp (B261_24).mpr (Ok.if (Ok.mp (B261_58).mpr (Ok.callI (R233 L mi rs) (by omega) fun v1 m1 r1 => (Ok.mp (B261_64).mpr (Ok.gd Ok.leaf)))) (Ok.mp (B261_30).mpr (Ok.callI (R201 L x2 (N 0) mi rs) (by omega) fun v2 m2 r2 => (Ok.mp (B261_37).mpr (Ok.if (Ok.mp (B261_49).mpr (Ok.mp (B261_50).mpr (ih (x1 + (N 0)) (x2 + (N 1)) m2 r2  D K (by omega)))) (Ok.mp (B261_41).mpr (Ok.callI (R218 L x2 m2 r2) (by omega) fun v3 m3 r3 => (Ok.mp (B261_46).mpr (Ok.mp (B261_50).mpr (ih (x1 + v3) (x2 + (N 1)) m3 r3  D K (by omega))))))))))))
def F261 (mi : mMi) (rs : mRs) : mRz := bI (F230 mi rs) (fun v4 m4 r4 => mifO (decide (v4 ≠ (N 0))) (some (.inl (some (mD 0)), m4, r4)) (bI (F233 m4 r4) (fun v5 m5 r5 => mifO (decide (v5 ≠ (N 0))) (bV (F213 m5 r5) (fun m6 r6 => F261_24 FU (N 0) (N 0) m6 r6)) (some (.inl (some (mD 0)), m5, r5)))))
set_option maxRecDepth 100000 in
theorem R261 (L : Nat) (mi : mMi) (rs : mRs) : Does 261 [mR 4 0 0] L mi rs (F261  mi rs) 6 :=
  Does.of fun D K hD => (Ok.mp (B261_0).mpr (Ok.callI (R230 L mi rs) (by omega) fun v4 m4 r4 => (Ok.mp (B261_4).mpr (Ok.if (Ok.mp (B261_14).mpr Ok.leaf) (Ok.mp (B261_7).mpr (Ok.callI (R233 L m4 r4) (by omega) fun v5 m5 r5 => (Ok.mp (B261_11).mpr (Ok.if (Ok.mp (B261_16).mpr (Ok.callV (R213 L m5 r5) (by omega) fun m6 r6 => (Ok.mp (B261_20).mpr (R261_24 L FU (N 0) (N 0) m6 r6  D K (by omega))))) (Ok.mp (B261_14).mpr Ok.leaf)))))))))
def F262 (mi : mMi) (rs : mRs) : mRz := bI (F230 mi rs) (fun v1 m1 r1 => mifO (decide (v1 = (N 0))) (bI (F233 m1 r1) (fun v2 m2 r2 => bI (F235 m2 r2) (fun v3 m3 r3 => mckO (!(isNaN32 (FP.fdiv (FP.i2f v2) (FP.i2f v3)))) (some (.inl (some (mF (FP.fdiv (FP.i2f v2) (FP.i2f v3)))), m3, r3))))) (some (.inl (some (mF 0)), m1, r1)))
set_option maxRecDepth 100000 in
theorem R262 (L : Nat) (mi : mMi) (rs : mRs) : Does 262 [mR 4 0 0] L mi rs (F262  mi rs) 3 :=
  Does.of fun D K hD => (Ok.mp (B262_0).mpr (Ok.callI (R230 L mi rs) (by omega) fun v1 m1 r1 => (Ok.mp (B262_4).mpr (Ok.if (Ok.mp (B262_11).mpr (Ok.callI (R233 L m1 r1) (by omega) fun v2 m2 r2 => (Ok.mp (B262_15).mpr (Ok.callI (R235 L m2 r2) (by omega) fun v3 m3 r3 => (Ok.mp (B262_20).mpr (Ok.gd (Ok.mp (B262_22).mpr Ok.leaf))))))) (Ok.mp (B262_7).mpr (Ok.mp (B262_22).mpr Ok.leaf))))))
def F264 (x0 : Int32) (mi : mMi) (rs : mRs) : mRz := bI (F177 x0 (N 20) (N 70) mi rs) (fun v1 m1 r1 => mckO (mZ v1 || false) (some (.inl (some (mI v1)), m1, r1)))
set_option maxRecDepth 100000 in
theorem R264 (L : Nat) (x0 : Int32) (mi : mMi) (rs : mRs) : Does 264 [mI x0] L mi rs (F264 x0 mi rs) 2 :=
  Does.of fun D K hD => (Ok.mp (B264_0).mpr (Ok.callI (R177 L x0 (N 20) (N 70) mi rs) (by omega) fun v1 m1 r1 => (Ok.mp (B264_8).mpr (Ok.gd Ok.leaf))))
def F263 (x1 : Int32) (x2 : Int32) (x3 : Int32) (mi : mMi) (rs : mRs) : mRz := bI (F238 x1 mi rs) (fun v1 m1 r1 => mifO (decide (v1 ≠ (N 0))) (some (.inl (some (mI (N 0))), m1, r1)) (bI (F239 x2 m1 r1) (fun v2 m2 r2 => mifO (decide (v2 ≠ (N 0))) (bI (F178 (N 0) (N 2) m2 r2) (fun v3 m3 r3 => mifO (decide (v3 ≠ (N 0))) (some (.inl (some (mI (N 0))), m3, r3)) (mifO (decide (x1 = x2)) (bI (F178 (N 1) (N 3) m3 r3) (fun v4 m4 r4 => mifO (decide (v4 = (N 0))) (bI (F204 x1 (N 0) m4 r4) (fun v5 m5 r5 => bI (F204 x2 (N 0) m5 r5) (fun v6 m6 r6 => bI (F221 (v5 + v6) x3 m6 r6) (fun v7 m7 r7 => some (.inl (some (mI v7)), m7, r7))))) (some (.inl (some (mI (N 0))), m4, r4)))) (bI (F264 x3 m3 r3) (fun v8 m8 r8 => mifO (decide (v8 ≠ (N 0))) (bI (F178 (N 0) (N 3) m8 r8) (fun v9 m9 r9 => mifO (decide (v9 = (N 0))) (bI (F204 x1 (N 0) m9 r9) (fun v10 m10 r10 => bI (F204 x2 (N 0) m10 r10) (fun v11 m11 r11 => bI (F221 (v10 + v11) x3 m11 r11) (fun v12 m12 r12 => some (.inl (some (mI v12)), m12, r12))))) (some (.inl (some (mI (N 0))), m9, r9)))) (bI (F178 (N 1) (N 3) m8 r8) (fun v13 m13 r13 => mifO (decide (v13 = (N 0))) (bI (F204 x1 (N 0) m13 r13) (fun v14 m14 r14 => bI (F204 x2 (N 0) m14 r14) (fun v15 m15 r15 => bI (F221 (v14 + v15) x3 m15 r15) (fun v16 m16 r16 => some (.inl (some (mI v16)), m16, r16))))) (some (.inl (some (mI (N 0))), m13, r13))))))))) (bI (F178 (N 1) (N 2) m2 r2) (fun v17 m17 r17 => mifO (decide (v17 ≠ (N 0))) (some (.inl (some (mI (N 0))), m17, r17)) (mifO (decide (x1 = x2)) (bI (F178 (N 1) (N 3) m17 r17) (fun v18 m18 r18 => mifO (decide (v18 = (N 0))) (bI (F204 x1 (N 0) m18 r18) (fun v19 m19 r19 => bI (F204 x2 (N 0) m19 r19) (fun v20 m20 r20 => bI (F221 (v19 + v20) x3 m20 r20) (fun v21 m21 r21 => some (.inl (some (mI v21)), m21, r21))))) (some (.inl (some (mI (N 0))), m18, r18)))) (bI (F264 x3 m17 r17) (fun v22 m22 r22 => mifO (decide (v22 ≠ (N 0))) (bI (F178 (N 0) (N 3) m22 r22) (fun v23 m23 r23 => mifO (decide (v23 = (N 0))) (bI (F204 x1 (N 0) m23 r23) (fun v24 m24 r24 => bI (F204 x2 (N 0) m24 r24) (fun v25 m25 r25 => bI (F221 (v24 + v25) x3 m25 r25) (fun v26 m26 r26 => some (.inl (some (mI v26)), m26, r26))))) (some (.inl (some (mI (N 0))), m23, r23)))) (bI (F178 (N 1) (N 3) m22 r22) (fun v27 m27 r27 => mifO (decide (v27 = (N 0))) (bI (F204 x1 (N 0) m27 r27) (fun v28 m28 r28 => bI (F204 x2 (N 0) m28 r28) (fun v29 m29 r29 => bI (F221 (v28 + v29) x3 m29 r29) (fun v30 m30 r30 => some (.inl (some (mI v30)), m30, r30))))) (some (.inl (some (mI (N 0))), m27, r27))))))))))))
set_option maxRecDepth 100000 in
theorem R263 (L : Nat) (x1 : Int32) (x2 : Int32) (x3 : Int32) (mi : mMi) (rs : mRs) : Does 263 [mR 4 0 0, mI x1, mI x2, mI x3] L mi rs (F263 x1 x2 x3 mi rs) 4 :=
  Does.of fun D K hD => (Ok.mp (B263_0).mpr (Ok.callI (R238 L x1 mi rs) (by omega) fun v1 m1 r1 => (Ok.mp (B263_5).mpr (Ok.if (Ok.mp (B263_54).mpr Ok.leaf) (Ok.mp (B263_8).mpr (Ok.callI (R239 L x2 m1 r1) (by omega) fun v2 m2 r2 => (Ok.mp (B263_14).mpr (Ok.if (Ok.mp (B263_21).mpr (Ok.mp (B263_22).mpr (Ok.callI (R178 L (N 0) (N 2) m2 r2) (by omega) fun v3 m3 r3 => (Ok.mp (B263_26).mpr (Ok.if (Ok.mp (B263_54).mpr Ok.leaf) (Ok.mp (B263_29).mpr (Ok.if (Ok.mp (B263_42).mpr (Ok.mp (B263_47).mpr (Ok.callI (R178 L (N 1) (N 3) m3 r3) (by omega) fun v4 m4 r4 => (Ok.mp (B263_51).mpr (Ok.if (Ok.mp (B263_56).mpr (Ok.callI (R204 L x1 (N 0) m4 r4) (by omega) fun v5 m5 r5 => (Ok.mp (B263_62).mpr (Ok.callI (R204 L x2 (N 0) m5 r5) (by omega) fun v6 m6 r6 => (Ok.mp (B263_68).mpr (Ok.callI (R221 L (v5 + v6) x3 m6 r6) (by omega) fun v7 m7 r7 => (Ok.mp (B263_73).mpr Ok.leaf))))))) (Ok.mp (B263_54).mpr Ok.leaf)))))) (Ok.mp (B263_35).mpr (Ok.callI (R264 L x3 m3 r3) (by omega) fun v8 m8 r8 => (Ok.mp (B263_39).mpr (Ok.if (Ok.mp (B263_46).mpr (Ok.mp (B263_47).mpr (Ok.callI (R178 L (N 0) (N 3) m8 r8) (by omega) fun v9 m9 r9 => (Ok.mp (B263_51).mpr (Ok.if (Ok.mp (B263_56).mpr (Ok.callI (R204 L x1 (N 0) m9 r9) (by omega) fun v10 m10 r10 => (Ok.mp (B263_62).mpr (Ok.callI (R204 L x2 (N 0) m10 r10) (by omega) fun v11 m11 r11 => (Ok.mp (B263_68).mpr (Ok.callI (R221 L (v10 + v11) x3 m11 r11) (by omega) fun v12 m12 r12 => (Ok.mp (B263_73).mpr Ok.leaf))))))) (Ok.mp (B263_54).mpr Ok.leaf)))))) (Ok.mp (B263_42).mpr (Ok.mp (B263_47).mpr (Ok.callI (R178 L (N 1) (N 3) m8 r8) (by omega) fun v13 m13 r13 => (Ok.mp (B263_51).mpr (Ok.if (Ok.mp (B263_56).mpr (Ok.callI (R204 L x1 (N 0) m13 r13) (by omega) fun v14 m14 r14 => (Ok.mp (B263_62).mpr (Ok.callI (R204 L x2 (N 0) m14 r14) (by omega) fun v15 m15 r15 => (Ok.mp (B263_68).mpr (Ok.callI (R221 L (v14 + v15) x3 m15 r15) (by omega) fun v16 m16 r16 => (Ok.mp (B263_73).mpr Ok.leaf))))))) (Ok.mp (B263_54).mpr Ok.leaf))))))))))))))))) (Ok.mp (B263_17).mpr (Ok.mp (B263_22).mpr (Ok.callI (R178 L (N 1) (N 2) m2 r2) (by omega) fun v17 m17 r17 => (Ok.mp (B263_26).mpr (Ok.if (Ok.mp (B263_54).mpr Ok.leaf) (Ok.mp (B263_29).mpr (Ok.if (Ok.mp (B263_42).mpr (Ok.mp (B263_47).mpr (Ok.callI (R178 L (N 1) (N 3) m17 r17) (by omega) fun v18 m18 r18 => (Ok.mp (B263_51).mpr (Ok.if (Ok.mp (B263_56).mpr (Ok.callI (R204 L x1 (N 0) m18 r18) (by omega) fun v19 m19 r19 => (Ok.mp (B263_62).mpr (Ok.callI (R204 L x2 (N 0) m19 r19) (by omega) fun v20 m20 r20 => (Ok.mp (B263_68).mpr (Ok.callI (R221 L (v19 + v20) x3 m20 r20) (by omega) fun v21 m21 r21 => (Ok.mp (B263_73).mpr Ok.leaf))))))) (Ok.mp (B263_54).mpr Ok.leaf)))))) (Ok.mp (B263_35).mpr (Ok.callI (R264 L x3 m17 r17) (by omega) fun v22 m22 r22 => (Ok.mp (B263_39).mpr (Ok.if (Ok.mp (B263_46).mpr (Ok.mp (B263_47).mpr (Ok.callI (R178 L (N 0) (N 3) m22 r22) (by omega) fun v23 m23 r23 => (Ok.mp (B263_51).mpr (Ok.if (Ok.mp (B263_56).mpr (Ok.callI (R204 L x1 (N 0) m23 r23) (by omega) fun v24 m24 r24 => (Ok.mp (B263_62).mpr (Ok.callI (R204 L x2 (N 0) m24 r24) (by omega) fun v25 m25 r25 => (Ok.mp (B263_68).mpr (Ok.callI (R221 L (v24 + v25) x3 m25 r25) (by omega) fun v26 m26 r26 => (Ok.mp (B263_73).mpr Ok.leaf))))))) (Ok.mp (B263_54).mpr Ok.leaf)))))) (Ok.mp (B263_42).mpr (Ok.mp (B263_47).mpr (Ok.callI (R178 L (N 1) (N 3) m22 r22) (by omega) fun v27 m27 r27 => (Ok.mp (B263_51).mpr (Ok.if (Ok.mp (B263_56).mpr (Ok.callI (R204 L x1 (N 0) m27 r27) (by omega) fun v28 m28 r28 => (Ok.mp (B263_62).mpr (Ok.callI (R204 L x2 (N 0) m28 r28) (by omega) fun v29 m29 r29 => (Ok.mp (B263_68).mpr (Ok.callI (R221 L (v28 + v29) x3 m29 r29) (by omega) fun v30 m30 r30 => (Ok.mp (B263_73).mpr Ok.leaf))))))) (Ok.mp (B263_54).mpr Ok.leaf)))))))))))))))))))))))))
def F265_15 : Nat → Nat → Int32 → Int32 → Int32 → Int32 → mMi → mRs → mRz
  | 0, _, _, _, _, _, _, _ => none
  | f + 1, t, x1, x2, x3, x4, mi, rs => match t with
    | 15 => mifO (decide ((mi 4 0 0 8) ≤ x3)) (some (.inl (some (mI x1)), mi, rs)) (F265_15 f 28 x1 x2 x3 (x3 + (N 1)) mi rs)
    | 28 => mifO (decide ((mi 4 0 0 8) ≤ x4)) (F265_15 f 15 x1 x2 (x3 + (N 1)) (N 0) mi rs) (bI (F204 x3 (N 0) mi rs) (fun v1 m1 r1 => bI (F204 x4 (N 0) m1 r1) (fun v2 m2 r2 => bI (F204 x3 (N 1) m2 r2) (fun v3 m3 r3 => mifO (decide (v3 ≠ (N 0))) (F265_15 f 28 x1 x2 x3 (x4 + (N 1)) m3 r3) (bI (F204 x4 (N 1) m3 r3) (fun v4 m4 r4 => mifO (decide (v4 ≠ (N 0))) (F265_15 f 28 x1 x2 x3 (x4 + (N 1)) m4 r4) (mifO (decide ((v1 + v2) ≤ x2)) (F265_15 f 28 x1 x2 x3 (x4 + (N 1)) m4 r4) (F265_15 f 28 (((N 100) * x3) + x4) (v1 + v2) x3 (x4 + (N 1)) m4 r4))))))))
    | _ => none
set_option maxRecDepth 100000 in
theorem R265_15 (L : Nat) : ∀ f : Nat, (∀ (x1 : Int32) (x2 : Int32) (x3 : Int32) (mi : mMi) (rs : mRs) (l4 : Option mV) (_ : mC2 l4 = true) (l5 : Option mV) (_ : mC2 l5 = true) (D : Nat) (K : mOut → mH → Prop), 2 ≤ D → Ok (F265_15 f 15 x1 x2 x3 (N 0) mi rs) L K (WP (D + 1) 265 15 [some (mR 4 0 0), some (mI x1), some (mI x2), some (mI x3), l4, l5] [] (hp L mi rs) K)) ∧ (∀ (x1 : Int32) (x2 : Int32) (x3 : Int32) (x4 : Int32) (mi : mMi) (rs : mRs) (l5 : Option mV) (_ : mC2 l5 = true) (D : Nat) (K : mOut → mH → Prop), 2 ≤ D → Ok (F265_15 f 28 x1 x2 x3 x4 mi rs) L K (WP (D + 1) 265 28 [some (mR 4 0 0), some (mI x1), some (mI x2), some (mI x3), some (mI x4), l5] [] (hp L mi rs) K)) := by
  intro f
  induction f with
  | zero => exact ⟨(by intro x1 x2 x3 mi rs l4 hl4 l5 hl5 D K hD; exact Ok.no), (by intro x1 x2 x3 x4 mi rs l5 hl5 D K hD; exact Ok.no)⟩
  | succ f ih =>
    refine ⟨?_, ?_⟩
    · intro x1 x2 x3 mi rs l4 hl4 l5 hl5 D K hD
      unfold F265_15
      exact (Ok.mp (B265_15).mpr (Ok.if (Ok.mp (B265_101).mpr Ok.leaf) (Ok.mp (B265_23).mpr (ih.2 x1 x2 x3 (x3 + (N 1)) mi rs l5 hl5 D K (by omega)))))
    · intro x1 x2 x3 x4 mi rs l5 hl5 D K hD
      unfold F265_15
      exact (Ok.mp (B265_28).mpr (Ok.if (Ok.mp (B265_95).mpr (ih.1 x1 x2 (x3 + (N 1)) mi rs (some (mI x4)) rfl l5 hl5 D K (by omega))) (Ok.mp (B265_37).mpr (Ok.callI (R204 L x3 (N 0) mi rs) (by omega) fun v1 m1 r1 => (Ok.mp (B265_43).mpr (Ok.callI (R204 L x4 (N 0) m1 r1) (by omega) fun v2 m2 r2 => (Ok.mp (B265_50).mpr (Ok.callI (R204 L x3 (N 1) m2 r2) (by omega) fun v3 m3 r3 => (Ok.mp (B265_59).mpr (Ok.if (Ok.mp (B265_89).mpr (ih.2 x1 x2 x3 (x4 + (N 1)) m3 r3 (some (mI (v1 + v2))) rfl D K (by omega))) (Ok.mp (B265_62).mpr (Ok.callI (R204 L x4 (N 1) m3 r3) (by omega) fun v4 m4 r4 => (Ok.mp (B265_69).mpr (Ok.if (Ok.mp (B265_89).mpr (ih.2 x1 x2 x3 (x4 + (N 1)) m4 r4 (some (mI (v1 + v2))) rfl D K (by omega))) (Ok.mp (B265_72).mpr (Ok.if (Ok.mp (B265_89).mpr (ih.2 x1 x2 x3 (x4 + (N 1)) m4 r4 (some (mI (v1 + v2))) rfl D K (by omega))) (Ok.mp (B265_78).mpr (Ok.mp (B265_89).mpr (ih.2 (((N 100) * x3) + x4) (v1 + v2) x3 (x4 + (N 1)) m4 r4 (some (mI (v1 + v2))) rfl D K (by omega))))))))))))))))))))
def F265 (mi : mMi) (rs : mRs) : mRz := bI (F230 mi rs) (fun v5 m5 r5 => mifO (decide (v5 = (N 0))) (F265_15 FU 15 (I (-1)) (N 0) (N 0) (N 0) m5 r5) (some (.inl (some (mI (N 0))), m5, r5)))
set_option maxRecDepth 100000 in
theorem R265 (L : Nat) (mi : mMi) (rs : mRs) : Does 265 [mR 4 0 0] L mi rs (F265  mi rs) 3 :=
  Does.of fun D K hD => (Ok.mp (B265_0).mpr (Ok.callI (R230 L mi rs) (by omega) fun v5 m5 r5 => (Ok.mp (B265_4).mpr (Ok.if (Ok.mp (B265_9).mpr ((R265_15 L FU).1 (I (-1)) (N 0) (N 0) m5 r5 none rfl none rfl D K (by omega))) (Ok.mp (B265_7).mpr Ok.leaf)))))
def F267 (x1 : Int32) (x2 : Int32) (mi : mMi) (rs : mRs) : mRz := bI (F177 x1 (N 1) (N 99) mi rs) (fun v1 m1 r1 => mifO (decide (v1 = (N 0))) (mckO (mZ (N 0) || false) (some (.inl (some (mI (N 0))), m1, r1))) (bI (F177 x2 (N 0) ((m1 4 0 0 2) - (N 1)) m1 r1) (fun v2 m2 r2 => mifO (decide (v2 = (N 0))) (mckO (mZ (N 0) || false) (some (.inl (some (mI (N 0))), m2, r2))) (mckO (mZ (N 1) || false) (some (.inl (some (mI (N 1))), m2, r2))))))
set_option maxRecDepth 100000 in
theorem R267 (L : Nat) (x1 : Int32) (x2 : Int32) (mi : mMi) (rs : mRs) : Does 267 [mR 4 0 0, mI x1, mI x2] L mi rs (F267 x1 x2 mi rs) 2 :=
  Does.of fun D K hD => (Ok.mp (B267_0).mpr (Ok.callI (R177 L x1 (N 1) (N 99) mi rs) (by omega) fun v1 m1 r1 => (Ok.mp (B267_7).mpr (Ok.if (Ok.mp (B267_28).mpr (Ok.mp (B267_29).mpr (Ok.gd Ok.leaf))) (Ok.mp (B267_10).mpr (Ok.callI (R177 L x2 (N 0) ((m1 4 0 0 2) - (N 1)) m1 r1) (by omega) fun v2 m2 r2 => (Ok.mp (B267_21).mpr (Ok.if (Ok.mp (B267_28).mpr (Ok.mp (B267_29).mpr (Ok.gd Ok.leaf))) (Ok.mp (B267_24).mpr (Ok.mp (B267_29).mpr (Ok.gd Ok.leaf)))))))))))
def F270 (x1 : Int32) (x2 : Int32) (x3 : Int32) (x4 : Int32) (mi : mMi) (rs : mRs) : mRz := bI (F200 x1 x2 mi rs) (fun v1 m1 r1 => mifO (decide (((x3 - ((m1 4 0 0 5) * (if 0 ≤ ((((N 2) * x2) + x1) - ((N 2) * x4)) then ((((N 2) * x2) + x1) - ((N 2) * x4)) else 0 - ((((N 2) * x2) + x1) - ((N 2) * x4))))) * (x1 + (N 1))) ≤ (N 0))) (some (.inl none, m1, r1)) (bI (F201 v1 (N 3) m1 r1) (fun v2 m2 r2 => bI (F220 v1 m2 r2) (fun v3 m3 r3 => mckO (!(decide (v3 = 0))) (bV (F206 v1 (N 3) (v2 + (((x3 - ((m1 4 0 0 5) * (if 0 ≤ ((((N 2) * x2) + x1) - ((N 2) * x4)) then ((((N 2) * x2) + x1) - ((N 2) * x4)) else 0 - ((((N 2) * x2) + x1) - ((N 2) * x4))))) * (x1 + (N 1))) / v3)) m3 r3) (fun m4 r4 => some (.inl none, m4, r4)))))))
set_option maxRecDepth 100000 in
theorem R270 (L : Nat) (x1 : Int32) (x2 : Int32) (x3 : Int32) (x4 : Int32) (mi : mMi) (rs : mRs) : Does 270 [mR 4 0 0, mI x1, mI x2, mI x3, mI x4] L mi rs (F270 x1 x2 x3 x4 mi rs) 3 :=
  Does.of fun D K hD => (Ok.mp (B270_0).mpr (Ok.callI (R200 L x1 x2 mi rs) (by omega) fun v1 m1 r1 => (Ok.mp (B270_5).mpr (Ok.if (Ok.mp (B270_62).mpr Ok.leaf) (Ok.mp (B270_38).mpr (Ok.callI (R201 L v1 (N 3) m1 r1) (by omega) fun v2 m2 r2 => (Ok.mp (B270_49).mpr (Ok.callI (R220 L v1 m2 r2) (by omega) fun v3 m3 r3 => (Ok.mp (B270_57).mpr (Ok.gd (Ok.callV (R206 L v1 (N 3) (v2 + (((x3 - ((m1 4 0 0 5) * (if 0 ≤ ((((N 2) * x2) + x1) - ((N 2) * x4)) then ((((N 2) * x2) + x1) - ((N 2) * x4)) else 0 - ((((N 2) * x2) + x1) - ((N 2) * x4))))) * (x1 + (N 1))) / v3)) m3 r3) (by omega) fun m4 r4 => (Ok.mp (B270_62).mpr Ok.leaf))))))))))))
def F269_85 : Nat → Int32 → Int32 → Int32 → Int32 → mMi → mRs → mRz
  | 0, _, _, _, _, _, _ => none
  | f + 1, x1, x2, x3, x4, mi, rs => mifO (decide (x4 = (I (-1)))) (bV (F212 mi rs) (fun m1 r1 => some (.inl (some (mI ((m1 4 0 3 1) - x3))), m1, r1))) (bV (F222 x4 (N 0) (N 1) (I (-1)) mi rs) (fun m2 r2 => bI (F217 (N 1) m2 r2) (fun v3 m3 r3 => F269_85 f x1 x2 x3 v3 m3 r3)))
set_option maxRecDepth 100000 in
theorem R269_85 (L : Nat) : ∀ f : Nat, (∀ (x1 : Int32) (x2 : Int32) (x3 : Int32) (x4 : Int32) (mi : mMi) (rs : mRs) (l5 : Option mV) (_ : mC2 l5 = true) (D : Nat) (K : mOut → mH → Prop), 7 ≤ D → Ok (F269_85 f x1 x2 x3 x4 mi rs) L K (WP (D + 1) 269 85 [some (mR 4 0 0), some (mI x1), some (mI x2), some (mI x3), some (mI x4), l5] [] (hp L mi rs) K)) := by
  intro f
  induction f with
  | zero => intro x1 x2 x3 x4 mi rs l5 hl5 D K hD; exact Ok.no
  | succ f ih =>
    intro x1 x2 x3 x4 mi rs l5 hl5 D K hD
    unfold F269_85
    exact (Ok.mp (B269_85).mpr (Ok.if (Ok.mp (B269_110).mpr (Ok.callV (R212 L mi rs) (by omega) fun m1 r1 => (Ok.mp (B269_114).mpr Ok.leaf))) (Ok.mp (B269_91).mpr (Ok.callV (R222 L x4 (N 0) (N 1) (I (-1)) mi rs) (by omega) fun m2 r2 => (Ok.mp (B269_100).mpr (Ok.callI (R217 L (N 1) m2 r2) (by omega) fun v3 m3 r3 => (Ok.mp (B269_105).mpr (ih x1 x2 x3 v3 m3 r3 l5 hl5 D K (by omega)))))))))
def F269_21 : Nat → Nat → Int32 → Int32 → Int32 → Int32 → Int32 → mMi → mRs → mRz
  | 0, _, _, _, _, _, _, _, _ => none
  | f + 1, t, x1, x2, x3, x4, x5, mi, rs => match t with
    | 21 => mifO (decide ((mi 4 0 0 3) ≤ x4)) (bI (F217 (N 1) mi rs) (fun v4 m4 r4 => F269_85 FU x1 x2 x3 v4 m4 r4)) (F269_21 f 33 x1 x2 x3 x4 (N 0) mi rs)
    | 33 => mifO (decide (((mi 4 0 0 2) - x4) ≤ x5)) (F269_21 f 21 x1 x2 x3 (x4 + (N 1)) (N 0) mi rs) (bI (F198 x4 x5 mi rs) (fun v5 m5 r5 => mifO (decide (v5 = (N 0))) (F269_21 f 33 x1 x2 x3 x4 (x5 + (N 1)) m5 r5) (bV (F270 x4 x5 x1 x2 m5 r5) (fun m6 r6 => F269_21 f 33 x1 x2 x3 x4 (x5 + (N 1)) m6 r6))))
    | _ => none
set_option maxRecDepth 100000 in
theorem R269_21 (L : Nat) : ∀ f : Nat, (∀ (x1 : Int32) (x2 : Int32) (x3 : Int32) (x4 : Int32) (mi : mMi) (rs : mRs) (l5 : Option mV) (_ : mC2 l5 = true) (D : Nat) (K : mOut → mH → Prop), 7 ≤ D → Ok (F269_21 f 21 x1 x2 x3 x4 (N 0) mi rs) L K (WP (D + 1) 269 21 [some (mR 4 0 0), some (mI x1), some (mI x2), some (mI x3), some (mI x4), l5] [] (hp L mi rs) K)) ∧ (∀ (x1 : Int32) (x2 : Int32) (x3 : Int32) (x4 : Int32) (x5 : Int32) (mi : mMi) (rs : mRs) (D : Nat) (K : mOut → mH → Prop), 7 ≤ D → Ok (F269_21 f 33 x1 x2 x3 x4 x5 mi rs) L K (WP (D + 1) 269 33 [some (mR 4 0 0), some (mI x1), some (mI x2), some (mI x3), some (mI x4), some (mI x5)] [] (hp L mi rs) K)) := by
  intro f
  induction f with
  | zero => exact ⟨(by intro x1 x2 x3 x4 mi rs l5 hl5 D K hD; exact Ok.no), (by intro x1 x2 x3 x4 x5 mi rs D K hD; exact Ok.no)⟩
  | succ f ih =>
    refine ⟨?_, ?_⟩
    · intro x1 x2 x3 x4 mi rs l5 hl5 D K hD
      unfold F269_21
      exact (Ok.mp (B269_21).mpr (Ok.if (Ok.mp (B269_78).mpr (Ok.callI (R217 L (N 1) mi rs) (by omega) fun v4 m4 r4 => (Ok.mp (B269_83).mpr (R269_85 L FU x1 x2 x3 v4 m4 r4 l5 hl5 D K (by omega))))) (Ok.mp (B269_30).mpr (ih.2 x1 x2 x3 x4 (N 0) mi rs  D K (by omega)))))
    · intro x1 x2 x3 x4 x5 mi rs D K hD
      unfold F269_21
      exact (Ok.mp (B269_33).mpr (Ok.if (Ok.mp (B269_72).mpr (ih.1 x1 x2 x3 (x4 + (N 1)) mi rs (some (mI x5)) rfl D K (by omega))) (Ok.mp (B269_45).mpr (Ok.callI (R198 L x4 x5 mi rs) (by omega) fun v5 m5 r5 => (Ok.mp (B269_53).mpr (Ok.if (Ok.mp (B269_66).mpr (ih.2 x1 x2 x3 x4 (x5 + (N 1)) m5 r5  D K (by omega))) (Ok.mp (B269_56).mpr (Ok.callV (R270 L x4 x5 x1 x2 m5 r5) (by omega) fun m6 r6 => (Ok.mp (B269_66).mpr (ih.2 x1 x2 x3 x4 (x5 + (N 1)) m6 r6  D K (by omega)))))))))))
def F269 (x1 : Int32) (x2 : Int32) (mi : mMi) (rs : mRs) : mRz := F269_21 FU 21 x1 x2 (mi 4 0 3 1) (N 0) (N 0) (mset mi 4 0 3 6 ((mi 4 0 3 6) + (N 1))) rs
set_option maxRecDepth 100000 in
theorem R269 (L : Nat) (x1 : Int32) (x2 : Int32) (mi : mMi) (rs : mRs) : Does 269 [mR 4 0 0, mI x1, mI x2] L mi rs (F269 x1 x2 mi rs) 8 :=
  Does.of fun D K hD => (Ok.mp (B269_0).mpr ((R269_21 L FU).1 x1 x2 (mi 4 0 3 1) (N 0) (mset mi 4 0 3 6 ((mi 4 0 3 6) + (N 1))) rs none rfl D K (by omega)))
def F268 (x1 : Int32) (x2 : Int32) (mi : mMi) (rs : mRs) : mRz := bV (F255 mi rs) (fun m1 r1 => bI (F269 x1 x2 m1 r1) (fun v2 m2 r2 => bV (F256 m2 r2) (fun m3 r3 => some (.inl (some (mI v2)), m3, r3))))
set_option maxRecDepth 100000 in
theorem R268 (L : Nat) (x1 : Int32) (x2 : Int32) (mi : mMi) (rs : mRs) : Does 268 [mR 4 0 0, mI x1, mI x2] L mi rs (F268 x1 x2 mi rs) 9 :=
  Does.of fun D K hD => (Ok.mp (B268_0).mpr (Ok.callV (R255 L mi rs) (by omega) fun m1 r1 => (Ok.mp (B268_4).mpr (Ok.callI (R269 L x1 x2 m1 r1) (by omega) fun v2 m2 r2 => (Ok.mp (B268_10).mpr (Ok.callV (R256 L m2 r2) (by omega) fun m3 r3 => (Ok.mp (B268_15).mpr Ok.leaf)))))))
def F266 (x1 : Int32) (x2 : Int32) (mi : mMi) (rs : mRs) : mRz := bI (F230 mi rs) (fun v1 m1 r1 => mifO (decide (v1 ≠ (N 0))) (some (.inl (some (mI (N 0))), m1, r1)) (bI (F267 x1 x2 m1 r1) (fun v2 m2 r2 => mifO (decide (v2 ≠ (N 0))) (bI (F178 (N 0) (N 2) m2 r2) (fun v3 m3 r3 => mifO (decide (v3 = (N 0))) (bI (F268 x1 x2 m3 r3) (fun v4 m4 r4 => some (.inl (some (mI v4)), m4, r4))) (some (.inl (some (mI (N 0))), m3, r3)))) (bI (F178 (N 1) (N 2) m2 r2) (fun v5 m5 r5 => mifO (decide (v5 = (N 0))) (bI (F268 x1 x2 m5 r5) (fun v6 m6 r6 => some (.inl (some (mI v6)), m6, r6))) (some (.inl (some (mI (N 0))), m5, r5)))))))
set_option maxRecDepth 100000 in
theorem R266 (L : Nat) (x1 : Int32) (x2 : Int32) (mi : mMi) (rs : mRs) : Does 266 [mR 4 0 0, mI x1, mI x2] L mi rs (F266 x1 x2 mi rs) 10 :=
  Does.of fun D K hD => (Ok.mp (B266_0).mpr (Ok.callI (R230 L mi rs) (by omega) fun v1 m1 r1 => (Ok.mp (B266_4).mpr (Ok.if (Ok.mp (B266_29).mpr (Ok.mp (B266_39).mpr Ok.leaf)) (Ok.mp (B266_7).mpr (Ok.callI (R267 L x1 x2 m1 r1) (by omega) fun v2 m2 r2 => (Ok.mp (B266_14).mpr (Ok.if (Ok.mp (B266_21).mpr (Ok.mp (B266_22).mpr (Ok.callI (R178 L (N 0) (N 2) m2 r2) (by omega) fun v3 m3 r3 => (Ok.mp (B266_26).mpr (Ok.if (Ok.mp (B266_33).mpr (Ok.callI (R268 L x1 x2 m3 r3) (by omega) fun v4 m4 r4 => (Ok.mp (B266_39).mpr Ok.leaf))) (Ok.mp (B266_29).mpr (Ok.mp (B266_39).mpr Ok.leaf))))))) (Ok.mp (B266_17).mpr (Ok.mp (B266_22).mpr (Ok.callI (R178 L (N 1) (N 2) m2 r2) (by omega) fun v5 m5 r5 => (Ok.mp (B266_26).mpr (Ok.if (Ok.mp (B266_33).mpr (Ok.callI (R268 L x1 x2 m5 r5) (by omega) fun v6 m6 r6 => (Ok.mp (B266_39).mpr Ok.leaf))) (Ok.mp (B266_29).mpr (Ok.mp (B266_39).mpr Ok.leaf)))))))))))))))
def F271_38 : Nat → Int32 → Int32 → mMi → mRs → mRz
  | 0, _, _, _, _ => none
  | f + 1, x1, x2, mi, rs => mifO (decide ((N 99) < x2)) (some (.inl (some (mI (I (-1)))), mi, rs)) (bI (F268 x2 x1 mi rs) (fun v1 m1 r1 => mifO (decide (v1 ≤ (N 0))) (F271_38 f x1 (x2 + (N 1)) m1 r1) (some (.inl (some (mI x2)), m1, r1))))
set_option maxRecDepth 100000 in
theorem R271_38 (L : Nat) : ∀ f : Nat, (∀ (x1 : Int32) (x2 : Int32) (mi : mMi) (rs : mRs) (D : Nat) (K : mOut → mH → Prop), 9 ≤ D → Ok (F271_38 f x1 x2 mi rs) L K (WP (D + 1) 271 38 [some (mR 4 0 0), some (mI x1), some (mI x2)] [] (hp L mi rs) K)) := by
  intro f
  induction f with
  | zero => intro x1 x2 mi rs D K hD; exact Ok.no
  | succ f ih =>
    intro x1 x2 mi rs D K hD
    unfold F271_38
    exact (Ok.mp (B271_38).mpr (Ok.if (Ok.mp (B271_61).mpr Ok.leaf) (Ok.mp (B271_44).mpr (Ok.callI (R268 L x2 x1 mi rs) (by omega) fun v1 m1 r1 => (Ok.mp (B271_50).mpr (Ok.if (Ok.mp (B271_55).mpr (ih x1 (x2 + (N 1)) m1 r1  D K (by omega))) (Ok.mp (B271_53).mpr Ok.leaf)))))))
def F271 (x1 : Int32) (mi : mMi) (rs : mRs) : mRz := bI (F230 mi rs) (fun v2 m2 r2 => mifO (decide (v2 ≠ (N 0))) (some (.inl (some (mI (N 0))), m2, r2)) (bI (F177 x1 (N 0) ((m2 4 0 0 2) - (N 1)) m2 r2) (fun v3 m3 r3 => mifO (decide (v3 ≠ (N 0))) (bI (F178 (N 0) (N 2) m3 r3) (fun v4 m4 r4 => mifO (decide (v4 = (N 0))) (F271_38 FU x1 (N 1) m4 r4) (some (.inl (some (mI (N 0))), m4, r4)))) (bI (F178 (N 1) (N 2) m3 r3) (fun v5 m5 r5 => mifO (decide (v5 = (N 0))) (F271_38 FU x1 (N 1) m5 r5) (some (.inl (some (mI (N 0))), m5, r5)))))))
set_option maxRecDepth 100000 in
theorem R271 (L : Nat) (x1 : Int32) (mi : mMi) (rs : mRs) : Does 271 [mR 4 0 0, mI x1] L mi rs (F271 x1 mi rs) 10 :=
  Does.of fun D K hD => (Ok.mp (B271_0).mpr (Ok.callI (R230 L mi rs) (by omega) fun v2 m2 r2 => (Ok.mp (B271_4).mpr (Ok.if (Ok.mp (B271_34).mpr Ok.leaf) (Ok.mp (B271_7).mpr (Ok.callI (R177 L x1 (N 0) ((m2 4 0 0 2) - (N 1)) m2 r2) (by omega) fun v3 m3 r3 => (Ok.mp (B271_19).mpr (Ok.if (Ok.mp (B271_26).mpr (Ok.mp (B271_27).mpr (Ok.callI (R178 L (N 0) (N 2) m3 r3) (by omega) fun v4 m4 r4 => (Ok.mp (B271_31).mpr (Ok.if (Ok.mp (B271_36).mpr (R271_38 L FU x1 (N 1) m4 r4  D K (by omega))) (Ok.mp (B271_34).mpr Ok.leaf)))))) (Ok.mp (B271_22).mpr (Ok.mp (B271_27).mpr (Ok.callI (R178 L (N 1) (N 2) m3 r3) (by omega) fun v5 m5 r5 => (Ok.mp (B271_31).mpr (Ok.if (Ok.mp (B271_36).mpr (R271_38 L FU x1 (N 1) m5 r5  D K (by omega))) (Ok.mp (B271_34).mpr Ok.leaf))))))))))))))
def F272_39 : Nat → Int32 → Int32 → Int32 → Int32 → mMi → mRs → mRz
  | 0, _, _, _, _, _, _ => none
  | f + 1, x1, x2, x3, x4, mi, rs => mifO (decide ((mi 4 0 0 2) ≤ x4)) (some (.inl (some (mI x2)), mi, rs)) (bI (F268 x1 x4 mi rs) (fun v1 m1 r1 => mifO (decide (v1 ≤ x3)) (F272_39 f x1 x2 (if x3 < v1 then v1 else x3) (x4 + (N 1)) m1 r1) (F272_39 f x1 x4 (if x3 < v1 then v1 else x3) (x4 + (N 1)) m1 r1)))
set_option maxRecDepth 100000 in
theorem R272_39 (L : Nat) : ∀ f : Nat, (∀ (x1 : Int32) (x2 : Int32) (x3 : Int32) (x4 : Int32) (mi : mMi) (rs : mRs) (l5 : Option mV) (_ : mC2 l5 = true) (D : Nat) (K : mOut → mH → Prop), 9 ≤ D → Ok (F272_39 f x1 x2 x3 x4 mi rs) L K (WP (D + 1) 272 39 [some (mR 4 0 0), some (mI x1), some (mI x2), some (mI x3), some (mI x4), l5] [] (hp L mi rs) K)) := by
  intro f
  induction f with
  | zero => intro x1 x2 x3 x4 mi rs l5 hl5 D K hD; exact Ok.no
  | succ f ih =>
    intro x1 x2 x3 x4 mi rs l5 hl5 D K hD
    unfold F272_39
    exact (Ok.mp (B272_39).mpr (Ok.if (Ok.mp (B272_83).mpr Ok.leaf) (Ok.mp (B272_48).mpr (Ok.callI (R268 L x1 x4 mi rs) (by omega) fun v1 m1 r1 => (Ok.mp (B272_55).mpr (Ok.if (Ok.mp (B272_68).mpr (Ok.mp (B272_69).mpr (ih x1 x2 (if x3 < v1 then v1 else x3) (x4 + (N 1)) m1 r1 (some (mI v1)) rfl D K (by omega)))) (Ok.mp (B272_63).mpr (Ok.mp (B272_69).mpr (ih x1 x4 (if x3 < v1 then v1 else x3) (x4 + (N 1)) m1 r1 (some (mI v1)) rfl D K (by omega))))))))))
def F272 (x1 : Int32) (mi : mMi) (rs : mRs) : mRz := bI (F230 mi rs) (fun v2 m2 r2 => mifO (decide (v2 ≠ (N 0))) (some (.inl (some (mI (N 0))), m2, r2)) (bI (F177 x1 (N 1) (N 99) m2 r2) (fun v3 m3 r3 => mifO (decide (v3 ≠ (N 0))) (bI (F178 (N 0) (N 2) m3 r3) (fun v4 m4 r4 => mifO (decide (v4 = (N 0))) (F272_39 FU x1 (N 0) (I (-1)) (N 0) m4 r4) (some (.inl (some (mI (N 0))), m4, r4)))) (bI (F178 (N 1) (N 2) m3 r3) (fun v5 m5 r5 => mifO (decide (v5 = (N 0))) (F272_39 FU x1 (N 0) (I (-1)) (N 0) m5 r5) (some (.inl (some (mI (N 0))), m5, r5)))))))
set_option maxRecDepth 100000 in
theorem R272 (L : Nat) (x1 : Int32) (mi : mMi) (rs : mRs) : Does 272 [mR 4 0 0, mI x1] L mi rs (F272 x1 mi rs) 10 :=
  Does.of fun D K hD => (Ok.mp (B272_0).mpr (Ok.callI (R230 L mi rs) (by omega) fun v2 m2 r2 => (Ok.mp (B272_4).mpr (Ok.if (Ok.mp (B272_30).mpr Ok.leaf) (Ok.mp (B272_7).mpr (Ok.callI (R177 L x1 (N 1) (N 99) m2 r2) (by omega) fun v3 m3 r3 => (Ok.mp (B272_15).mpr (Ok.if (Ok.mp (B272_22).mpr (Ok.mp (B272_23).mpr (Ok.callI (R178 L (N 0) (N 2) m3 r3) (by omega) fun v4 m4 r4 => (Ok.mp (B272_27).mpr (Ok.if (Ok.mp (B272_32).mpr (R272_39 L FU x1 (N 0) (I (-1)) (N 0) m4 r4 none rfl D K (by omega))) (Ok.mp (B272_30).mpr Ok.leaf)))))) (Ok.mp (B272_18).mpr (Ok.mp (B272_23).mpr (Ok.callI (R178 L (N 1) (N 2) m3 r3) (by omega) fun v5 m5 r5 => (Ok.mp (B272_27).mpr (Ok.if (Ok.mp (B272_32).mpr (R272_39 L FU x1 (N 0) (I (-1)) (N 0) m5 r5 none rfl D K (by omega))) (Ok.mp (B272_30).mpr Ok.leaf))))))))))))))
def F273_13 : Nat → Int32 → Int32 → mMi → mRs → mRz
  | 0, _, _, _, _ => none
  | f + 1, x1, x2, mi, rs => mifO (decide ((N 96) ≤ x2)) (mifO (decide (x1 ≠ (N 0))) (mifO (decide ((mi 4 0 0 6) ≠ (N 0))) (mckO (!(decide ((mi 4 0 0 6) = 0))) (some (.inl (some (mI (((x1 + (mi 4 0 0 6)) - (N 1)) / (mi 4 0 0 6)))), mi, rs))) (some (.inl (some (mI (I (-1)))), mi, rs))) (some (.inl (some (mI (N 0))), mi, rs))) (bI (F201 x2 (N 0) mi rs) (fun v1 m1 r1 => mifO (decide (v1 = (I (-1)))) (F273_13 f x1 (x2 + (N 1)) m1 r1) (bI (F201 x2 (N 3) m1 r1) (fun v2 m2 r2 => F273_13 f (if x1 < v2 then v2 else x1) (x2 + (N 1)) m2 r2))))
set_option maxRecDepth 100000 in
theorem R273_13 (L : Nat) : ∀ f : Nat, (∀ (x1 : Int32) (x2 : Int32) (mi : mMi) (rs : mRs) (D : Nat) (K : mOut → mH → Prop), 2 ≤ D → Ok (F273_13 f x1 x2 mi rs) L K (WP (D + 1) 273 13 [some (mR 4 0 0), some (mI x1), some (mI x2)] [] (hp L mi rs) K)) := by
  intro f
  induction f with
  | zero => intro x1 x2 mi rs D K hD; exact Ok.no
  | succ f ih =>
    intro x1 x2 mi rs D K hD
    unfold F273_13
    exact (Ok.mp (B273_13).mpr (Ok.if (Ok.mp (B273_50).mpr (Ok.if (Ok.mp (B273_58).mpr (Ok.if (Ok.mp (B273_69).mpr (Ok.gd (Ok.mp (B273_82).mpr Ok.leaf))) (Ok.mp (B273_65).mpr (Ok.mp (B273_82).mpr Ok.leaf)))) (Ok.mp (B273_54).mpr (Ok.mp (B273_82).mpr Ok.leaf)))) (Ok.mp (B273_19).mpr (Ok.callI (R201 L x2 (N 0) mi rs) (by omega) fun v1 m1 r1 => (Ok.mp (B273_25).mpr (Ok.if (Ok.mp (B273_42).mpr (Ok.mp (B273_43).mpr (ih x1 (x2 + (N 1)) m1 r1  D K (by omega)))) (Ok.mp (B273_29).mpr (Ok.callI (R201 L x2 (N 3) m1 r1) (by omega) fun v2 m2 r2 => (Ok.mp (B273_36).mpr (Ok.mp (B273_43).mpr (ih (if x1 < v2 then v2 else x1) (x2 + (N 1)) m2 r2  D K (by omega))))))))))))
def F273 (mi : mMi) (rs : mRs) : mRz := bI (F230 mi rs) (fun v3 m3 r3 => mifO (decide (v3 = (N 0))) (F273_13 FU (N 0) (N 0) m3 r3) (some (.inl (some (mI (N 0))), m3, r3)))
set_option maxRecDepth 100000 in
theorem R273 (L : Nat) (mi : mMi) (rs : mRs) : Does 273 [mR 4 0 0] L mi rs (F273  mi rs) 3 :=
  Does.of fun D K hD => (Ok.mp (B273_0).mpr (Ok.callI (R230 L mi rs) (by omega) fun v3 m3 r3 => (Ok.mp (B273_4).mpr (Ok.if (Ok.mp (B273_9).mpr (R273_13 L FU (N 0) (N 0) m3 r3  D K (by omega))) (Ok.mp (B273_7).mpr Ok.leaf)))))
def F274_37 : Nat → Int32 → Int32 → Int32 → mMi → mRs → mRz
  | 0, _, _, _, _, _ => none
  | f + 1, x1, x2, x3, mi, rs => mifO (decide ((N 50) < x3)) (bV (F256 mi rs) (fun m1 r1 => mifO (decide ((N 50) < x3)) (some (.inl (some (mI (I (-1)))), m1, r1)) (some (.inl (some (mI x3)), m1, r1)))) (bI (F269 x1 x2 mi rs) (fun v2 m2 r2 => mifO (decide (v2 ≠ (N 0))) (bV (F256 m2 r2) (fun m3 r3 => mifO (decide ((N 50) < x3)) (some (.inl (some (mI (I (-1)))), m3, r3)) (some (.inl (some (mI x3)), m3, r3)))) (F274_37 f x1 x2 (x3 + (N 1)) m2 r2)))
set_option maxRecDepth 100000 in
theorem R274_37 (L : Nat) : ∀ f : Nat, (∀ (x1 : Int32) (x2 : Int32) (x3 : Int32) (mi : mMi) (rs : mRs) (D : Nat) (K : mOut → mH → Prop), 8 ≤ D → Ok (F274_37 f x1 x2 x3 mi rs) L K (WP (D + 1) 274 37 [some (mR 4 0 0), some (mI x1), some (mI x2), some (mI x3)] [] (hp L mi rs) K)) := by
  intro f
  induction f with
  | zero => intro x1 x2 x3 mi rs D K hD; exact Ok.no
  | succ f ih =>
    intro x1 x2 x3 mi rs D K hD
    unfold F274_37
    exact (Ok.mp (B274_37).mpr (Ok.if (Ok.mp (B274_58).mpr (Ok.callV (R256 L mi rs) (by omega) fun m1 r1 => (Ok.mp (B274_62).mpr (Ok.if (Ok.mp (B274_72).mpr (Ok.mp (B274_73).mpr Ok.leaf)) (Ok.mp (B274_68).mpr (Ok.mp (B274_73).mpr Ok.leaf)))))) (Ok.mp (B274_43).mpr (Ok.callI (R269 L x1 x2 mi rs) (by omega) fun v2 m2 r2 => (Ok.mp (B274_49).mpr (Ok.if (Ok.mp (B274_58).mpr (Ok.callV (R256 L m2 r2) (by omega) fun m3 r3 => (Ok.mp (B274_62).mpr (Ok.if (Ok.mp (B274_72).mpr (Ok.mp (B274_73).mpr Ok.leaf)) (Ok.mp (B274_68).mpr (Ok.mp (B274_73).mpr Ok.leaf)))))) (Ok.mp (B274_52).mpr (ih x1 x2 (x3 + (N 1)) m2 r2  D K (by omega)))))))))
def F274 (x1 : Int32) (x2 : Int32) (mi : mMi) (rs : mRs) : mRz := bI (F230 mi rs) (fun v4 m4 r4 => mifO (decide (v4 ≠ (N 0))) (some (.inl (some (mI (N 0))), m4, r4)) (bI (F267 x1 x2 m4 r4) (fun v5 m5 r5 => mifO (decide (v5 ≠ (N 0))) (bI (F178 (N 0) (N 2) m5 r5) (fun v6 m6 r6 => mifO (decide (v6 = (N 0))) (bV (F255 m6 r6) (fun m7 r7 => F274_37 FU x1 x2 (N 1) m7 r7)) (some (.inl (some (mI (N 0))), m6, r6)))) (bI (F178 (N 1) (N 2) m5 r5) (fun v8 m8 r8 => mifO (decide (v8 = (N 0))) (bV (F255 m8 r8) (fun m9 r9 => F274_37 FU x1 x2 (N 1) m9 r9)) (some (.inl (some (mI (N 0))), m8, r8)))))))
set_option maxRecDepth 100000 in
theorem R274 (L : Nat) (x1 : Int32) (x2 : Int32) (mi : mMi) (rs : mRs) : Does 274 [mR 4 0 0, mI x1, mI x2] L mi rs (F274 x1 x2 mi rs) 9 :=
  Does.of fun D K hD => (Ok.mp (B274_0).mpr (Ok.callI (R230 L mi rs) (by omega) fun v4 m4 r4 => (Ok.mp (B274_4).mpr (Ok.if (Ok.mp (B274_29).mpr Ok.leaf) (Ok.mp (B274_7).mpr (Ok.callI (R267 L x1 x2 m4 r4) (by omega) fun v5 m5 r5 => (Ok.mp (B274_14).mpr (Ok.if (Ok.mp (B274_21).mpr (Ok.mp (B274_22).mpr (Ok.callI (R178 L (N 0) (N 2) m5 r5) (by omega) fun v6 m6 r6 => (Ok.mp (B274_26).mpr (Ok.if (Ok.mp (B274_31).mpr (Ok.callV (R255 L m6 r6) (by omega) fun m7 r7 => (Ok.mp (B274_35).mpr (R274_37 L FU x1 x2 (N 1) m7 r7  D K (by omega))))) (Ok.mp (B274_29).mpr Ok.leaf)))))) (Ok.mp (B274_17).mpr (Ok.mp (B274_22).mpr (Ok.callI (R178 L (N 1) (N 2) m5 r5) (by omega) fun v8 m8 r8 => (Ok.mp (B274_26).mpr (Ok.if (Ok.mp (B274_31).mpr (Ok.callV (R255 L m8 r8) (by omega) fun m9 r9 => (Ok.mp (B274_35).mpr (R274_37 L FU x1 x2 (N 1) m9 r9  D K (by omega))))) (Ok.mp (B274_29).mpr Ok.leaf))))))))))))))
def F276 (x1 : Int32) (mi : mMi) (rs : mRs) : mRz := bI (F204 x1 (N 2) mi rs) (fun v1 m1 r1 => bI (F204 x1 (N 1) m1 r1) (fun v2 m2 r2 => mifO (decide (v2 ≠ (N 3))) (bV (F222 v1 (N 0) (N 3) x1 m2 r2) (fun m3 r3 => bV (F212 m3 r3) (fun m4 r4 => some (.inl (some (mI ((m4 4 0 3 1) - (mi 4 0 3 1)))), m4, r4)))) (bV (F222 v1 (N 1) (N 3) x1 m2 r2) (fun m5 r5 => bV (F212 m5 r5) (fun m6 r6 => some (.inl (some (mI ((m6 4 0 3 1) - (mi 4 0 3 1)))), m6, r6))))))
set_option maxRecDepth 100000 in
theorem R276 (L : Nat) (x1 : Int32) (mi : mMi) (rs : mRs) : Does 276 [mR 4 0 0, mI x1] L mi rs (F276 x1 mi rs) 8 :=
  Does.of fun D K hD => (Ok.mp (B276_0).mpr (Ok.callI (R204 L x1 (N 2) mi rs) (by omega) fun v1 m1 r1 => (Ok.mp (B276_14).mpr (Ok.callI (R204 L x1 (N 1) m1 r1) (by omega) fun v2 m2 r2 => (Ok.mp (B276_20).mpr (Ok.if (Ok.mp (B276_28).mpr (Ok.mp (B276_29).mpr (Ok.callV (R222 L v1 (N 0) (N 3) x1 m2 r2) (by omega) fun m3 r3 => (Ok.mp (B276_34).mpr (Ok.callV (R212 L m3 r3) (by omega) fun m4 r4 => (Ok.mp (B276_38).mpr Ok.leaf)))))) (Ok.mp (B276_24).mpr (Ok.mp (B276_29).mpr (Ok.callV (R222 L v1 (N 1) (N 3) x1 m2 r2) (by omega) fun m5 r5 => (Ok.mp (B276_34).mpr (Ok.callV (R212 L m5 r5) (by omega) fun m6 r6 => (Ok.mp (B276_38).mpr Ok.leaf))))))))))))
def F275 (x1 : Int32) (mi : mMi) (rs : mRs) : mRz := bI (F238 x1 mi rs) (fun v1 m1 r1 => mifO (decide (v1 ≠ (N 0))) (some (.inl (some (mI (N 0))), m1, r1)) (bI (F204 x1 (N 1) m1 r1) (fun v2 m2 r2 => mifO (decide ((N 2) ≤ v2)) (bV (F255 m2 r2) (fun m3 r3 => bI (F276 x1 m3 r3) (fun v4 m4 r4 => bV (F256 m4 r4) (fun m5 r5 => some (.inl (some (mI v4)), m5, r5))))) (some (.inl (some (mI (N 0))), m2, r2)))))
set_option maxRecDepth 100000 in
theorem R275 (L : Nat) (x1 : Int32) (mi : mMi) (rs : mRs) : Does 275 [mR 4 0 0, mI x1] L mi rs (F275 x1 mi rs) 9 :=
  Does.of fun D K hD => (Ok.mp (B275_0).mpr (Ok.callI (R238 L x1 mi rs) (by omega) fun v1 m1 r1 => (Ok.mp (B275_5).mpr (Ok.if (Ok.mp (B275_18).mpr Ok.leaf) (Ok.mp (B275_8).mpr (Ok.callI (R204 L x1 (N 1) m1 r1) (by omega) fun v2 m2 r2 => (Ok.mp (B275_14).mpr (Ok.if (Ok.mp (B275_20).mpr (Ok.callV (R255 L m2 r2) (by omega) fun m3 r3 => (Ok.mp (B275_24).mpr (Ok.callI (R276 L x1 m3 r3) (by omega) fun v4 m4 r4 => (Ok.mp (B275_29).mpr (Ok.callV (R256 L m4 r4) (by omega) fun m5 r5 => (Ok.mp (B275_34).mpr Ok.leaf))))))) (Ok.mp (B275_18).mpr Ok.leaf)))))))))
def F279_6 : Nat → Int32 → Int32 → mMi → mRs → mRz
  | 0, _, _, _, _ => none
  | f + 1, x1, x2, mi, rs => mifO (decide ((N 96) ≤ x2)) (some (.inl (some (mI x1)), mi, rs)) (bI (F201 x2 (N 0) mi rs) (fun v1 m1 r1 => mifO (decide (v1 = (I (-1)))) (F279_6 f x1 (x2 + (N 1)) m1 r1) (bI (F218 x2 m1 r1) (fun v2 m2 r2 => F279_6 f (if v2 < x1 then v2 else x1) (x2 + (N 1)) m2 r2))))
set_option maxRecDepth 100000 in
theorem R279_6 (L : Nat) : ∀ f : Nat, (∀ (x1 : Int32) (x2 : Int32) (mi : mMi) (rs : mRs) (D : Nat) (K : mOut → mH → Prop), 4 ≤ D → Ok (F279_6 f x1 x2 mi rs) L K (WP (D + 1) 279 6 [some (mR 4 0 0), some (mI x1), some (mI x2)] [] (hp L mi rs) K)) := by
  intro f
  induction f with
  | zero => intro x1 x2 mi rs D K hD; exact Ok.no
  | succ f ih =>
    intro x1 x2 mi rs D K hD
    unfold F279_6
    exact (Ok.mp (B279_6).mpr (Ok.if (Ok.mp (B279_42).mpr Ok.leaf) (Ok.mp (B279_12).mpr (Ok.callI (R201 L x2 (N 0) mi rs) (by omega) fun v1 m1 r1 => (Ok.mp (B279_18).mpr (Ok.if (Ok.mp (B279_34).mpr (Ok.mp (B279_35).mpr (ih x1 (x2 + (N 1)) m1 r1  D K (by omega)))) (Ok.mp (B279_22).mpr (Ok.callI (R218 L x2 m1 r1) (by omega) fun v2 m2 r2 => (Ok.mp (B279_28).mpr (Ok.mp (B279_35).mpr (ih (if v2 < x1 then v2 else x1) (x2 + (N 1)) m2 r2  D K (by omega))))))))))))
def F279 (mi : mMi) (rs : mRs) : mRz := F279_6 FU (N 2147483647) (N 0) mi rs
set_option maxRecDepth 100000 in
theorem R279 (L : Nat) (mi : mMi) (rs : mRs) : Does 279 [mR 4 0 0] L mi rs (F279  mi rs) 5 :=
  Does.of fun D K hD => (Ok.mp (B279_0).mpr (R279_6 L FU (N 2147483647) (N 0) mi rs  D K (by omega)))
def F278 (x1 : Int32) (x2 : Int32) (mi : mMi) (rs : mRs) : mRz := bV (F255 mi rs) (fun m1 r1 => bV (F210 x1 x2 m1 r1) (fun m2 r2 => bV (F212 m2 r2) (fun m3 r3 => mifO (decide ((m3 4 0 3 1) ≤ (m1 4 0 3 1))) (bI (F279 m3 r3) (fun v4 m4 r4 => bV (F256 m4 r4) (fun m5 r5 => some (.inl (some (mI v4)), m5, r5)))) (bV (F256 m3 r3) (fun m6 r6 => some (.inl (some (mI (I (-1)))), m6, r6))))))
set_option maxRecDepth 100000 in
theorem R278 (L : Nat) (x1 : Int32) (x2 : Int32) (mi : mMi) (rs : mRs) : Does 278 [mR 4 0 0, mI x1, mI x2] L mi rs (F278 x1 x2 mi rs) 8 :=
  Does.of fun D K hD => (Ok.mp (B278_0).mpr (Ok.callV (R255 L mi rs) (by omega) fun m1 r1 => (Ok.mp (B278_4).mpr (Ok.callV (R210 L x1 x2 m1 r1) (by omega) fun m2 r2 => (Ok.mp (B278_17).mpr (Ok.callV (R212 L m2 r2) (by omega) fun m3 r3 => (Ok.mp (B278_21).mpr (Ok.if (Ok.mp (B278_35).mpr (Ok.callI (R279 L m3 r3) (by omega) fun v4 m4 r4 => (Ok.mp (B278_39).mpr (Ok.callV (R256 L m4 r4) (by omega) fun m5 r5 => (Ok.mp (B278_45).mpr Ok.leaf))))) (Ok.mp (B278_31).mpr (Ok.mp (B278_39).mpr (Ok.callV (R256 L m3 r3) (by omega) fun m6 r6 => (Ok.mp (B278_45).mpr Ok.leaf))))))))))))
def F277_17 : Nat → Int32 → Int32 → Int32 → Int32 → mMi → mRs → mRz
  | 0, _, _, _, _, _, _ => none
  | f + 1, x1, x2, x3, x4, mi, rs => mifO (decide ((N 96) ≤ x4)) (bI (F252 x2 mi rs) (fun v1 m1 r1 => some (.inl (some (mI v1)), m1, r1))) (bI (F204 x1 (N 1) mi rs) (fun v2 m2 r2 => mifO (decide (v2 ≠ (N 0))) (bI (F252 x2 m2 r2) (fun v3 m3 r3 => some (.inl (some (mI v3)), m3, r3))) (bI (F199 (x4 / (N 12)) (x4 - x4 / (N 12) * (N 12)) m2 r2) (fun v4 m4 r4 => mifO (decide (v4 = (N 0))) (F277_17 f x1 x2 x3 (x4 + (N 1)) m4 r4) (bI (F209 (x4 / (N 12)) (x4 - x4 / (N 12) * (N 12)) m4 r4) (fun v5 m5 r5 => mifO (decide (v5 ≠ (N 0))) (bI (F278 x4 x1 m5 r5) (fun v6 m6 r6 => mifO (decide (v6 ≤ x3)) (F277_17 f x1 x2 x3 (x4 + (N 1)) m6 r6) (F277_17 f x1 x4 v6 (x4 + (N 1)) m6 r6))) (F277_17 f x1 x2 x3 (x4 + (N 1)) m5 r5)))))))
set_option maxRecDepth 100000 in
theorem R277_17 (L : Nat) : ∀ f : Nat, (∀ (x1 : Int32) (x2 : Int32) (x3 : Int32) (x4 : Int32) (mi : mMi) (rs : mRs) (l5 : Option mV) (_ : mC2 l5 = true) (D : Nat) (K : mOut → mH → Prop), 8 ≤ D → Ok (F277_17 f x1 x2 x3 x4 mi rs) L K (WP (D + 1) 277 17 [some (mR 4 0 0), some (mI x1), some (mI x2), some (mI x3), some (mI x4), l5] [] (hp L mi rs) K)) := by
  intro f
  induction f with
  | zero => intro x1 x2 x3 x4 mi rs l5 hl5 D K hD; exact Ok.no
  | succ f ih =>
    intro x1 x2 x3 x4 mi rs l5 hl5 D K hD
    unfold F277_17
    exact (Ok.mp (B277_17).mpr (Ok.if (Ok.mp (B277_97).mpr (Ok.callI (R252 L x2 mi rs) (by omega) fun v1 m1 r1 => (Ok.mp (B277_101).mpr Ok.leaf))) (Ok.mp (B277_24).mpr (Ok.callI (R204 L x1 (N 1) mi rs) (by omega) fun v2 m2 r2 => (Ok.mp (B277_30).mpr (Ok.if (Ok.mp (B277_97).mpr (Ok.callI (R252 L x2 m2 r2) (by omega) fun v3 m3 r3 => (Ok.mp (B277_101).mpr Ok.leaf))) (Ok.mp (B277_33).mpr (Ok.callI (R199 L (x4 / (N 12)) (x4 - x4 / (N 12) * (N 12)) m2 r2) (by omega) fun v4 m4 r4 => (Ok.mp (B277_47).mpr (Ok.if (Ok.mp (B277_91).mpr (ih x1 x2 x3 (x4 + (N 1)) m4 r4 l5 hl5 D K (by omega))) (Ok.mp (B277_50).mpr (Ok.callI (R209 L (x4 / (N 12)) (x4 - x4 / (N 12) * (N 12)) m4 r4) (by omega) fun v5 m5 r5 => (Ok.mp (B277_64).mpr (Ok.if (Ok.mp (B277_70).mpr (Ok.callI (R278 L x4 x1 m5 r5) (by omega) fun v6 m6 r6 => (Ok.mp (B277_77).mpr (Ok.if (Ok.mp (B277_91).mpr (ih x1 x2 x3 (x4 + (N 1)) m6 r6 (some (mI v6)) rfl D K (by omega))) (Ok.mp (B277_85).mpr (Ok.mp (B277_91).mpr (ih x1 x4 v6 (x4 + (N 1)) m6 r6 (some (mI v6)) rfl D K (by omega)))))))) (Ok.mp (B277_67).mpr (Ok.mp (B277_91).mpr (ih x1 x2 x3 (x4 + (N 1)) m5 r5 l5 hl5 D K (by omega))))))))))))))))))
def F277 (x1 : Int32) (mi : mMi) (rs : mRs) : mRz := bI (F238 x1 mi rs) (fun v7 m7 r7 => mifO (decide (v7 = (N 0))) (F277_17 FU x1 (I (-1)) (I (-1)) (N 0) m7 r7) (some (.inl (some (mI (N 0))), m7, r7)))
set_option maxRecDepth 100000 in
theorem R277 (L : Nat) (x1 : Int32) (mi : mMi) (rs : mRs) : Does 277 [mR 4 0 0, mI x1] L mi rs (F277 x1 mi rs) 9 :=
  Does.of fun D K hD => (Ok.mp (B277_0).mpr (Ok.callI (R238 L x1 mi rs) (by omega) fun v7 m7 r7 => (Ok.mp (B277_5).mpr (Ok.if (Ok.mp (B277_10).mpr (R277_17 L FU x1 (I (-1)) (I (-1)) (N 0) m7 r7 none rfl D K (by omega))) (Ok.mp (B277_8).mpr Ok.leaf)))))
