/-! METHODS OF Draws AND World AS FUNCTIONS, by program. -/
theorem Ok.gx {x : mRz} {L : mLb} {K : mOut → mH → Prop} {b : Bool} {P : Prop} (h : b = true → Ok x L K P) : Ok (mckO b x) L K P := fun z e k => by
  obtain ⟨e1, e2⟩ := mckO_some e
  exact h e1 z e2 k
def H171 (L : Nat) (x1 : Int32) (x2 : Int32) (mi : mMi) (rs : mRs) : mRz := mifO (decide ((Int32.ofNat L) ≤ (mi 7 0 0 1))) (mckO (!(decide (((x2 - x1) + (N 1)) = 0))) (some (.inl (some (mI (x1 + ((N 0) - (N 0) / ((x2 - x1) + (N 1)) * ((x2 - x1) + (N 1)))))), (mset mi 7 0 0 1 ((mi 7 0 0 1) + (N 1))), rs))) (mckO (mIn (mi 7 0 0 1) L) (mckO (!(decide (((x2 - x1) + (N 1)) = 0))) (some (.inl (some (mI (x1 + (((mi 3 0 0 (mix (mi 7 0 0 1))) &&& (N 2147483647)) - ((mi 3 0 0 (mix (mi 7 0 0 1))) &&& (N 2147483647)) / ((x2 - x1) + (N 1)) * ((x2 - x1) + (N 1)))))), (mset mi 7 0 0 1 ((mi 7 0 0 1) + (N 1))), rs))))
set_option maxRecDepth 100000 in
theorem RH171 (L : mLc) (x1 : Int32) (x2 : Int32) (mi : mMi) (rs : mRs) : Does 171 [mR 7 0 0, mI x1, mI x2] (L.1, L.2, none) mi rs (H171 L.2 x1 x2 mi rs) 1 :=
  Does.of fun D K hD => (Ok.mp (B171_0).mpr (Ok.if (Ok.mp (B171_27).mpr (Ok.mp (B171_28).mpr (Ok.gd Ok.leaf))) (Ok.mp (B171_12).mpr (Ok.gd (Ok.mp (B171_28).mpr (Ok.gd Ok.leaf))))))
def H173_2 (B : Nat) : Nat → Nat → Int32 → Int32 → mMi → mRs → mRz
  | 0, _, _, _, _, _ => none
  | f + 1, t, x1, x2, mi, rs => match t with
    | 2 => mckO (rs.2.1.1 B) (mifO (decide ((N 10) ≤ x1)) (some (.inl none, mi, rs)) (H173_2 B f 10 x1 (N 0) mi rs))
    | 10 => mckO (rs.2.1.1 B) (mifO (decide ((N 14) ≤ x2)) (H173_2 B f 2 (x1 + (N 1)) (N 0) mi rs) (mckO (mIn x1 10) (mckO (mIn x2 14) (mckO (mIn x1 10) (mckO (mIn x2 14) (H173_2 B f 10 x1 (x2 + (N 1)) (mset (mset mi 20 B (mix x1) (mix x2) (I (-1))) 24 B (mix x1) (mix x2) (I (-1))) rs))))))
    | _ => none
set_option maxRecDepth 100000 in
theorem RH173_2 (B : Nat) (L : mLc) : ∀ f : Nat, (∀ (x1 : Int32) (mi : mMi) (rs : mRs) (l2 : Option mV) (_ : mC2 l2 = true) (D : Nat) (K : mOut → mH → Prop), 0 ≤ D → Ok (H173_2 B f 2 x1 (N 0) mi rs) (L.1, L.2, none) K (WP (D + 1) 173 2 [some (mR 6 B 0), some (mI x1), l2] [] (hqc L mi rs) K)) ∧ (∀ (x1 : Int32) (x2 : Int32) (mi : mMi) (rs : mRs) (D : Nat) (K : mOut → mH → Prop), 0 ≤ D → Ok (H173_2 B f 10 x1 x2 mi rs) (L.1, L.2, none) K (WP (D + 1) 173 10 [some (mR 6 B 0), some (mI x1), some (mI x2)] [] (hqc L mi rs) K)) := by
  intro f
  induction f with
  | zero => exact ⟨(by intro x1 mi rs l2 hl2 D K hD; exact Ok.no), (by intro x1 x2 mi rs D K hD; exact Ok.no)⟩
  | succ f ih =>
    refine ⟨?_, ?_⟩
    · intro x1 mi rs l2 hl2 D K hD
      unfold H173_2
      exact (Ok.gx fun hb0 => (Ok.mp (B173_2 hb0).mpr (Ok.if (Ok.mp (B173_46 hb0).mpr Ok.leaf) (Ok.mp (B173_8 hb0).mpr (ih.2 x1 (N 0) mi rs  D K (by omega))))))
    · intro x1 x2 mi rs D K hD
      unfold H173_2
      exact (Ok.gx fun hb0 => (Ok.mp (B173_10 hb0).mpr (Ok.if (Ok.mp (B173_40 hb0).mpr (ih.1 (x1 + (N 1)) mi rs (some (mI x2)) rfl D K (by omega))) (Ok.mp (B173_16 hb0).mpr (Ok.gd (Ok.gd (Ok.gd (Ok.gd (ih.2 x1 (x2 + (N 1)) (mset (mset mi 20 B (mix x1) (mix x2) (I (-1))) 24 B (mix x1) (mix x2) (I (-1))) rs  D K (by omega))))))))))
def H173 (B : Nat) (mi : mMi) (rs : mRs) : mRz := mckO (rs.2.1.1 B) (H173_2 B FU 2 (N 0) (N 0) mi rs)
set_option maxRecDepth 100000 in
theorem RH173 (B : Nat) (L : mLc) (mi : mMi) (rs : mRs) : Does 173 [mR 6 B 0] (L.1, L.2, none) mi rs (H173 B  mi rs) 1 :=
  Does.of fun D K hD => (Ok.gx fun hb0 => (Ok.mp (B173_0 hb0).mpr ((RH173_2 B L FU).1 (N 0) mi rs none rfl D K (by omega))))
def H175 (B : Nat) (x1 : Int32) (x2 : Int32) (mi : mMi) (rs : mRs) : mRz := mckO (rs.2.1.1 B) (mifO (decide (x1 < (N 0))) (mckO (mZ (N 0) || false) (some (.inl (some (mI (N 0))), mi, rs))) (mifO (decide (x2 < (N 0))) (mckO (mZ (N 0) || false) (some (.inl (some (mI (N 0))), mi, rs))) (mckO (mIn (N 1) 6) (mifO (decide ((mi 6 B 1 1) ≤ x1)) (mckO (mZ (N 0) || false) (some (.inl (some (mI (N 0))), mi, rs))) (mckO (mIn (N 0) 6) (mifO (decide (((mi 6 B 1 0) - x1) ≤ x2)) (mckO (mZ (N 0) || false) (some (.inl (some (mI (N 0))), mi, rs))) (mckO (mZ (N 1) || false) (some (.inl (some (mI (N 1))), mi, rs)))))))))
set_option maxRecDepth 100000 in
theorem RH175 (B : Nat) (L : mLc) (x1 : Int32) (x2 : Int32) (mi : mMi) (rs : mRs) : Does 175 [mR 6 B 0, mI x1, mI x2] (L.1, L.2, none) mi rs (H175 B x1 x2 mi rs) 1 :=
  Does.of fun D K hD => (Ok.gx fun hb0 => (Ok.mp (B175_0 hb0).mpr (Ok.if (Ok.mp (B175_34 hb0).mpr (Ok.mp (B175_35 hb0).mpr (Ok.gd Ok.leaf))) (Ok.mp (B175_4 hb0).mpr (Ok.if (Ok.mp (B175_34 hb0).mpr (Ok.mp (B175_35 hb0).mpr (Ok.gd Ok.leaf))) (Ok.mp (B175_8 hb0).mpr (Ok.gd (Ok.if (Ok.mp (B175_34 hb0).mpr (Ok.mp (B175_35 hb0).mpr (Ok.gd Ok.leaf))) (Ok.mp (B175_18 hb0).mpr (Ok.gd (Ok.if (Ok.mp (B175_34 hb0).mpr (Ok.mp (B175_35 hb0).mpr (Ok.gd Ok.leaf))) (Ok.mp (B175_30 hb0).mpr (Ok.mp (B175_35 hb0).mpr (Ok.gd Ok.leaf))))))))))))))
def H176_4 (B : Nat) : Nat → Int32 → Int32 → mMi → mRs → mRz
  | 0, _, _, _, _ => none
  | f + 1, x1, x2, mi, rs => mckO (rs.2.1.1 B) (mifO (decide ((mi 6 B 0 17) ≤ x2)) (some (.inl (some (mI x1)), mi, rs)) (mckO (mIn x2 40) (mifO (decide ((mi 6 B 4 (mix x2)) ≠ (N 0))) (H176_4 B f (x1 + (N 0)) (x2 + (N 1)) mi rs) (H176_4 B f (x1 + (N 1)) (x2 + (N 1)) mi rs))))
set_option maxRecDepth 100000 in
theorem RH176_4 (B : Nat) (L : mLc) : ∀ f : Nat, (∀ (x1 : Int32) (x2 : Int32) (mi : mMi) (rs : mRs) (D : Nat) (K : mOut → mH → Prop), 0 ≤ D → Ok (H176_4 B f x1 x2 mi rs) (L.1, L.2, none) K (WP (D + 1) 176 4 [some (mR 6 B 0), some (mI x1), some (mI x2)] [] (hqc L mi rs) K)) := by
  intro f
  induction f with
  | zero => intro x1 x2 mi rs D K hD; exact Ok.no
  | succ f ih =>
    intro x1 x2 mi rs D K hD
    unfold H176_4
    exact (Ok.gx fun hb0 => (Ok.mp (B176_4 hb0).mpr (Ok.if (Ok.mp (B176_35 hb0).mpr Ok.leaf) (Ok.mp (B176_12 hb0).mpr (Ok.gd (Ok.if (Ok.mp (B176_26 hb0).mpr (Ok.mp (B176_27 hb0).mpr (ih (x1 + (N 0)) (x2 + (N 1)) mi rs  D K (by omega)))) (Ok.mp (B176_22 hb0).mpr (Ok.mp (B176_27 hb0).mpr (ih (x1 + (N 1)) (x2 + (N 1)) mi rs  D K (by omega))))))))))
def H176 (B : Nat) (mi : mMi) (rs : mRs) : mRz := mckO (rs.2.1.1 B) (H176_4 B FU (N 0) (N 0) mi rs)
set_option maxRecDepth 100000 in
theorem RH176 (B : Nat) (L : mLc) (mi : mMi) (rs : mRs) : Does 176 [mR 6 B 0] (L.1, L.2, none) mi rs (H176 B  mi rs) 1 :=
  Does.of fun D K hD => (Ok.gx fun hb0 => (Ok.mp (B176_0 hb0).mpr (RH176_4 B L FU (N 0) (N 0) mi rs  D K (by omega))))
def H178 (B : Nat) (x1 : Int32) (x2 : Int32) (mi : mMi) (rs : mRs) : mRz := mckO (rs.2.1.1 B) (bI (H175 B x1 x2 mi rs) (fun v1 m1 r1 => mckO (r1.2.1.1 B) (mifO (decide (v1 = (N 0))) (mckO (mZ (N 0) || false) (some (.inl (some (mI (N 0))), m1, r1))) (mckO (mIn x1 10) (mckO (mIn x2 14) (mifO (decide ((m1 20 B (mix x1) (mix x2)) < (N 0))) (mckO (mZ (N 0) || false) (some (.inl (some (mI (N 0))), m1, r1))) (mckO (mZ (N 1) || false) (some (.inl (some (mI (N 1))), m1, r1)))))))))
set_option maxRecDepth 100000 in
theorem RH178 (B : Nat) (L : mLc) (x1 : Int32) (x2 : Int32) (mi : mMi) (rs : mRs) : Does 178 [mR 6 B 0, mI x1, mI x2] (L.1, L.2, none) mi rs (H178 B x1 x2 mi rs) 2 :=
  Does.of fun D K hD => (Ok.gx fun hb0 => (Ok.mp (B178_0 hb0).mpr (Ok.callI (RH175 B L x1 x2 mi rs) (by omega) fun v1 m1 r1 => (Ok.gx fun hb1 => (Ok.mp (B178_6 hb1).mpr (Ok.if (Ok.mp (B178_24 hb1).mpr (Ok.mp (B178_25 hb1).mpr (Ok.gd Ok.leaf))) (Ok.mp (B178_9 hb1).mpr (Ok.gd (Ok.gd (Ok.if (Ok.mp (B178_24 hb1).mpr (Ok.mp (B178_25 hb1).mpr (Ok.gd Ok.leaf))) (Ok.mp (B178_20 hb1).mpr (Ok.mp (B178_25 hb1).mpr (Ok.gd Ok.leaf)))))))))))))
def H179 (B : Nat) (x1 : Int32) (x2 : Int32) (mi : mMi) (rs : mRs) : mRz := mckO (rs.2.1.1 B) (bI (H175 B x1 x2 mi rs) (fun v1 m1 r1 => mckO (r1.2.1.1 B) (mifO (decide (v1 = (N 0))) (mckO (mZ (N 0) || false) (some (.inl (some (mI (N 0))), m1, r1))) (mckO (mIn x1 10) (mckO (mIn x2 14) (mifO (decide ((m1 24 B (mix x1) (mix x2)) < (N 0))) (mckO (mZ (N 0) || false) (some (.inl (some (mI (N 0))), m1, r1))) (mckO (mZ (N 1) || false) (some (.inl (some (mI (N 1))), m1, r1)))))))))
set_option maxRecDepth 100000 in
theorem RH179 (B : Nat) (L : mLc) (x1 : Int32) (x2 : Int32) (mi : mMi) (rs : mRs) : Does 179 [mR 6 B 0, mI x1, mI x2] (L.1, L.2, none) mi rs (H179 B x1 x2 mi rs) 2 :=
  Does.of fun D K hD => (Ok.gx fun hb0 => (Ok.mp (B179_0 hb0).mpr (Ok.callI (RH175 B L x1 x2 mi rs) (by omega) fun v1 m1 r1 => (Ok.gx fun hb1 => (Ok.mp (B179_6 hb1).mpr (Ok.if (Ok.mp (B179_24 hb1).mpr (Ok.mp (B179_25 hb1).mpr (Ok.gd Ok.leaf))) (Ok.mp (B179_9 hb1).mpr (Ok.gd (Ok.gd (Ok.if (Ok.mp (B179_24 hb1).mpr (Ok.mp (B179_25 hb1).mpr (Ok.gd Ok.leaf))) (Ok.mp (B179_20 hb1).mpr (Ok.mp (B179_25 hb1).mpr (Ok.gd Ok.leaf)))))))))))))
def H177 (B : Nat) (x1 : Int32) (x2 : Int32) (mi : mMi) (rs : mRs) : mRz := mckO (rs.2.1.1 B) (bI (H178 B x1 x2 mi rs) (fun v1 m1 r1 => mckO (r1.2.1.1 B) (mifO (decide (v1 ≠ (N 0))) (mckO (mZ (N 0) || false) (some (.inl (some (mI (N 0))), m1, r1))) (mifO (decide (x1 = (N 0))) (mckO (mZ (N 1) || false) (some (.inl (some (mI (N 1))), m1, r1))) (bI (H179 B x1 x2 m1 r1) (fun v2 m2 r2 => mckO (r2.2.1.1 B) (mifO (decide (v2 = (N 0))) (mckO (mZ (N 0) || false) (some (.inl (some (mI (N 0))), m2, r2))) (mckO (mZ (N 1) || false) (some (.inl (some (mI (N 1))), m2, r2))))))))))
set_option maxRecDepth 100000 in
theorem RH177 (B : Nat) (L : mLc) (x1 : Int32) (x2 : Int32) (mi : mMi) (rs : mRs) : Does 177 [mR 6 B 0, mI x1, mI x2] (L.1, L.2, none) mi rs (H177 B x1 x2 mi rs) 3 :=
  Does.of fun D K hD => (Ok.gx fun hb0 => (Ok.mp (B177_0 hb0).mpr (Ok.callI (RH178 B L x1 x2 mi rs) (by omega) fun v1 m1 r1 => (Ok.gx fun hb1 => (Ok.mp (B177_6 hb1).mpr (Ok.if (Ok.mp (B177_26 hb1).mpr (Ok.mp (B177_27 hb1).mpr (Ok.gd Ok.leaf))) (Ok.mp (B177_9 hb1).mpr (Ok.if (Ok.mp (B177_22 hb1).mpr (Ok.mp (B177_27 hb1).mpr (Ok.gd Ok.leaf))) (Ok.mp (B177_13 hb1).mpr (Ok.callI (RH179 B L x1 x2 m1 r1) (by omega) fun v2 m2 r2 => (Ok.gx fun hb2 => (Ok.mp (B177_19 hb2).mpr (Ok.if (Ok.mp (B177_26 hb2).mpr (Ok.mp (B177_27 hb2).mpr (Ok.gd Ok.leaf))) (Ok.mp (B177_22 hb2).mpr (Ok.mp (B177_27 hb2).mpr (Ok.gd Ok.leaf))))))))))))))))
def H180_4 (B : Nat) : Nat → Int32 → Int32 → Int32 → mMi → mRs → mRz
  | 0, _, _, _, _, _ => none
  | f + 1, x1, x2, x3, mi, rs => mckO (rs.2.1.1 B) (mifO (decide ((mi 6 B 0 17) ≤ x3)) (some (.inl (some (mI (I (-1)))), mi, rs)) (mckO (mIn x3 40) (mifO (decide ((mi 6 B 4 (mix x3)) ≠ (N 0))) (H180_4 B f x1 x2 (x3 + (N 1)) mi rs) (mifO (decide (x2 ≠ (N 0))) (H180_4 B f x1 (x2 + (I (-1))) (x3 + (N 1)) mi rs) (some (.inl (some (mI x3)), mi, rs))))))
set_option maxRecDepth 100000 in
theorem RH180_4 (B : Nat) (L : mLc) : ∀ f : Nat, (∀ (x1 : Int32) (x2 : Int32) (x3 : Int32) (mi : mMi) (rs : mRs) (D : Nat) (K : mOut → mH → Prop), 0 ≤ D → Ok (H180_4 B f x1 x2 x3 mi rs) (L.1, L.2, none) K (WP (D + 1) 180 4 [some (mR 6 B 0), some (mI x1), some (mI x2), some (mI x3)] [] (hqc L mi rs) K)) := by
  intro f
  induction f with
  | zero => intro x1 x2 x3 mi rs D K hD; exact Ok.no
  | succ f ih =>
    intro x1 x2 x3 mi rs D K hD
    unfold H180_4
    exact (Ok.gx fun hb0 => (Ok.mp (B180_4 hb0).mpr (Ok.if (Ok.mp (B180_36 hb0).mpr Ok.leaf) (Ok.mp (B180_12 hb0).mpr (Ok.gd (Ok.if (Ok.mp (B180_30 hb0).mpr (ih x1 x2 (x3 + (N 1)) mi rs  D K (by omega))) (Ok.mp (B180_21 hb0).mpr (Ok.mp (B180_22).mpr (Ok.mp (B180_25 hb0).mpr (Ok.if (Ok.mp (B180_30 hb0).mpr (ih x1 (x2 + (I (-1))) (x3 + (N 1)) mi rs  D K (by omega))) (Ok.mp (B180_28 hb0).mpr Ok.leaf)))))))))))
def H180 (B : Nat) (x1 : Int32) (mi : mMi) (rs : mRs) : mRz := mckO (rs.2.1.1 B) (H180_4 B FU x1 x1 (N 0) mi rs)
set_option maxRecDepth 100000 in
theorem RH180 (B : Nat) (L : mLc) (x1 : Int32) (mi : mMi) (rs : mRs) : Does 180 [mR 6 B 0, mI x1] (L.1, L.2, none) mi rs (H180 B x1 mi rs) 1 :=
  Does.of fun D K hD => (Ok.gx fun hb0 => (Ok.mp (B180_0 hb0).mpr (RH180_4 B L FU x1 x1 (N 0) mi rs  D K (by omega))))
def H182 (B : Nat) (x1 : Int32) (x2 : Int32) (x3 : Int32) (x4 : Int32) (mi : mMi) (rs : mRs) : mRz := mckO (rs.2.1.1 B) (mckO (mIn x1 40) (mckO (mIn x1 40) (mckO (mIn x1 40) (some (.inl none, (mset (mset (mset mi 6 B 4 (mix x1) x2) 6 B 5 (mix x1) x3) 6 B 6 (mix x1) x4), rs)))))
set_option maxRecDepth 100000 in
theorem RH182 (B : Nat) (L : mLc) (x1 : Int32) (x2 : Int32) (x3 : Int32) (x4 : Int32) (mi : mMi) (rs : mRs) : Does 182 [mR 6 B 0, mI x1, mI x2, mI x3, mI x4] (L.1, L.2, none) mi rs (H182 B x1 x2 x3 x4 mi rs) 1 :=
  Does.of fun D K hD => (Ok.gx fun hb0 => (Ok.mp (B182_0 hb0).mpr (Ok.gd (Ok.gd (Ok.gd Ok.leaf)))))
def H181 (B : Nat) (x1 : Int32) (x2 : Int32) (x3 : Int32) (x4 : Int32) (x5 : Int32) (mi : mMi) (rs : mRs) : mRz := mckO (rs.2.1.1 B) (mckO (mIn x1 10) (mckO (mIn x2 14) (mckO (mIn x1 10) (mckO (mIn x2 14) (mckO (mIn x1 10) (mckO (mIn x2 14) (mckO (mIn x1 10) (mckO (mIn x2 14) (bV (H182 B x3 (N 2) x1 x2 (mset (mset (mset (mset mi 20 B (mix x1) (mix x2) x3) 21 B (mix x1) (mix x2) x4) 22 B (mix x1) (mix x2) x5) 23 B (mix x1) (mix x2) (N 0)) rs) (fun m1 r1 => mckO (r1.2.1.1 B) (bV (H182 B x4 (N 2) x1 x2 m1 r1) (fun m2 r2 => mckO (r2.2.1.1 B) (some (.inl none, m2, r2))))))))))))))
set_option maxRecDepth 100000 in
theorem RH181 (B : Nat) (L : mLc) (x1 : Int32) (x2 : Int32) (x3 : Int32) (x4 : Int32) (x5 : Int32) (mi : mMi) (rs : mRs) : Does 181 [mR 6 B 0, mI x1, mI x2, mI x3, mI x4, mI x5] (L.1, L.2, none) mi rs (H181 B x1 x2 x3 x4 x5 mi rs) 2 :=
  Does.of fun D K hD => (Ok.gx fun hb0 => (Ok.mp (B181_0 hb0).mpr (Ok.gd (Ok.gd (Ok.gd (Ok.gd (Ok.gd (Ok.gd (Ok.gd (Ok.gd (Ok.callV (RH182 B L x3 (N 2) x1 x2 (mset (mset (mset (mset mi 20 B (mix x1) (mix x2) x3) 21 B (mix x1) (mix x2) x4) 22 B (mix x1) (mix x2) x5) 23 B (mix x1) (mix x2) (N 0)) rs) (by omega) fun m1 r1 => (Ok.gx fun hb1 => (Ok.mp (B181_46 hb1).mpr (Ok.callV (RH182 B L x4 (N 2) x1 x2 m1 r1) (by omega) fun m2 r2 => (Ok.gx fun hb2 => (Ok.mp (B181_55 hb2).mpr Ok.leaf))))))))))))))))
def H183 (B : Nat) (x1 : Int32) (x2 : Int32) (mi : mMi) (rs : mRs) : mRz := mckO (rs.2.1.1 B) (mifO (decide (x1 ≤ (N 0))) (mckO (mZ (N 0) || false) (some (.inl (some (mI (N 0))), mi, rs))) (bI (H179 B x1 x2 mi rs) (fun v1 m1 r1 => mckO (r1.2.1.1 B) (mifO (decide (v1 ≠ (N 0))) (mckO (mZ (N 0) || false) (some (.inl (some (mI (N 0))), m1, r1))) (bI (H178 B (x1 - (N 1)) x2 m1 r1) (fun v2 m2 r2 => mckO (r2.2.1.1 B) (mifO (decide (v2 = (N 0))) (mckO (mZ (N 0) || false) (some (.inl (some (mI (N 0))), m2, r2))) (bI (H178 B (x1 - (N 1)) (x2 + (N 1)) m2 r2) (fun v3 m3 r3 => mckO (r3.2.1.1 B) (mifO (decide (v3 = (N 0))) (mckO (mZ (N 0) || false) (some (.inl (some (mI (N 0))), m3, r3))) (mckO (mZ (N 1) || false) (some (.inl (some (mI (N 1))), m3, r3)))))))))))))
set_option maxRecDepth 100000 in
theorem RH183 (B : Nat) (L : mLc) (x1 : Int32) (x2 : Int32) (mi : mMi) (rs : mRs) : Does 183 [mR 6 B 0, mI x1, mI x2] (L.1, L.2, none) mi rs (H183 B x1 x2 mi rs) 3 :=
  Does.of fun D K hD => (Ok.gx fun hb0 => (Ok.mp (B183_0 hb0).mpr (Ok.if (Ok.mp (B183_41 hb0).mpr (Ok.mp (B183_42 hb0).mpr (Ok.gd Ok.leaf))) (Ok.mp (B183_4 hb0).mpr (Ok.callI (RH179 B L x1 x2 mi rs) (by omega) fun v1 m1 r1 => (Ok.gx fun hb1 => (Ok.mp (B183_10 hb1).mpr (Ok.if (Ok.mp (B183_41 hb1).mpr (Ok.mp (B183_42 hb1).mpr (Ok.gd Ok.leaf))) (Ok.mp (B183_13 hb1).mpr (Ok.callI (RH178 B L (x1 - (N 1)) x2 m1 r1) (by omega) fun v2 m2 r2 => (Ok.gx fun hb2 => (Ok.mp (B183_21 hb2).mpr (Ok.if (Ok.mp (B183_41 hb2).mpr (Ok.mp (B183_42 hb2).mpr (Ok.gd Ok.leaf))) (Ok.mp (B183_24 hb2).mpr (Ok.callI (RH178 B L (x1 - (N 1)) (x2 + (N 1)) m2 r2) (by omega) fun v3 m3 r3 => (Ok.gx fun hb3 => (Ok.mp (B183_34 hb3).mpr (Ok.if (Ok.mp (B183_41 hb3).mpr (Ok.mp (B183_42 hb3).mpr (Ok.gd Ok.leaf))) (Ok.mp (B183_37 hb3).mpr (Ok.mp (B183_42 hb3).mpr (Ok.gd Ok.leaf)))))))))))))))))))))
def H184 (B : Nat) (x1 : Int32) (x2 : Int32) (x3 : Int32) (mi : mMi) (rs : mRs) : mRz := mckO (rs.2.1.1 B) (mckO (mIn x1 10) (mckO (mIn x2 14) (bV (H182 B x3 (N 3) x1 x2 (mset mi 24 B (mix x1) (mix x2) x3) rs) (fun m1 r1 => mckO (r1.2.1.1 B) (some (.inl none, m1, r1))))))
set_option maxRecDepth 100000 in
theorem RH184 (B : Nat) (L : mLc) (x1 : Int32) (x2 : Int32) (x3 : Int32) (mi : mMi) (rs : mRs) : Does 184 [mR 6 B 0, mI x1, mI x2, mI x3] (L.1, L.2, none) mi rs (H184 B x1 x2 x3 mi rs) 2 :=
  Does.of fun D K hD => (Ok.gx fun hb0 => (Ok.mp (B184_0 hb0).mpr (Ok.gd (Ok.gd (Ok.callV (RH182 B L x3 (N 3) x1 x2 (mset mi 24 B (mix x1) (mix x2) x3) rs) (by omega) fun m1 r1 => (Ok.gx fun hb1 => (Ok.mp (B184_17 hb1).mpr Ok.leaf)))))))
def H188 (B : Nat) (x1 : Int32) (x2 : Int32) (mi : mMi) (rs : mRs) : mRz := mckO (rs.2.1.1 B) (mckO (mIn x1 10) (mckO (mIn x2 14) (mckO (mIn (mi 20 B (mix x1) (mix x2)) 40) (mckO (mIn x1 10) (mckO (mIn x2 14) (mckO (mIn (mi 21 B (mix x1) (mix x2)) 40) (mckO (mIn x1 10) (mckO (mIn x2 14) (some (.inl (some (mI ((((mi 6 B 2 (mix (mi 20 B (mix x1) (mix x2)))) + (mi 6 B 2 (mix (mi 21 B (mix x1) (mix x2))))) * ((N 100) - ((N 2) * (if 0 ≤ ((mi 22 B (mix x1) (mix x2)) - (N 45)) then ((mi 22 B (mix x1) (mix x2)) - (N 45)) else 0 - ((mi 22 B (mix x1) (mix x2)) - (N 45)))))) / (N 25)))), mi, rs))))))))))
set_option maxRecDepth 100000 in
theorem RH188 (B : Nat) (L : mLc) (x1 : Int32) (x2 : Int32) (mi : mMi) (rs : mRs) : Does 188 [mR 6 B 0, mI x1, mI x2] (L.1, L.2, none) mi rs (H188 B x1 x2 mi rs) 1 :=
  Does.of fun D K hD => (Ok.gx fun hb0 => (Ok.mp (B188_0 hb0).mpr (Ok.gd (Ok.gd (Ok.gd (Ok.gd (Ok.gd (Ok.gd (Ok.gd (Ok.gd Ok.leaf))))))))))
def HR189 : Nat → Nat → Nat → Int32 → Int32 → mMi → mRs → mRz
  | 0, _, _, _, _, _, _ => none
  | f + 1, t, B, x1, x2, mi, rs => match t with
    | 189 => mckO (rs.2.1.1 B) (bI (H179 B (x1 + (N 1)) (x2 - (N 1)) mi rs) (fun v1 m1 r1 => mckO (r1.2.1.1 B) (mifO (decide (v1 = (N 0))) (bI (H179 B (x1 + (N 1)) x2 m1 r1) (fun v2 m2 r2 => mckO (r2.2.1.1 B) (mifO (decide (v2 = (N 0))) (some (.inl (some (mI ((N 0) + (N 0)))), m2, r2)) (bI (HR189 f 190 B (x1 + (N 1)) x2 m2 r2) (fun v3 m3 r3 => mckO (r3.2.1.1 B) (some (.inl (some (mI ((N 0) + ((v3 + (N 1)) / (N 2))))), m3, r3))))))) (bI (HR189 f 190 B (x1 + (N 1)) (x2 - (N 1)) m1 r1) (fun v4 m4 r4 => mckO (r4.2.1.1 B) (bI (H179 B (x1 + (N 1)) x2 m4 r4) (fun v5 m5 r5 => mckO (r5.2.1.1 B) (mifO (decide (v5 = (N 0))) (some (.inl (some (mI ((v4 / (N 2)) + (N 0)))), m5, r5)) (bI (HR189 f 190 B (x1 + (N 1)) x2 m5 r5) (fun v6 m6 r6 => mckO (r6.2.1.1 B) (some (.inl (some (mI ((v4 / (N 2)) + ((v6 + (N 1)) / (N 2))))), m6, r6))))))))))))
    | 190 => mckO (rs.2.1.1 B) (mckO (mIn x1 10) (mckO (mIn x2 14) (mckO (mIn (mi 24 B (mix x1) (mix x2)) 40) (bI (H178 B x1 x2 mi rs) (fun v1 m1 r1 => mckO (r1.2.1.1 B) (mifO (decide (v1 = (N 0))) (some (.inl (some (mI ((mi 6 B 3 (mix (mi 24 B (mix x1) (mix x2)))) + (N 0)))), m1, r1)) (mckO (mIn x1 10) (mckO (mIn x2 14) (mckO (mIn (m1 20 B (mix x1) (mix x2)) 40) (mckO (mIn x1 10) (mckO (mIn x2 14) (mckO (mIn (m1 21 B (mix x1) (mix x2)) 40) (bI (HR189 f 189 B x1 x2 m1 r1) (fun v2 m2 r2 => mckO (r2.2.1.1 B) (some (.inl (some (mI ((mi 6 B 3 (mix (mi 24 B (mix x1) (mix x2)))) + (((m1 6 B 3 (mix (m1 20 B (mix x1) (mix x2)))) + (m1 6 B 3 (mix (m1 21 B (mix x1) (mix x2))))) + v2)))), m2, r2))))))))))))))))
    | _ => none
set_option maxRecDepth 100000 in
theorem RHR189 (L : mLc) : ∀ f : Nat, (∀ (B : Nat) (x1 x2 : Int32) (mi : mMi) (rs : mRs), Does 189 [mR 6 B 0, mI x1, mI x2] (L.1, L.2, none) mi rs (HR189 f 189 B x1 x2 mi rs) (2 + f + 1)) ∧ (∀ (B : Nat) (x1 x2 : Int32) (mi : mMi) (rs : mRs), Does 190 [mR 6 B 0, mI x1, mI x2] (L.1, L.2, none) mi rs (HR189 f 190 B x1 x2 mi rs) (2 + f + 1)) := by
  intro f
  induction f with
  | zero => exact ⟨fun B x1 x2 mi rs z e => (by cases e), fun B x1 x2 mi rs z e => (by cases e)⟩
  | succ f ih =>
    refine ⟨?_, ?_⟩
    · intro B x1 x2 mi rs
      unfold HR189
      exact Does.of (d := 2 + f + 1) fun D K hD => (Ok.gx fun hb0 => (Ok.mp (B189_0 hb0).mpr (Ok.callI (RH179 B L (x1 + (N 1)) (x2 - (N 1)) mi rs) (by omega) fun v1 m1 r1 => (Ok.gx fun hb1 => (Ok.mp (B189_10 hb1).mpr (Ok.if (Ok.mp (B189_28 hb1).mpr (Ok.mp (B189_29 hb1).mpr (Ok.callI (RH179 B L (x1 + (N 1)) x2 m1 r1) (by omega) fun v2 m2 r2 => (Ok.gx fun hb2 => (Ok.mp (B189_39 hb2).mpr (Ok.if (Ok.mp (B189_57 hb2).mpr (Ok.mp (B189_58 hb2).mpr Ok.leaf)) (Ok.mp (B189_42 hb2).mpr (Ok.callI (ih.2 B (x1 + (N 1)) x2 m2 r2) (by omega) fun v3 m3 r3 => (Ok.gx fun hb3 => (Ok.mp (B189_50 hb3).mpr (Ok.mp (B189_58 hb3).mpr Ok.leaf))))))))))) (Ok.mp (B189_13 hb1).mpr (Ok.callI (ih.2 B (x1 + (N 1)) (x2 - (N 1)) m1 r1) (by omega) fun v4 m4 r4 => (Ok.gx fun hb4 => (Ok.mp (B189_23 hb4).mpr (Ok.mp (B189_29 hb4).mpr (Ok.callI (RH179 B L (x1 + (N 1)) x2 m4 r4) (by omega) fun v5 m5 r5 => (Ok.gx fun hb5 => (Ok.mp (B189_39 hb5).mpr (Ok.if (Ok.mp (B189_57 hb5).mpr (Ok.mp (B189_58 hb5).mpr Ok.leaf)) (Ok.mp (B189_42 hb5).mpr (Ok.callI (ih.2 B (x1 + (N 1)) x2 m5 r5) (by omega) fun v6 m6 r6 => (Ok.gx fun hb6 => (Ok.mp (B189_50 hb6).mpr (Ok.mp (B189_58 hb6).mpr Ok.leaf))))))))))))))))))))
    · intro B x1 x2 mi rs
      unfold HR189
      exact Does.of (d := 2 + f + 1) fun D K hD => (Ok.gx fun hb0 => (Ok.mp (B190_0 hb0).mpr (Ok.gd (Ok.gd (Ok.gd (Ok.callI (RH178 B L x1 x2 mi rs) (by omega) fun v1 m1 r1 => (Ok.gx fun hb1 => (Ok.mp (B190_19 hb1).mpr (Ok.if (Ok.mp (B190_59 hb1).mpr (Ok.mp (B190_60 hb1).mpr Ok.leaf)) (Ok.mp (B190_22 hb1).mpr (Ok.gd (Ok.gd (Ok.gd (Ok.gd (Ok.gd (Ok.gd (Ok.callI (ih.1 B x1 x2 m1 r1) (by omega) fun v2 m2 r2 => (Ok.gx fun hb2 => (Ok.mp (B190_55 hb2).mpr (Ok.mp (B190_60 hb2).mpr Ok.leaf))))))))))))))))))))
def H189 (B : Nat) (x1 : Int32) (x2 : Int32) (mi : mMi) (rs : mRs) : mRz := HR189 24 189 B x1 x2 mi rs
set_option maxRecDepth 100000 in
theorem RH189 (B : Nat) (L : mLc) (x1 : Int32) (x2 : Int32) (mi : mMi) (rs : mRs) : Does 189 [mR 6 B 0, mI x1, mI x2] (L.1, L.2, none) mi rs (H189 B x1 x2 mi rs) 27 := (RHR189 L 24).1 B x1 x2 mi rs
def H190 (B : Nat) (x1 : Int32) (x2 : Int32) (mi : mMi) (rs : mRs) : mRz := HR189 24 190 B x1 x2 mi rs
set_option maxRecDepth 100000 in
theorem RH190 (B : Nat) (L : mLc) (x1 : Int32) (x2 : Int32) (mi : mMi) (rs : mRs) : Does 190 [mR 6 B 0, mI x1, mI x2] (L.1, L.2, none) mi rs (H190 B x1 x2 mi rs) 27 := (RHR189 L 24).2 B x1 x2 mi rs
def H187 (B : Nat) (x1 : Int32) (x2 : Int32) (mi : mMi) (rs : mRs) : mRz := mckO (rs.2.1.1 B) (bI (H188 B x1 x2 mi rs) (fun v1 m1 r1 => mckO (r1.2.1.1 B) (bI (H189 B x1 x2 m1 r1) (fun v2 m2 r2 => mckO (r2.2.1.1 B) (some (.inl (some (mI (v1 - v2))), m2, r2))))))
set_option maxRecDepth 100000 in
theorem RH187 (B : Nat) (L : mLc) (x1 : Int32) (x2 : Int32) (mi : mMi) (rs : mRs) : Does 187 [mR 6 B 0, mI x1, mI x2] (L.1, L.2, none) mi rs (H187 B x1 x2 mi rs) 28 :=
  Does.of fun D K hD => (Ok.gx fun hb0 => (Ok.mp (B187_0 hb0).mpr (Ok.callI (RH188 B L x1 x2 mi rs) (by omega) fun v1 m1 r1 => (Ok.gx fun hb1 => (Ok.mp (B187_6 hb1).mpr (Ok.callI (RH189 B L x1 x2 m1 r1) (by omega) fun v2 m2 r2 => (Ok.gx fun hb2 => (Ok.mp (B187_12 hb2).mpr Ok.leaf))))))))
def H192 (B : Nat) (x1 : Int32) (x2 : Int32) (x3 : Int32) (x4 : Int32) (mi : mMi) (rs : mRs) : mRz := mckO (rs.2.1.1 B) (mckO (mIn ((mi 6 B 0 20) - (mi 6 B 0 20) / (N 30) * (N 30)) 30) (mckO (mIn (N 0) 5) (mckO (mIn (N 1) 5) (mckO (mIn (N 2) 5) (mckO (mIn (N 3) 5) (mckO (mIn (N 4) 5) (mckO (mIn x4 4) (mckO (mIn x4 4) (some (.inl none, (mset (mset (mset (mset (mset (mset (mset mi 25 B (mix ((mi 6 B 0 20) - (mi 6 B 0 20) / (N 30) * (N 30))) 0 (mi 6 B 0 19)) 25 B (mix ((mi 6 B 0 20) - (mi 6 B 0 20) / (N 30) * (N 30))) 1 x1) 25 B (mix ((mi 6 B 0 20) - (mi 6 B 0 20) / (N 30) * (N 30))) 2 x2) 25 B (mix ((mi 6 B 0 20) - (mi 6 B 0 20) / (N 30) * (N 30))) 3 x3) 25 B (mix ((mi 6 B 0 20) - (mi 6 B 0 20) / (N 30) * (N 30))) 4 x4) 6 B 0 20 ((mi 6 B 0 20) + (N 1))) 6 B 16 (mix x4) (((mset (mset (mset (mset (mset (mset mi 25 B (mix ((mi 6 B 0 20) - (mi 6 B 0 20) / (N 30) * (N 30))) 0 (mi 6 B 0 19)) 25 B (mix ((mi 6 B 0 20) - (mi 6 B 0 20) / (N 30) * (N 30))) 1 x1) 25 B (mix ((mi 6 B 0 20) - (mi 6 B 0 20) / (N 30) * (N 30))) 2 x2) 25 B (mix ((mi 6 B 0 20) - (mi 6 B 0 20) / (N 30) * (N 30))) 3 x3) 25 B (mix ((mi 6 B 0 20) - (mi 6 B 0 20) / (N 30) * (N 30))) 4 x4) 6 B 0 20 ((mi 6 B 0 20) + (N 1))) 6 B 16 (mix x4)) + (N 1))), rs))))))))))
set_option maxRecDepth 100000 in
theorem RH192 (B : Nat) (L : mLc) (x1 : Int32) (x2 : Int32) (x3 : Int32) (x4 : Int32) (mi : mMi) (rs : mRs) : Does 192 [mR 6 B 0, mI x1, mI x2, mI x3, mI x4] (L.1, L.2, none) mi rs (H192 B x1 x2 x3 x4 mi rs) 1 :=
  Does.of fun D K hD => (Ok.gx fun hb0 => (Ok.mp (B192_0 hb0).mpr (Ok.gd (Ok.gd (Ok.gd (Ok.gd (Ok.gd (Ok.gd (Ok.gd (Ok.gd Ok.leaf))))))))))
def H193 (B : Nat) (x1 : Int32) (x2 : Int32) (x3 : Int32) (mi : mMi) (rs : mRs) : mRz := mckO (rs.2.1.1 B) (mifO (decide (x1 ≠ x3)) (bV (H182 B x1 (N 1) (N 0) (N 0) mi rs) (fun m1 r1 => mckO (r1.2.1.1 B) (mckO (mIn (m1 6 B 0 18) 40) (mckO (mIn (N 5) 6) (mifO (decide (x2 < ((mset (mset m1 6 B 9 (mix (m1 6 B 0 18)) x1) 6 B 0 18 (((mset m1 6 B 9 (mix (m1 6 B 0 18)) x1) 6 B 0 18) + (N 1))) 6 B 1 5))) (some (.inl none, (mset (mset m1 6 B 9 (mix (m1 6 B 0 18)) x1) 6 B 0 18 (((mset m1 6 B 9 (mix (m1 6 B 0 18)) x1) 6 B 0 18) + (N 1))), r1)) (mckO (mIn x1 40) (mifO (decide (((mset (mset m1 6 B 9 (mix (m1 6 B 0 18)) x1) 6 B 0 18 (((mset m1 6 B 9 (mix (m1 6 B 0 18)) x1) 6 B 0 18) + (N 1))) 6 B 2 (mix x1)) ≠ (N 1))) (mckO (mIn x1 40) (mckO (mIn x1 40) (mckO (mIn x1 40) (mckO (mIn x1 40) (mckO (mIn x1 40) (mckO (mIn x1 40) (some (.inl none, (mset (mset (mset (mset (mset m1 6 B 9 (mix (m1 6 B 0 18)) x1) 6 B 0 18 (((mset m1 6 B 9 (mix (m1 6 B 0 18)) x1) 6 B 0 18) + (N 1))) 6 B 2 (mix x1) (((mset (mset m1 6 B 9 (mix (m1 6 B 0 18)) x1) 6 B 0 18 (((mset m1 6 B 9 (mix (m1 6 B 0 18)) x1) 6 B 0 18) + (N 1))) 6 B 2 (mix x1)) - (N 1))) 6 B 7 (mix x1) (((mset (mset (mset m1 6 B 9 (mix (m1 6 B 0 18)) x1) 6 B 0 18 (((mset m1 6 B 9 (mix (m1 6 B 0 18)) x1) 6 B 0 18) + (N 1))) 6 B 2 (mix x1) (((mset (mset m1 6 B 9 (mix (m1 6 B 0 18)) x1) 6 B 0 18 (((mset m1 6 B 9 (mix (m1 6 B 0 18)) x1) 6 B 0 18) + (N 1))) 6 B 2 (mix x1)) - (N 1))) 6 B 7 (mix x1)) + (N 1))) 6 B 8 (mix x1) (((mset (mset (mset (mset m1 6 B 9 (mix (m1 6 B 0 18)) x1) 6 B 0 18 (((mset m1 6 B 9 (mix (m1 6 B 0 18)) x1) 6 B 0 18) + (N 1))) 6 B 2 (mix x1) (((mset (mset m1 6 B 9 (mix (m1 6 B 0 18)) x1) 6 B 0 18 (((mset m1 6 B 9 (mix (m1 6 B 0 18)) x1) 6 B 0 18) + (N 1))) 6 B 2 (mix x1)) - (N 1))) 6 B 7 (mix x1) (((mset (mset (mset m1 6 B 9 (mix (m1 6 B 0 18)) x1) 6 B 0 18 (((mset m1 6 B 9 (mix (m1 6 B 0 18)) x1) 6 B 0 18) + (N 1))) 6 B 2 (mix x1) (((mset (mset m1 6 B 9 (mix (m1 6 B 0 18)) x1) 6 B 0 18 (((mset m1 6 B 9 (mix (m1 6 B 0 18)) x1) 6 B 0 18) + (N 1))) 6 B 2 (mix x1)) - (N 1))) 6 B 7 (mix x1)) + (N 1))) 6 B 8 (mix x1)) + (N 1))), r1)))))))) (some (.inl none, (mset (mset m1 6 B 9 (mix (m1 6 B 0 18)) x1) 6 B 0 18 (((mset m1 6 B 9 (mix (m1 6 B 0 18)) x1) 6 B 0 18) + (N 1))), r1))))))))) (bV (H182 B x1 (N 0) (N 0) (N 0) mi rs) (fun m2 r2 => mckO (r2.2.1.1 B) (some (.inl none, m2, r2)))))
set_option maxRecDepth 100000 in
theorem RH193 (B : Nat) (L : mLc) (x1 : Int32) (x2 : Int32) (x3 : Int32) (mi : mMi) (rs : mRs) : Does 193 [mR 6 B 0, mI x1, mI x2, mI x3] (L.1, L.2, none) mi rs (H193 B x1 x2 x3 mi rs) 2 :=
  Does.of fun D K hD => (Ok.gx fun hb0 => (Ok.mp (B193_0 hb0).mpr (Ok.if (Ok.mp (B193_14 hb0).mpr (Ok.callV (RH182 B L x1 (N 1) (N 0) (N 0) mi rs) (by omega) fun m1 r1 => (Ok.gx fun hb1 => (Ok.mp (B193_22 hb1).mpr (Ok.gd (Ok.gd (Ok.if (Ok.mp (B193_62 hb1).mpr Ok.leaf) (Ok.mp (B193_52 hb1).mpr (Ok.gd (Ok.if (Ok.mp (B193_63 hb1).mpr (Ok.gd (Ok.gd (Ok.gd (Ok.gd (Ok.gd (Ok.gd Ok.leaf))))))) (Ok.mp (B193_62 hb1).mpr Ok.leaf))))))))))) (Ok.mp (B193_5 hb0).mpr (Ok.callV (RH182 B L x1 (N 0) (N 0) (N 0) mi rs) (by omega) fun m2 r2 => (Ok.gx fun hb2 => (Ok.mp (B193_13 hb2).mpr Ok.leaf)))))))
def HR191 : Nat → Nat → Nat → Int32 → Int32 → Int32 → Int32 → mMi → mRs → mRz
  | 0, _, _, _, _, _, _, _, _ => none
  | f + 1, t, B, x1, x2, x3, x4, mi, rs => match t with
    | 191 => mckO (rs.2.1.1 B) (bI (H178 B x1 x2 mi rs) (fun v1 m1 r1 => mckO (r1.2.1.1 B) (mifO (decide (v1 ≠ (N 0))) (bV (H192 B x1 x2 (N 0) x3 m1 r1) (fun m2 r2 => mckO (r2.2.1.1 B) (mckO (mIn x1 10) (mckO (mIn x2 14) (mckO (mIn x1 10) (mckO (mIn x2 14) (mckO (mIn x1 10) (mckO (mIn x2 14) (bV (H193 B (m2 20 B (mix x1) (mix x2)) x1 x4 (mset m2 20 B (mix x1) (mix x2) (I (-1))) r2) (fun m3 r3 => mckO (r3.2.1.1 B) (bV (H193 B (m2 21 B (mix x1) (mix x2)) x1 x4 m3 r3) (fun m4 r4 => mckO (r4.2.1.1 B) (bV (HR191 f 194 B (x1 + (N 1)) (x2 - (N 1)) (N 2) (I (-1)) m4 r4) (fun m5 r5 => mckO (r5.2.1.1 B) (bV (HR191 f 194 B (x1 + (N 1)) x2 (N 2) (I (-1)) m5 r5) (fun m6 r6 => mckO (r6.2.1.1 B) (some (.inl none, m6, r6)))))))))))))))))) (some (.inl none, m1, r1)))))
    | 194 => mckO (rs.2.1.1 B) (bI (H179 B x1 x2 mi rs) (fun v1 m1 r1 => mckO (r1.2.1.1 B) (mifO (decide (v1 ≠ (N 0))) (bV (H192 B x1 x2 (N 1) x3 m1 r1) (fun m2 r2 => mckO (r2.2.1.1 B) (mckO (mIn x1 10) (mckO (mIn x2 14) (mckO (mIn x1 10) (mckO (mIn x2 14) (bV (H193 B (m2 24 B (mix x1) (mix x2)) x1 x4 (mset m2 24 B (mix x1) (mix x2) (I (-1))) r2) (fun m3 r3 => mckO (r3.2.1.1 B) (bV (HR191 f 191 B x1 x2 (N 2) (I (-1)) m3 r3) (fun m4 r4 => mckO (r4.2.1.1 B) (some (.inl none, m4, r4)))))))))))) (some (.inl none, m1, r1)))))
    | _ => none
set_option maxRecDepth 100000 in
theorem RHR191 (L : mLc) : ∀ f : Nat, (∀ (B : Nat) (x1 x2 x3 x4 : Int32) (mi : mMi) (rs : mRs), Does 191 [mR 6 B 0, mI x1, mI x2, mI x3, mI x4] (L.1, L.2, none) mi rs (HR191 f 191 B x1 x2 x3 x4 mi rs) (2 + f + 1)) ∧ (∀ (B : Nat) (x1 x2 x3 x4 : Int32) (mi : mMi) (rs : mRs), Does 194 [mR 6 B 0, mI x1, mI x2, mI x3, mI x4] (L.1, L.2, none) mi rs (HR191 f 194 B x1 x2 x3 x4 mi rs) (2 + f + 1)) := by
  intro f
  induction f with
  | zero => exact ⟨fun B x1 x2 x3 x4 mi rs z e => (by cases e), fun B x1 x2 x3 x4 mi rs z e => (by cases e)⟩
  | succ f ih =>
    refine ⟨?_, ?_⟩
    · intro B x1 x2 x3 x4 mi rs
      unfold HR191
      exact Does.of (d := 2 + f + 1) fun D K hD => (Ok.gx fun hb0 => (Ok.mp (B191_0 hb0).mpr (Ok.callI (RH178 B L x1 x2 mi rs) (by omega) fun v1 m1 r1 => (Ok.gx fun hb1 => (Ok.mp (B191_6 hb1).mpr (Ok.if (Ok.mp (B191_10 hb1).mpr (Ok.callV (RH192 B L x1 x2 (N 0) x3 m1 r1) (by omega) fun m2 r2 => (Ok.gx fun hb2 => (Ok.mp (B191_18 hb2).mpr (Ok.gd (Ok.gd (Ok.gd (Ok.gd (Ok.gd (Ok.gd (Ok.callV (RH193 B L (m2 20 B (mix x1) (mix x2)) x1 x4 (mset m2 20 B (mix x1) (mix x2) (I (-1))) r2) (by omega) fun m3 r3 => (Ok.gx fun hb3 => (Ok.mp (B191_56 hb3).mpr (Ok.callV (RH193 B L (m2 21 B (mix x1) (mix x2)) x1 x4 m3 r3) (by omega) fun m4 r4 => (Ok.gx fun hb4 => (Ok.mp (B191_65 hb4).mpr (Ok.callV (ih.2 B (x1 + (N 1)) (x2 - (N 1)) (N 2) (I (-1)) m4 r4) (by omega) fun m5 r5 => (Ok.gx fun hb5 => (Ok.mp (B191_77 hb5).mpr (Ok.callV (ih.2 B (x1 + (N 1)) x2 (N 2) (I (-1)) m5 r5) (by omega) fun m6 r6 => (Ok.gx fun hb6 => (Ok.mp (B191_87 hb6).mpr Ok.leaf)))))))))))))))))))))) (Ok.mp (B191_9 hb1).mpr Ok.leaf)))))))
    · intro B x1 x2 x3 x4 mi rs
      unfold HR191
      exact Does.of (d := 2 + f + 1) fun D K hD => (Ok.gx fun hb0 => (Ok.mp (B194_0 hb0).mpr (Ok.callI (RH179 B L x1 x2 mi rs) (by omega) fun v1 m1 r1 => (Ok.gx fun hb1 => (Ok.mp (B194_6 hb1).mpr (Ok.if (Ok.mp (B194_10 hb1).mpr (Ok.callV (RH192 B L x1 x2 (N 1) x3 m1 r1) (by omega) fun m2 r2 => (Ok.gx fun hb2 => (Ok.mp (B194_18 hb2).mpr (Ok.gd (Ok.gd (Ok.gd (Ok.gd (Ok.callV (RH193 B L (m2 24 B (mix x1) (mix x2)) x1 x4 (mset m2 24 B (mix x1) (mix x2) (I (-1))) r2) (by omega) fun m3 r3 => (Ok.gx fun hb3 => (Ok.mp (B194_46 hb3).mpr (Ok.callV (ih.1 B x1 x2 (N 2) (I (-1)) m3 r3) (by omega) fun m4 r4 => (Ok.gx fun hb4 => (Ok.mp (B194_54 hb4).mpr Ok.leaf)))))))))))))) (Ok.mp (B194_9 hb1).mpr Ok.leaf)))))))
def H191 (B : Nat) (x1 : Int32) (x2 : Int32) (x3 : Int32) (x4 : Int32) (mi : mMi) (rs : mRs) : mRz := HR191 24 191 B x1 x2 x3 x4 mi rs
set_option maxRecDepth 100000 in
theorem RH191 (B : Nat) (L : mLc) (x1 : Int32) (x2 : Int32) (x3 : Int32) (x4 : Int32) (mi : mMi) (rs : mRs) : Does 191 [mR 6 B 0, mI x1, mI x2, mI x3, mI x4] (L.1, L.2, none) mi rs (H191 B x1 x2 x3 x4 mi rs) 27 := (RHR191 L 24).1 B x1 x2 x3 x4 mi rs
def H194 (B : Nat) (x1 : Int32) (x2 : Int32) (x3 : Int32) (x4 : Int32) (mi : mMi) (rs : mRs) : mRz := HR191 24 194 B x1 x2 x3 x4 mi rs
set_option maxRecDepth 100000 in
theorem RH194 (B : Nat) (L : mLc) (x1 : Int32) (x2 : Int32) (x3 : Int32) (x4 : Int32) (mi : mMi) (rs : mRs) : Does 194 [mR 6 B 0, mI x1, mI x2, mI x3, mI x4] (L.1, L.2, none) mi rs (H194 B x1 x2 x3 x4 mi rs) 27 := (RHR191 L 24).2 B x1 x2 x3 x4 mi rs
def H186_2 (B : Nat) : Nat → Nat → Int32 → Int32 → Int32 → mMi → mRs → mRz
  | 0, _, _, _, _, _, _ => none
  | f + 1, t, x1, x2, x3, mi, rs => match t with
    | 2 => mckO (rs.2.1.1 B) (mckO (mIn (N 1) 6) (mifO (decide ((mi 6 B 1 1) ≤ x2)) (some (.inl (some (mI (N 0))), mi, rs)) (H186_2 B f 14 x1 x2 (N 0) mi rs)))
    | 14 => mckO (rs.2.1.1 B) (mckO (mIn (N 0) 6) (mifO (decide (((mi 6 B 1 0) - x2) ≤ x3)) (H186_2 B f 2 x1 (x2 + (N 1)) (N 0) mi rs) (bI (H178 B x2 x3 mi rs) (fun v1 m1 r1 => mckO (r1.2.1.1 B) (mifO (decide (v1 = (N 0))) (H186_2 B f 14 x1 x2 (x3 + (N 1)) m1 r1) (mifO (decide (x1 = (N 0))) (bI (H187 B x2 x3 m1 r1) (fun v2 m2 r2 => mckO (r2.2.1.1 B) (mifO (decide (v2 < (N 0))) (mifO (decide (x1 = (N 0))) (bV (H191 B x2 x3 (N 0) (I (-1)) m2 r2) (fun m3 r3 => mckO (r3.2.1.1 B) (some (.inl (some (mI (N 1))), m3, r3)))) (bV (H191 B x2 x3 (N 1) (I (-1)) m2 r2) (fun m4 r4 => mckO (r4.2.1.1 B) (some (.inl (some (mI (N 1))), m4, r4))))) (H186_2 B f 14 x1 x2 (x3 + (N 1)) m2 r2)))) (mckO (mIn x2 10) (mckO (mIn x3 14) (mckO (mIn (N 2) 6) (mifO (decide ((m1 6 B 1 2) < (m1 23 B (mix x2) (mix x3)))) (mifO (decide (x1 = (N 0))) (bV (H191 B x2 x3 (N 0) (I (-1)) m1 r1) (fun m5 r5 => mckO (r5.2.1.1 B) (some (.inl (some (mI (N 1))), m5, r5)))) (bV (H191 B x2 x3 (N 1) (I (-1)) m1 r1) (fun m6 r6 => mckO (r6.2.1.1 B) (some (.inl (some (mI (N 1))), m6, r6))))) (H186_2 B f 14 x1 x2 (x3 + (N 1)) m1 r1)))))))))))
    | _ => none
set_option maxRecDepth 100000 in
theorem RH186_2 (B : Nat) (L : mLc) : ∀ f : Nat, (∀ (x1 : Int32) (x2 : Int32) (mi : mMi) (rs : mRs) (l3 : Option mV) (_ : mC2 l3 = true) (D : Nat) (K : mOut → mH → Prop), 28 ≤ D → Ok (H186_2 B f 2 x1 x2 (N 0) mi rs) (L.1, L.2, none) K (WP (D + 1) 186 2 [some (mR 6 B 0), some (mI x1), some (mI x2), l3] [] (hqc L mi rs) K)) ∧ (∀ (x1 : Int32) (x2 : Int32) (x3 : Int32) (mi : mMi) (rs : mRs) (D : Nat) (K : mOut → mH → Prop), 28 ≤ D → Ok (H186_2 B f 14 x1 x2 x3 mi rs) (L.1, L.2, none) K (WP (D + 1) 186 14 [some (mR 6 B 0), some (mI x1), some (mI x2), some (mI x3)] [] (hqc L mi rs) K)) := by
  intro f
  induction f with
  | zero => exact ⟨(by intro x1 x2 mi rs l3 hl3 D K hD; exact Ok.no), (by intro x1 x2 x3 mi rs D K hD; exact Ok.no)⟩
  | succ f ih =>
    refine ⟨?_, ?_⟩
    · intro x1 x2 mi rs l3 hl3 D K hD
      unfold H186_2
      exact (Ok.gx fun hb0 => (Ok.mp (B186_2 hb0).mpr (Ok.gd (Ok.if (Ok.mp (B186_101 hb0).mpr Ok.leaf) (Ok.mp (B186_12 hb0).mpr (ih.2 x1 x2 (N 0) mi rs  D K (by omega)))))))
    · intro x1 x2 x3 mi rs D K hD
      unfold H186_2
      exact (Ok.gx fun hb0 => (Ok.mp (B186_14 hb0).mpr (Ok.gd (Ok.if (Ok.mp (B186_95 hb0).mpr (ih.1 x1 (x2 + (N 1)) mi rs (some (mI x3)) rfl D K (by omega))) (Ok.mp (B186_26 hb0).mpr (Ok.callI (RH178 B L x2 x3 mi rs) (by omega) fun v1 m1 r1 => (Ok.gx fun hb1 => (Ok.mp (B186_32 hb1).mpr (Ok.if (Ok.mp (B186_89 hb1).mpr (ih.2 x1 x2 (x3 + (N 1)) m1 r1  D K (by omega))) (Ok.mp (B186_35 hb1).mpr (Ok.if (Ok.mp (B186_59 hb1).mpr (Ok.callI (RH187 B L x2 x3 m1 r1) (by omega) fun v2 m2 r2 => (Ok.gx fun hb2 => (Ok.mp (B186_65 hb2).mpr (Ok.if (Ok.mp (B186_71 hb2).mpr (Ok.if (Ok.mp (B186_82 hb2).mpr (Ok.mp (B186_83 hb2).mpr (Ok.callV (RH191 B L x2 x3 (N 0) (I (-1)) m2 r2) (by omega) fun m3 r3 => (Ok.gx fun hb3 => (Ok.mp (B186_87 hb3).mpr Ok.leaf))))) (Ok.mp (B186_78 hb2).mpr (Ok.mp (B186_83 hb2).mpr (Ok.callV (RH191 B L x2 x3 (N 1) (I (-1)) m2 r2) (by omega) fun m4 r4 => (Ok.gx fun hb4 => (Ok.mp (B186_87 hb4).mpr Ok.leaf))))))) (Ok.mp (B186_68 hb2).mpr (Ok.mp (B186_89 hb2).mpr (ih.2 x1 x2 (x3 + (N 1)) m2 r2  D K (by omega))))))))) (Ok.mp (B186_39 hb1).mpr (Ok.gd (Ok.gd (Ok.gd (Ok.if (Ok.mp (B186_71 hb1).mpr (Ok.if (Ok.mp (B186_82 hb1).mpr (Ok.mp (B186_83 hb1).mpr (Ok.callV (RH191 B L x2 x3 (N 0) (I (-1)) m1 r1) (by omega) fun m5 r5 => (Ok.gx fun hb5 => (Ok.mp (B186_87 hb5).mpr Ok.leaf))))) (Ok.mp (B186_78 hb1).mpr (Ok.mp (B186_83 hb1).mpr (Ok.callV (RH191 B L x2 x3 (N 1) (I (-1)) m1 r1) (by omega) fun m6 r6 => (Ok.gx fun hb6 => (Ok.mp (B186_87 hb6).mpr Ok.leaf))))))) (Ok.mp (B186_56 hb1).mpr (Ok.mp (B186_89 hb1).mpr (ih.2 x1 x2 (x3 + (N 1)) m1 r1  D K (by omega))))))))))))))))))))
def H186 (B : Nat) (x1 : Int32) (mi : mMi) (rs : mRs) : mRz := mckO (rs.2.1.1 B) (H186_2 B FU 2 x1 (N 0) (N 0) mi rs)
set_option maxRecDepth 100000 in
theorem RH186 (B : Nat) (L : mLc) (x1 : Int32) (mi : mMi) (rs : mRs) : Does 186 [mR 6 B 0, mI x1] (L.1, L.2, none) mi rs (H186 B x1 mi rs) 29 :=
  Does.of fun D K hD => (Ok.gx fun hb0 => (Ok.mp (B186_0 hb0).mpr ((RH186_2 B L FU).1 x1 (N 0) mi rs none rfl D K (by omega))))
def H185_0 (B : Nat) : Nat → mMi → mRs → mRz
  | 0, _, _ => none
  | f + 1, mi, rs => mckO (rs.2.1.1 B) (bI (H186 B (N 0) mi rs) (fun v1 m1 r1 => mckO (r1.2.1.1 B) (mifO (decide (v1 = (N 0))) (some (.inl none, m1, r1)) (H185_0 B f m1 r1))))
set_option maxRecDepth 100000 in
theorem RH185_0 (B : Nat) (L : mLc) : ∀ f : Nat, (∀ (mi : mMi) (rs : mRs) (l1 : Option mV) (_ : mC2 l1 = true) (D : Nat) (K : mOut → mH → Prop), 29 ≤ D → Ok (H185_0 B f  mi rs) (L.1, L.2, none) K (WP (D + 1) 185 0 [some (mR 6 B 0), l1] [] (hqc L mi rs) K)) := by
  intro f
  induction f with
  | zero => intro mi rs l1 hl1 D K hD; exact Ok.no
  | succ f ih =>
    intro mi rs l1 hl1 D K hD
    unfold H185_0
    exact (Ok.gx fun hb0 => (Ok.mp (B185_0 hb0).mpr (Ok.callI (RH186 B L (N 0) mi rs) (by omega) fun v1 m1 r1 => (Ok.gx fun hb1 => (Ok.mp (B185_5 hb1).mpr (Ok.if (Ok.mp (B185_16 hb1).mpr Ok.leaf) (Ok.mp (B185_8 hb1).mpr (ih  m1 r1 (some (mI (m1 6 B 0 20))) rfl D K (by omega)))))))))
def H185 (B : Nat) (mi : mMi) (rs : mRs) : mRz := mckO (rs.2.1.1 B) (H185_0 B FU mi rs)
set_option maxRecDepth 100000 in
theorem RH185 (B : Nat) (L : mLc) (mi : mMi) (rs : mRs) : Does 185 [mR 6 B 0] (L.1, L.2, none) mi rs (H185 B  mi rs) 30 :=
  Does.of fun D K hD => (Ok.gx fun hb0 => (RH185_0 B L FU  mi rs none rfl D K (by omega)))
def H195_14 (B : Nat) : Nat → Nat → Int32 → Int32 → Int32 → Int32 → mMi → mRs → mRz
  | 0, _, _, _, _, _, _, _ => none
  | f + 1, t, x1, x2, x3, x4, mi, rs => match t with
    | 14 => mckO (rs.2.1.1 B) (mckO (mIn (N 1) 6) (mifO (decide ((mi 6 B 1 1) ≤ x3)) (some (.inl (some (mI x2)), mi, rs)) (H195_14 B f 27 x1 x2 x3 (N 0) mi rs)))
    | 27 => mckO (rs.2.1.1 B) (mckO (mIn (N 0) 6) (mifO (decide (((mi 6 B 1 0) - x3) ≤ x4)) (H195_14 B f 14 x1 x2 (x3 + (N 1)) (N 0) mi rs) (mckO (mIn x3 10) (mckO (mIn x3 10) (mckO (mIn x4 14) (mckO (mIn (N 4) 6) (mckO (mIn x4 14) (bI (H178 B x3 x4 (mset mi 23 B (mix x3) (mix x4) (if (N 0) < ((mi 23 B (mix x3) (mix x4)) - (x1 * (mi 6 B 1 4))) then ((mi 23 B (mix x3) (mix x4)) - (x1 * (mi 6 B 1 4))) else (N 0))) rs) (fun v1 m1 r1 => mckO (r1.2.1.1 B) (mifO (decide (v1 = (N 0))) (H195_14 B f 27 x1 (x2 + (N 0)) x3 (x4 + (N 1)) m1 r1) (mckO (mIn x3 10) (mckO (mIn x4 14) (mifO (decide ((m1 23 B (mix x3) (mix x4)) ≤ (N 0))) (H195_14 B f 27 x1 (x2 + (N 0)) x3 (x4 + (N 1)) m1 r1) (H195_14 B f 27 x1 (x2 + (N 1)) x3 (x4 + (N 1)) m1 r1))))))))))))))
    | _ => none
set_option maxRecDepth 100000 in
theorem RH195_14 (B : Nat) (L : mLc) : ∀ f : Nat, (∀ (x1 : Int32) (x2 : Int32) (x3 : Int32) (mi : mMi) (rs : mRs) (l4 : Option mV) (_ : mC2 l4 = true) (D : Nat) (K : mOut → mH → Prop), 2 ≤ D → Ok (H195_14 B f 14 x1 x2 x3 (N 0) mi rs) (L.1, L.2, none) K (WP (D + 1) 195 14 [some (mR 6 B 0), some (mI x1), some (mI x2), some (mI x3), l4] [] (hqc L mi rs) K)) ∧ (∀ (x1 : Int32) (x2 : Int32) (x3 : Int32) (x4 : Int32) (mi : mMi) (rs : mRs) (D : Nat) (K : mOut → mH → Prop), 2 ≤ D → Ok (H195_14 B f 27 x1 x2 x3 x4 mi rs) (L.1, L.2, none) K (WP (D + 1) 195 27 [some (mR 6 B 0), some (mI x1), some (mI x2), some (mI x3), some (mI x4)] [] (hqc L mi rs) K)) := by
  intro f
  induction f with
  | zero => exact ⟨(by intro x1 x2 x3 mi rs l4 hl4 D K hD; exact Ok.no), (by intro x1 x2 x3 x4 mi rs D K hD; exact Ok.no)⟩
  | succ f ih =>
    refine ⟨?_, ?_⟩
    · intro x1 x2 x3 mi rs l4 hl4 D K hD
      unfold H195_14
      exact (Ok.gx fun hb0 => (Ok.mp (B195_14 hb0).mpr (Ok.gd (Ok.if (Ok.mp (B195_113 hb0).mpr Ok.leaf) (Ok.mp (B195_24 hb0).mpr (ih.2 x1 x2 x3 (N 0) mi rs  D K (by omega)))))))
    · intro x1 x2 x3 x4 mi rs D K hD
      unfold H195_14
      exact (Ok.gx fun hb0 => (Ok.mp (B195_27 hb0).mpr (Ok.gd (Ok.if (Ok.mp (B195_107 hb0).mpr (ih.1 x1 x2 (x3 + (N 1)) mi rs (some (mI x4)) rfl D K (by omega))) (Ok.mp (B195_40 hb0).mpr (Ok.gd (Ok.gd (Ok.gd (Ok.gd (Ok.gd (Ok.callI (RH178 B L x3 x4 (mset mi 23 B (mix x3) (mix x4) (if (N 0) < ((mi 23 B (mix x3) (mix x4)) - (x1 * (mi 6 B 1 4))) then ((mi 23 B (mix x3) (mix x4)) - (x1 * (mi 6 B 1 4))) else (N 0))) rs) (by omega) fun v1 m1 r1 => (Ok.gx fun hb1 => (Ok.mp (B195_79 hb1).mpr (Ok.if (Ok.mp (B195_98 hb1).mpr (Ok.mp (B195_99 hb1).mpr (ih.2 x1 (x2 + (N 0)) x3 (x4 + (N 1)) m1 r1  D K (by omega)))) (Ok.mp (B195_82 hb1).mpr (Ok.gd (Ok.gd (Ok.if (Ok.mp (B195_98 hb1).mpr (Ok.mp (B195_99 hb1).mpr (ih.2 x1 (x2 + (N 0)) x3 (x4 + (N 1)) m1 r1  D K (by omega)))) (Ok.mp (B195_94 hb1).mpr (Ok.mp (B195_99 hb1).mpr (ih.2 x1 (x2 + (N 1)) x3 (x4 + (N 1)) m1 r1  D K (by omega))))))))))))))))))))))
def H195 (B : Nat) (x1 : Int32) (mi : mMi) (rs : mRs) : mRz := mckO (rs.2.1.1 B) (H195_14 B FU 14 x1 (N 0) (N 0) (N 0) (mset mi 6 B 0 19 ((mi 6 B 0 19) + x1)) rs)
set_option maxRecDepth 100000 in
theorem RH195 (B : Nat) (L : mLc) (x1 : Int32) (mi : mMi) (rs : mRs) : Does 195 [mR 6 B 0, mI x1] (L.1, L.2, none) mi rs (H195 B x1 mi rs) 3 :=
  Does.of fun D K hD => (Ok.gx fun hb0 => (Ok.mp (B195_0 hb0).mpr ((RH195_14 B L FU).1 x1 (N 0) (N 0) (mset mi 6 B 0 19 ((mi 6 B 0 19) + x1)) rs none rfl D K (by omega))))
def H196_151 (B : Nat) : Nat → Int32 → Int32 → Int32 → Int32 → mMi → mRs → mRz
  | 0, _, _, _, _, _, _ => none
  | f + 1, x1, x2, x3, x4, mi, rs => mckO (rs.2.1.1 B) (bI (H186 B (N 1) mi rs) (fun v1 m1 r1 => mckO (r1.2.1.1 B) (mifO (decide (v1 = (N 0))) (bV (H185 B m1 r1) (fun m2 r2 => mckO (r2.2.1.1 B) (some (.inl (some (mI ((m2 6 B 0 20) - x3))), m2, r2)))) (H196_151 B f x1 x2 x3 (m1 6 B 0 20) m1 r1))))
set_option maxRecDepth 100000 in
theorem RH196_151 (B : Nat) (L : mLc) : ∀ f : Nat, (∀ (x1 : Int32) (x2 : Int32) (x3 : Int32) (x4 : Int32) (mi : mMi) (rs : mRs) (l5 : Option mV) (_ : mC2 l5 = true) (l6 : Option mV) (_ : mC2 l6 = true) (D : Nat) (K : mOut → mH → Prop), 30 ≤ D → Ok (H196_151 B f x1 x2 x3 x4 mi rs) (L.1, L.2, none) K (WP (D + 1) 196 151 [some (mR 6 B 0), some (mI x1), some (mI x2), some (mI x3), some (mI x4), l5, l6] [] (hqc L mi rs) K)) := by
  intro f
  induction f with
  | zero => intro x1 x2 x3 x4 mi rs l5 hl5 l6 hl6 D K hD; exact Ok.no
  | succ f ih =>
    intro x1 x2 x3 x4 mi rs l5 hl5 l6 hl6 D K hD
    unfold H196_151
    exact (Ok.gx fun hb0 => (Ok.mp (B196_151 hb0).mpr (Ok.callI (RH186 B L (N 1) mi rs) (by omega) fun v1 m1 r1 => (Ok.gx fun hb1 => (Ok.mp (B196_156 hb1).mpr (Ok.if (Ok.mp (B196_168 hb1).mpr (Ok.callV (RH185 B L m1 r1) (by omega) fun m2 r2 => (Ok.gx fun hb2 => (Ok.mp (B196_172 hb2).mpr Ok.leaf)))) (Ok.mp (B196_159 hb1).mpr (ih x1 x2 x3 (m1 6 B 0 20) m1 r1 l5 hl5 l6 hl6 D K (by omega)))))))))
def H196_18 (B : Nat) : Nat → Nat → Int32 → Int32 → Int32 → Int32 → Int32 → mMi → mRs → mRz
  | 0, _, _, _, _, _, _, _, _ => none
  | f + 1, t, x1, x2, x3, x4, x5, mi, rs => match t with
    | 18 => mckO (rs.2.1.1 B) (mckO (mIn (N 1) 6) (mifO (decide ((mi 6 B 1 1) ≤ x4)) (H196_151 B FU x1 x2 x3 x4 mi rs) (H196_18 B f 32 x1 x2 x3 x4 (N 0) mi rs)))
    | 32 => mckO (rs.2.1.1 B) (mckO (mIn (N 0) 6) (mifO (decide (((mi 6 B 1 0) - x4) ≤ x5)) (H196_18 B f 18 x1 x2 x3 (x4 + (N 1)) (N 0) mi rs) (mckO (mIn (N 3) 6) (bI (H178 B x4 x5 mi rs) (fun v3 m3 r3 => mckO (r3.2.1.1 B) (mifO (decide (v3 = (N 0))) (H196_18 B f 32 x1 x2 x3 x4 (x5 + (N 1)) m3 r3) (mifO (decide (((x1 - ((mi 6 B 1 3) * (if 0 ≤ ((((N 2) * x5) + x4) - ((N 2) * x2)) then ((((N 2) * x5) + x4) - ((N 2) * x2)) else 0 - ((((N 2) * x5) + x4) - ((N 2) * x2))))) * (x4 + (N 1))) ≤ (N 0))) (H196_18 B f 32 x1 x2 x3 x4 (x5 + (N 1)) m3 r3) (mckO (mIn x4 10) (mckO (mIn x5 14) (mckO (mIn x4 10) (mckO (mIn x5 14) (mckO (mIn (m3 20 B (mix x4) (mix x5)) 40) (mckO (mIn x4 10) (mckO (mIn x5 14) (mckO (mIn (m3 21 B (mix x4) (mix x5)) 40) (mckO (!(decide (((m3 6 B 2 (mix (m3 20 B (mix x4) (mix x5)))) + (m3 6 B 2 (mix (m3 21 B (mix x4) (mix x5))))) = 0))) (mckO (mIn x5 14) (H196_18 B f 32 x1 x2 x3 x4 (x5 + (N 1)) (mset m3 23 B (mix x4) (mix x5) ((m3 23 B (mix x4) (mix x5)) + (((x1 - ((mi 6 B 1 3) * (if 0 ≤ ((((N 2) * x5) + x4) - ((N 2) * x2)) then ((((N 2) * x5) + x4) - ((N 2) * x2)) else 0 - ((((N 2) * x5) + x4) - ((N 2) * x2))))) * (x4 + (N 1))) / ((m3 6 B 2 (mix (m3 20 B (mix x4) (mix x5)))) + (m3 6 B 2 (mix (m3 21 B (mix x4) (mix x5)))))))) r3))))))))))))))))))
    | _ => none
set_option maxRecDepth 100000 in
theorem RH196_18 (B : Nat) (L : mLc) : ∀ f : Nat, (∀ (x1 : Int32) (x2 : Int32) (x3 : Int32) (x4 : Int32) (mi : mMi) (rs : mRs) (l5 : Option mV) (_ : mC2 l5 = true) (l6 : Option mV) (_ : mC2 l6 = true) (D : Nat) (K : mOut → mH → Prop), 30 ≤ D → Ok (H196_18 B f 18 x1 x2 x3 x4 (N 0) mi rs) (L.1, L.2, none) K (WP (D + 1) 196 18 [some (mR 6 B 0), some (mI x1), some (mI x2), some (mI x3), some (mI x4), l5, l6] [] (hqc L mi rs) K)) ∧ (∀ (x1 : Int32) (x2 : Int32) (x3 : Int32) (x4 : Int32) (x5 : Int32) (mi : mMi) (rs : mRs) (l6 : Option mV) (_ : mC2 l6 = true) (D : Nat) (K : mOut → mH → Prop), 30 ≤ D → Ok (H196_18 B f 32 x1 x2 x3 x4 x5 mi rs) (L.1, L.2, none) K (WP (D + 1) 196 32 [some (mR 6 B 0), some (mI x1), some (mI x2), some (mI x3), some (mI x4), some (mI x5), l6] [] (hqc L mi rs) K)) := by
  intro f
  induction f with
  | zero => exact ⟨(by intro x1 x2 x3 x4 mi rs l5 hl5 l6 hl6 D K hD; exact Ok.no), (by intro x1 x2 x3 x4 x5 mi rs l6 hl6 D K hD; exact Ok.no)⟩
  | succ f ih =>
    refine ⟨?_, ?_⟩
    · intro x1 x2 x3 x4 mi rs l5 hl5 l6 hl6 D K hD
      unfold H196_18
      exact (Ok.gx fun hb0 => (Ok.mp (B196_18 hb0).mpr (Ok.gd (Ok.if (RH196_151 B L FU x1 x2 x3 x4 mi rs l5 hl5 l6 hl6 D K (by omega)) (Ok.mp (B196_29 hb0).mpr (ih.2 x1 x2 x3 x4 (N 0) mi rs l6 hl6 D K (by omega)))))))
    · intro x1 x2 x3 x4 x5 mi rs l6 hl6 D K hD
      unfold H196_18
      exact (Ok.gx fun hb0 => (Ok.mp (B196_32 hb0).mpr (Ok.gd (Ok.if (Ok.mp (B196_145 hb0).mpr (ih.1 x1 x2 x3 (x4 + (N 1)) mi rs (some (mI x5)) rfl l6 hl6 D K (by omega))) (Ok.mp (B196_46 hb0).mpr (Ok.gd (Ok.callI (RH178 B L x4 x5 mi rs) (by omega) fun v3 m3 r3 => (Ok.gx fun hb3 => (Ok.mp (B196_84 hb3).mpr (Ok.if (Ok.mp (B196_139 hb3).mpr (ih.2 x1 x2 x3 x4 (x5 + (N 1)) m3 r3 (some (mI ((x1 - ((mi 6 B 1 3) * (if 0 ≤ ((((N 2) * x5) + x4) - ((N 2) * x2)) then ((((N 2) * x5) + x4) - ((N 2) * x2)) else 0 - ((((N 2) * x5) + x4) - ((N 2) * x2))))) * (x4 + (N 1))))) rfl D K (by omega))) (Ok.mp (B196_87 hb3).mpr (Ok.if (Ok.mp (B196_139 hb3).mpr (ih.2 x1 x2 x3 x4 (x5 + (N 1)) m3 r3 (some (mI ((x1 - ((mi 6 B 1 3) * (if 0 ≤ ((((N 2) * x5) + x4) - ((N 2) * x2)) then ((((N 2) * x5) + x4) - ((N 2) * x2)) else 0 - ((((N 2) * x5) + x4) - ((N 2) * x2))))) * (x4 + (N 1))))) rfl D K (by omega))) (Ok.mp (B196_92 hb3).mpr (Ok.gd (Ok.gd (Ok.gd (Ok.gd (Ok.gd (Ok.gd (Ok.gd (Ok.gd (Ok.gd (Ok.gd (ih.2 x1 x2 x3 x4 (x5 + (N 1)) (mset m3 23 B (mix x4) (mix x5) ((m3 23 B (mix x4) (mix x5)) + (((x1 - ((mi 6 B 1 3) * (if 0 ≤ ((((N 2) * x5) + x4) - ((N 2) * x2)) then ((((N 2) * x5) + x4) - ((N 2) * x2)) else 0 - ((((N 2) * x5) + x4) - ((N 2) * x2))))) * (x4 + (N 1))) / ((m3 6 B 2 (mix (m3 20 B (mix x4) (mix x5)))) + (m3 6 B 2 (mix (m3 21 B (mix x4) (mix x5)))))))) r3 (some (mI ((x1 - ((mi 6 B 1 3) * (if 0 ≤ ((((N 2) * x5) + x4) - ((N 2) * x2)) then ((((N 2) * x5) + x4) - ((N 2) * x2)) else 0 - ((((N 2) * x5) + x4) - ((N 2) * x2))))) * (x4 + (N 1))))) rfl D K (by omega)))))))))))))))))))))))))
def H196 (B : Nat) (x1 : Int32) (x2 : Int32) (mi : mMi) (rs : mRs) : mRz := mckO (rs.2.1.1 B) (H196_18 B FU 18 x1 x2 (mi 6 B 0 20) (N 0) (N 0) (mset mi 6 B 0 21 ((mi 6 B 0 21) + (N 1))) rs)
set_option maxRecDepth 100000 in
theorem RH196 (B : Nat) (L : mLc) (x1 : Int32) (x2 : Int32) (mi : mMi) (rs : mRs) : Does 196 [mR 6 B 0, mI x1, mI x2] (L.1, L.2, none) mi rs (H196 B x1 x2 mi rs) 31 :=
  Does.of fun D K hD => (Ok.gx fun hb0 => (Ok.mp (B196_0 hb0).mpr ((RH196_18 B L FU).1 x1 x2 (mi 6 B 0 20) (N 0) (mset mi 6 B 0 21 ((mi 6 B 0 21) + (N 1))) rs none rfl none rfl D K (by omega))))
def H197 (B : Nat) (x1 : Int32) (mi : mMi) (rs : mRs) : mRz := mckO (rs.2.1.1 B) (mckO (mIn x1 40) (mifO (decide ((mi 6 B 4 (mix x1)) ≠ (N 3))) (mckO (mIn x1 40) (mckO (mIn x1 40) (bV (H191 B (mi 6 B 5 (mix x1)) (mi 6 B 6 (mix x1)) (N 3) x1 mi rs) (fun m1 r1 => mckO (r1.2.1.1 B) (bV (H185 B m1 r1) (fun m2 r2 => mckO (r2.2.1.1 B) (some (.inl (some (mI ((m2 6 B 0 20) - (mi 6 B 0 20)))), m2, r2)))))))) (mckO (mIn x1 40) (mckO (mIn x1 40) (bV (H194 B (mi 6 B 5 (mix x1)) (mi 6 B 6 (mix x1)) (N 3) x1 mi rs) (fun m3 r3 => mckO (r3.2.1.1 B) (bV (H185 B m3 r3) (fun m4 r4 => mckO (r4.2.1.1 B) (some (.inl (some (mI ((m4 6 B 0 20) - (mi 6 B 0 20)))), m4, r4))))))))))
set_option maxRecDepth 100000 in
theorem RH197 (B : Nat) (L : mLc) (x1 : Int32) (mi : mMi) (rs : mRs) : Does 197 [mR 6 B 0, mI x1] (L.1, L.2, none) mi rs (H197 B x1 mi rs) 31 :=
  Does.of fun D K hD => (Ok.gx fun hb0 => (Ok.mp (B197_0 hb0).mpr (Ok.gd (Ok.if (Ok.mp (B197_36 hb0).mpr (Ok.gd (Ok.gd (Ok.callV (RH191 B L (mi 6 B 5 (mix x1)) (mi 6 B 6 (mix x1)) (N 3) x1 mi rs) (by omega) fun m1 r1 => (Ok.gx fun hb1 => (Ok.mp (B197_54 hb1).mpr (Ok.callV (RH185 B L m1 r1) (by omega) fun m2 r2 => (Ok.gx fun hb2 => (Ok.mp (B197_58 hb2).mpr Ok.leaf))))))))) (Ok.mp (B197_15 hb0).mpr (Ok.gd (Ok.gd (Ok.callV (RH194 B L (mi 6 B 5 (mix x1)) (mi 6 B 6 (mix x1)) (N 3) x1 mi rs) (by omega) fun m3 r3 => (Ok.gx fun hb3 => (Ok.mp (B197_33 hb3).mpr (Ok.mp (B197_54 hb3).mpr (Ok.callV (RH185 B L m3 r3) (by omega) fun m4 r4 => (Ok.gx fun hb4 => (Ok.mp (B197_58 hb4).mpr Ok.leaf))))))))))))))
