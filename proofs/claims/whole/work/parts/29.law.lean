/-! THE LAW'S WRAPPERS AS FUNCTIONS, by program. -/
def bH (r : mRz) (tab : Nat → Option (Nat × Nat)) (k : Option mV → mMi → mRs → mRz) (kx : Nat → mMi → mRs → mRz) : mRz := match r with
  | some (.inl v, mi, rs) => k v mi rs
  | some (.inr E, mi, rs) => match tab E with
    | none => some (.inr E, mi, rs)
    | some (pc2, _) => kx pc2 mi rs
  | none => none
def kI (k : Int32 → mMi → mRs → mRz) (v : Option mV) (mi : mMi) (rs : mRs) : mRz := match v with
  | some (.inl x) => k x mi rs
  | _ => none
def kF (k : UInt32 → mMi → mRs → mRz) (v : Option mV) (mi : mMi) (rs : mRs) : mRz := match v with
  | some (.inr (.inr (.inr (.inl x)))) => k x mi rs
  | _ => none
def kD (k : UInt64 → mMi → mRs → mRz) (v : Option mV) (mi : mMi) (rs : mRs) : mRz := match v with
  | some (.inr (.inr (.inr (.inr x)))) => k x mi rs
  | _ => none
def mHq (n : Nat) : List (Nat × Nat) := ((mLook mHndL n).getD []).map (fun z => (z.2.2.2.1, z.2.2.2.2))
theorem mHndF_mem {l : List (Nat × Nat × Nat × Nat × Nat)} {pc E : Nat} {q : Nat × Nat} (h : mHndF l pc E = some q) : q ∈ l.map (fun z => (z.2.2.2.1, z.2.2.2.2)) := by
  induction l with
  | nil => cases h
  | cons z r ih =>
    obtain ⟨a, b, E', pc2, k⟩ := z
    unfold mHndF at h
    split at h
    · cases h; exact List.mem_cons_self
    · exact List.mem_cons_of_mem _ (ih h)
theorem mHnd_mem {n pc E : Nat} {q : Nat × Nat} (h : mHnd n pc E = some q) : q ∈ mHq n := by
  unfold mHnd at h
  unfold mHq
  cases hl : mLook mHndL n with
  | none => rw [hl] at h; cases h
  | some l => rw [hl] at h; exact mHndF_mem h
theorem Ok.callH {r : mRz} {k : Option mV → mMi → mRs → mRz} {kx : Nat → mMi → mRs → mRz} {L D d n pc0 pc y : Nat} {as : List mV} {lo : mLo} {st : mSt} {mi : mMi} {rs : mRs} {K : mOut → mH → Prop} (hR : Does y as L mi rs r d) (hD : d ≤ D) (hk : ∀ v mi rs, Ok (k v mi rs) L K (WP (D + 1) n pc lo (v.toList ++ st) (hp L mi rs) K))
    (hx : ∀ E q, mHnd n pc0 E = some q → (Nat.blt q.2 lo.length && mOkSt lo q.2) = true ∧ ∀ mi rs, Ok (kx q.1 mi rs) L K (WP (D + 1) n q.1 (lo.set q.2 none) [] (hp L mi rs) K)) :
    Ok (bH r (mHnd n pc0) k kx) L K (WP D y 0 (mEntry y as) [] (hp L mi rs) (BkH (D + 1) n pc0 pc lo st K)) := fun z e kk => by
  unfold bH at e
  split at e
  · exact hR _ rfl D _ hD (hk _ _ _ z e kk)
  · rename_i E m1 r1
    refine hR _ rfl D _ hD ?_
    unfold BkH
    dsimp only
    cases hh : mHnd n pc0 E with
    | none => rw [hh] at e; cases e; exact kk
    | some q =>
      obtain ⟨g1, g2⟩ := hx E q hh
      obtain ⟨pc2, i⟩ := q
      rw [hh] at e
      dsimp only at e ⊢
      rw [g1]
      exact g2 m1 r1 z e kk
  · cases e
theorem Ok.kI {k : Int32 → mMi → mRs → mRz} {L D n pc : Nat} {lo : mLo} {st : mSt} {K : mOut → mH → Prop} (h : ∀ x mi rs, Ok (k x mi rs) L K (WP (D + 1) n pc lo (mI x :: st) (hp L mi rs) K)) : ∀ v mi rs, Ok (kI k v mi rs) L K (WP (D + 1) n pc lo (v.toList ++ st) (hp L mi rs) K) := fun v mi rs => by
  rcases v with _ | x | x | x | x | x
  · exact Ok.no
  · exact h x mi rs
  · exact Ok.no
  · exact Ok.no
  · exact Ok.no
  · exact Ok.no
theorem Ok.kF {k : UInt32 → mMi → mRs → mRz} {L D n pc : Nat} {lo : mLo} {st : mSt} {K : mOut → mH → Prop} (h : ∀ x mi rs, Ok (k x mi rs) L K (WP (D + 1) n pc lo (mF x :: st) (hp L mi rs) K)) : ∀ v mi rs, Ok (kF k v mi rs) L K (WP (D + 1) n pc lo (v.toList ++ st) (hp L mi rs) K) := fun v mi rs => by
  rcases v with _ | x | x | x | x | x
  · exact Ok.no
  · exact Ok.no
  · exact Ok.no
  · exact Ok.no
  · exact h x mi rs
  · exact Ok.no
theorem Ok.kD {k : UInt64 → mMi → mRs → mRz} {L D n pc : Nat} {lo : mLo} {st : mSt} {K : mOut → mH → Prop} (h : ∀ x mi rs, Ok (k x mi rs) L K (WP (D + 1) n pc lo (mD x :: st) (hp L mi rs) K)) : ∀ v mi rs, Ok (kD k v mi rs) L K (WP (D + 1) n pc lo (v.toList ++ st) (hp L mi rs) K) := fun v mi rs => by
  rcases v with _ | x | x | x | x | x
  · exact Ok.no
  · exact Ok.no
  · exact Ok.no
  · exact Ok.no
  · exact Ok.no
  · exact h x mi rs
theorem mH1 {n pc : Nat} {q₁ : Nat × Nat} {P : Nat × Nat → Prop} (h₁ : mHq n = [q₁]) (p₁ : P q₁) : ∀ E q, mHnd n pc E = some q → P q := fun E q e₁ => by
  have m₁ := mHnd_mem e₁
  rw [h₁] at m₁
  cases m₁ with
  | head => exact p₁
  | tail _ m₂ => cases m₂
theorem mH2 {n pc : Nat} {q₁ q₂ : Nat × Nat} {P : Nat × Nat → Prop} (h₁ : mHq n = [q₁, q₂]) (p₁ : P q₁) (p₂ : P q₂) : ∀ E q, mHnd n pc E = some q → P q := fun E q e₁ => by
  have m₁ := mHnd_mem e₁
  rw [h₁] at m₁
  cases m₁ with
  | head => exact p₁
  | tail _ m₂ => cases m₂ with
    | head => exact p₂
    | tail _ m₃ => cases m₃
theorem mH3 {n pc : Nat} {q₁ q₂ q₃ : Nat × Nat} {P : Nat × Nat → Prop} (h₁ : mHq n = [q₁, q₂, q₃]) (p₁ : P q₁) (p₂ : P q₂) (p₃ : P q₃) : ∀ E q, mHnd n pc E = some q → P q := fun E q e₁ => by
  have m₁ := mHnd_mem e₁
  rw [h₁] at m₁
  cases m₁ with
  | head => exact p₁
  | tail _ m₂ => cases m₂ with
    | head => exact p₂
    | tail _ m₃ => cases m₃ with
      | head => exact p₃
      | tail _ m₄ => cases m₄
def F309 (x1 : Int32) (mi : mMi) (rs : mRs) : mRz := bH (F104 x1 mi rs) (mHnd 309 4) (kI fun v1 m1 r1 => mckO (mIn (N 0) 1 && true && true && true) (some (.inl (some (mI (N 0))), m1, ((vp_updL (r1).1 (mix (N 0)) (Int32.toInt64 v1)), (r1).2.1, (r1).2.2)))) (fun p9 => match p9 with | 13 => fun m1 r1 => some (.inl (some (mI (N 1))), m1, r1) | 16 => fun m1 r1 => some (.inl (some (mI (N 2))), m1, r1) | _ => fun _ _ => none)
set_option maxRecDepth 100000 in
theorem R309 (L : Nat) (x1 : Int32) (mi : mMi) (rs : mRs) : Does 309 [mR 2 0 0, mI x1, mR 5 0 0] L mi rs (F309 x1 mi rs) 26 :=
  Does.of fun D K hD => (Ok.mp (B309_0).mpr (Ok.callH (R104 L x1 mi rs) (by omega) (Ok.kI fun v1 m1 r1 => (Ok.mp (B309_7 (ml := (r1).1) (md := (r1).2.1) (rs := (r1).2.2)).mpr (Ok.gd (Ok.mp (B309_18).mpr Ok.leaf)))) (mH2 (q₁ := (13, 3)) (q₂ := (16, 3)) rfl ⟨rfl, fun m1 r1 => (Ok.mp (B309_13).mpr Ok.leaf)⟩ ⟨rfl, fun m1 r1 => (Ok.mp (B309_16).mpr Ok.leaf)⟩)))
def F310 (x1 : Int32) (mi : mMi) (rs : mRs) : mRz := bH (F113 x1 mi rs) (mHnd 310 4) (kI fun v1 m1 r1 => mckO (mIn (N 0) 1 && true && true && true) (some (.inl (some (mI (N 0))), m1, ((vp_updL (r1).1 (mix (N 0)) (Int32.toInt64 v1)), (r1).2.1, (r1).2.2)))) (fun p9 => match p9 with | 13 => fun m1 r1 => some (.inl (some (mI (N 1))), m1, r1) | 16 => fun m1 r1 => some (.inl (some (mI (N 2))), m1, r1) | _ => fun _ _ => none)
set_option maxRecDepth 100000 in
theorem R310 (L : Nat) (x1 : Int32) (mi : mMi) (rs : mRs) : Does 310 [mR 2 0 0, mI x1, mR 5 0 0] L mi rs (F310 x1 mi rs) 4 :=
  Does.of fun D K hD => (Ok.mp (B310_0).mpr (Ok.callH (R113 L x1 mi rs) (by omega) (Ok.kI fun v1 m1 r1 => (Ok.mp (B310_7 (ml := (r1).1) (md := (r1).2.1) (rs := (r1).2.2)).mpr (Ok.gd (Ok.mp (B310_18).mpr Ok.leaf)))) (mH2 (q₁ := (13, 3)) (q₂ := (16, 3)) rfl ⟨rfl, fun m1 r1 => (Ok.mp (B310_13).mpr Ok.leaf)⟩ ⟨rfl, fun m1 r1 => (Ok.mp (B310_16).mpr Ok.leaf)⟩)))
def F311 (x1 : Int32) (mi : mMi) (rs : mRs) : mRz := bH (F116 x1 mi rs) (mHnd 311 4) (kI fun v1 m1 r1 => mckO (mIn (N 0) 1 && true && true && true) (some (.inl (some (mI (N 0))), m1, ((vp_updL (r1).1 (mix (N 0)) (Int32.toInt64 v1)), (r1).2.1, (r1).2.2)))) (fun p9 => match p9 with | 13 => fun m1 r1 => some (.inl (some (mI (N 1))), m1, r1) | 16 => fun m1 r1 => some (.inl (some (mI (N 2))), m1, r1) | _ => fun _ _ => none)
set_option maxRecDepth 100000 in
theorem R311 (L : Nat) (x1 : Int32) (mi : mMi) (rs : mRs) : Does 311 [mR 2 0 0, mI x1, mR 5 0 0] L mi rs (F311 x1 mi rs) 4 :=
  Does.of fun D K hD => (Ok.mp (B311_0).mpr (Ok.callH (R116 L x1 mi rs) (by omega) (Ok.kI fun v1 m1 r1 => (Ok.mp (B311_7 (ml := (r1).1) (md := (r1).2.1) (rs := (r1).2.2)).mpr (Ok.gd (Ok.mp (B311_18).mpr Ok.leaf)))) (mH2 (q₁ := (13, 3)) (q₂ := (16, 3)) rfl ⟨rfl, fun m1 r1 => (Ok.mp (B311_13).mpr Ok.leaf)⟩ ⟨rfl, fun m1 r1 => (Ok.mp (B311_16).mpr Ok.leaf)⟩)))
def F312 (x1 : Int32) (mi : mMi) (rs : mRs) : mRz := bH (F118 x1 mi rs) (mHnd 312 4) (kI fun v1 m1 r1 => mckO (mIn (N 0) 1 && true && true && true) (some (.inl (some (mI (N 0))), m1, ((vp_updL (r1).1 (mix (N 0)) (Int32.toInt64 v1)), (r1).2.1, (r1).2.2)))) (fun p9 => match p9 with | 13 => fun m1 r1 => some (.inl (some (mI (N 1))), m1, r1) | 16 => fun m1 r1 => some (.inl (some (mI (N 2))), m1, r1) | _ => fun _ _ => none)
set_option maxRecDepth 100000 in
theorem R312 (L : Nat) (x1 : Int32) (mi : mMi) (rs : mRs) : Does 312 [mR 2 0 0, mI x1, mR 5 0 0] L mi rs (F312 x1 mi rs) 4 :=
  Does.of fun D K hD => (Ok.mp (B312_0).mpr (Ok.callH (R118 L x1 mi rs) (by omega) (Ok.kI fun v1 m1 r1 => (Ok.mp (B312_7 (ml := (r1).1) (md := (r1).2.1) (rs := (r1).2.2)).mpr (Ok.gd (Ok.mp (B312_18).mpr Ok.leaf)))) (mH2 (q₁ := (13, 3)) (q₂ := (16, 3)) rfl ⟨rfl, fun m1 r1 => (Ok.mp (B312_13).mpr Ok.leaf)⟩ ⟨rfl, fun m1 r1 => (Ok.mp (B312_16).mpr Ok.leaf)⟩)))
def F313 (x1 : Int32) (x2 : Int32) (mi : mMi) (rs : mRs) : mRz := bH (F119 x1 x2 mi rs) (mHnd 313 5) (kI fun v1 m1 r1 => mckO (mIn (N 0) 1 && true && true && true) (some (.inl (some (mI (N 0))), m1, ((vp_updL (r1).1 (mix (N 0)) (Int32.toInt64 v1)), (r1).2.1, (r1).2.2)))) (fun p9 => match p9 with | 15 => fun m1 r1 => some (.inl (some (mI (N 1))), m1, r1) | 19 => fun m1 r1 => some (.inl (some (mI (N 2))), m1, r1) | 23 => fun m1 r1 => some (.inl (some (mI (N 3))), m1, r1) | _ => fun _ _ => none)
set_option maxRecDepth 100000 in
theorem R313 (L : Nat) (x1 : Int32) (x2 : Int32) (mi : mMi) (rs : mRs) : Does 313 [mR 2 0 0, mI x1, mI x2, mR 5 0 0] L mi rs (F313 x1 x2 mi rs) 5 :=
  Does.of fun D K hD => (Ok.mp (B313_0).mpr (Ok.callH (R119 L x1 x2 mi rs) (by omega) (Ok.kI fun v1 m1 r1 => (Ok.mp (B313_8 (ml := (r1).1) (md := (r1).2.1) (rs := (r1).2.2)).mpr (Ok.gd (Ok.mp (B313_25).mpr Ok.leaf)))) (mH3 (q₁ := (15, 4)) (q₂ := (19, 4)) (q₃ := (23, 4)) rfl ⟨rfl, fun m1 r1 => (Ok.mp (B313_15).mpr Ok.leaf)⟩ ⟨rfl, fun m1 r1 => (Ok.mp (B313_19).mpr Ok.leaf)⟩ ⟨rfl, fun m1 r1 => (Ok.mp (B313_23).mpr Ok.leaf)⟩)))
def F314 (x1 : Int32) (x2 : Int32) (x3 : Int32) (mi : mMi) (rs : mRs) : mRz := bH (F121 x1 x2 x3 mi rs) (mHnd 314 7) (kI fun v1 m1 r1 => mckO (mIn (N 0) 1 && true && true && true) (some (.inl (some (mI (N 0))), m1, ((vp_updL (r1).1 (mix (N 0)) (Int32.toInt64 v1)), (r1).2.1, (r1).2.2)))) (fun p9 => match p9 with | 17 => fun m1 r1 => some (.inl (some (mI (N 1))), m1, r1) | 21 => fun m1 r1 => some (.inl (some (mI (N 2))), m1, r1) | 25 => fun m1 r1 => some (.inl (some (mI (N 3))), m1, r1) | _ => fun _ _ => none)
set_option maxRecDepth 100000 in
theorem R314 (L : Nat) (x1 : Int32) (x2 : Int32) (x3 : Int32) (mi : mMi) (rs : mRs) : Does 314 [mR 2 0 0, mI x1, mI x2, mI x3, mR 5 0 0] L mi rs (F314 x1 x2 x3 mi rs) 6 :=
  Does.of fun D K hD => (Ok.mp (B314_0).mpr (Ok.callH (R121 L x1 x2 x3 mi rs) (by omega) (Ok.kI fun v1 m1 r1 => (Ok.mp (B314_10 (ml := (r1).1) (md := (r1).2.1) (rs := (r1).2.2)).mpr (Ok.gd (Ok.mp (B314_27).mpr Ok.leaf)))) (mH3 (q₁ := (17, 5)) (q₂ := (21, 5)) (q₃ := (25, 5)) rfl ⟨rfl, fun m1 r1 => (Ok.mp (B314_17).mpr Ok.leaf)⟩ ⟨rfl, fun m1 r1 => (Ok.mp (B314_21).mpr Ok.leaf)⟩ ⟨rfl, fun m1 r1 => (Ok.mp (B314_25).mpr Ok.leaf)⟩)))
def F315 (x1 : Int32) (x2 : Int32) (x3 : Int32) (mi : mMi) (rs : mRs) : mRz := bH (F123 x1 x2 x3 mi rs) (mHnd 315 7) (kI fun v1 m1 r1 => mckO (mIn (N 0) 1 && true && true && true) (some (.inl (some (mI (N 0))), m1, ((vp_updL (r1).1 (mix (N 0)) (Int32.toInt64 v1)), (r1).2.1, (r1).2.2)))) (fun p9 => match p9 with | 17 => fun m1 r1 => some (.inl (some (mI (N 1))), m1, r1) | 21 => fun m1 r1 => some (.inl (some (mI (N 2))), m1, r1) | 25 => fun m1 r1 => some (.inl (some (mI (N 3))), m1, r1) | _ => fun _ _ => none)
set_option maxRecDepth 100000 in
theorem R315 (L : Nat) (x1 : Int32) (x2 : Int32) (x3 : Int32) (mi : mMi) (rs : mRs) : Does 315 [mR 2 0 0, mI x1, mI x2, mI x3, mR 5 0 0] L mi rs (F315 x1 x2 x3 mi rs) 6 :=
  Does.of fun D K hD => (Ok.mp (B315_0).mpr (Ok.callH (R123 L x1 x2 x3 mi rs) (by omega) (Ok.kI fun v1 m1 r1 => (Ok.mp (B315_10 (ml := (r1).1) (md := (r1).2.1) (rs := (r1).2.2)).mpr (Ok.gd (Ok.mp (B315_27).mpr Ok.leaf)))) (mH3 (q₁ := (17, 5)) (q₂ := (21, 5)) (q₃ := (25, 5)) rfl ⟨rfl, fun m1 r1 => (Ok.mp (B315_17).mpr Ok.leaf)⟩ ⟨rfl, fun m1 r1 => (Ok.mp (B315_21).mpr Ok.leaf)⟩ ⟨rfl, fun m1 r1 => (Ok.mp (B315_25).mpr Ok.leaf)⟩)))
def F316 (x1 : Int32) (x2 : Int32) (mi : mMi) (rs : mRs) : mRz := bH (F124 x1 x2 mi rs) (mHnd 316 5) (kI fun v1 m1 r1 => mckO (mIn (N 0) 1 && true && true && true) (some (.inl (some (mI (N 0))), m1, ((vp_updL (r1).1 (mix (N 0)) (Int32.toInt64 v1)), (r1).2.1, (r1).2.2)))) (fun p9 => match p9 with | 15 => fun m1 r1 => some (.inl (some (mI (N 1))), m1, r1) | 19 => fun m1 r1 => some (.inl (some (mI (N 2))), m1, r1) | 23 => fun m1 r1 => some (.inl (some (mI (N 3))), m1, r1) | _ => fun _ _ => none)
set_option maxRecDepth 100000 in
theorem R316 (L : Nat) (x1 : Int32) (x2 : Int32) (mi : mMi) (rs : mRs) : Does 316 [mR 2 0 0, mI x1, mI x2, mR 5 0 0] L mi rs (F316 x1 x2 mi rs) 4 :=
  Does.of fun D K hD => (Ok.mp (B316_0).mpr (Ok.callH (R124 L x1 x2 mi rs) (by omega) (Ok.kI fun v1 m1 r1 => (Ok.mp (B316_8 (ml := (r1).1) (md := (r1).2.1) (rs := (r1).2.2)).mpr (Ok.gd (Ok.mp (B316_25).mpr Ok.leaf)))) (mH3 (q₁ := (15, 4)) (q₂ := (19, 4)) (q₃ := (23, 4)) rfl ⟨rfl, fun m1 r1 => (Ok.mp (B316_15).mpr Ok.leaf)⟩ ⟨rfl, fun m1 r1 => (Ok.mp (B316_19).mpr Ok.leaf)⟩ ⟨rfl, fun m1 r1 => (Ok.mp (B316_23).mpr Ok.leaf)⟩)))
def F317 (x1 : Int32) (mi : mMi) (rs : mRs) : mRz := bH (F125 x1 mi rs) (mHnd 317 4) (kI fun v1 m1 r1 => mckO (mIn (N 0) 1 && true && true && true) (some (.inl (some (mI (N 0))), m1, ((vp_updL (r1).1 (mix (N 0)) (Int32.toInt64 v1)), (r1).2.1, (r1).2.2)))) (fun p9 => match p9 with | 13 => fun m1 r1 => some (.inl (some (mI (N 1))), m1, r1) | 16 => fun m1 r1 => some (.inl (some (mI (N 2))), m1, r1) | _ => fun _ _ => none)
set_option maxRecDepth 100000 in
theorem R317 (L : Nat) (x1 : Int32) (mi : mMi) (rs : mRs) : Does 317 [mR 2 0 0, mI x1, mR 5 0 0] L mi rs (F317 x1 mi rs) 4 :=
  Does.of fun D K hD => (Ok.mp (B317_0).mpr (Ok.callH (R125 L x1 mi rs) (by omega) (Ok.kI fun v1 m1 r1 => (Ok.mp (B317_7 (ml := (r1).1) (md := (r1).2.1) (rs := (r1).2.2)).mpr (Ok.gd (Ok.mp (B317_18).mpr Ok.leaf)))) (mH2 (q₁ := (13, 3)) (q₂ := (16, 3)) rfl ⟨rfl, fun m1 r1 => (Ok.mp (B317_13).mpr Ok.leaf)⟩ ⟨rfl, fun m1 r1 => (Ok.mp (B317_16).mpr Ok.leaf)⟩)))
def F318 (x1 : Int32) (mi : mMi) (rs : mRs) : mRz := bH (F126 x1 mi rs) (mHnd 318 4) (kI fun v1 m1 r1 => mckO (mIn (N 0) 1 && true && true && true) (some (.inl (some (mI (N 0))), m1, ((vp_updL (r1).1 (mix (N 0)) (Int32.toInt64 v1)), (r1).2.1, (r1).2.2)))) (fun p9 => match p9 with | 13 => fun m1 r1 => some (.inl (some (mI (N 1))), m1, r1) | 16 => fun m1 r1 => some (.inl (some (mI (N 2))), m1, r1) | _ => fun _ _ => none)
set_option maxRecDepth 100000 in
theorem R318 (L : Nat) (x1 : Int32) (mi : mMi) (rs : mRs) : Does 318 [mR 2 0 0, mI x1, mR 5 0 0] L mi rs (F318 x1 mi rs) 4 :=
  Does.of fun D K hD => (Ok.mp (B318_0).mpr (Ok.callH (R126 L x1 mi rs) (by omega) (Ok.kI fun v1 m1 r1 => (Ok.mp (B318_7 (ml := (r1).1) (md := (r1).2.1) (rs := (r1).2.2)).mpr (Ok.gd (Ok.mp (B318_18).mpr Ok.leaf)))) (mH2 (q₁ := (13, 3)) (q₂ := (16, 3)) rfl ⟨rfl, fun m1 r1 => (Ok.mp (B318_13).mpr Ok.leaf)⟩ ⟨rfl, fun m1 r1 => (Ok.mp (B318_16).mpr Ok.leaf)⟩)))
def F319 (x1 : Int32) (x2 : Int32) (mi : mMi) (rs : mRs) : mRz := bH (F127 x1 x2 mi rs) (mHnd 319 5) (kI fun v1 m1 r1 => mifO (decide (v1 = (N 0))) (mckO (mIn (N 0) 1 && true && true && true) (some (.inl (some (mI (N 0))), m1, ((vp_updL (r1).1 (mix (N 0)) (0 : Int64)), (r1).2.1, (r1).2.2)))) (mckO (mIn (N 0) 1 && true && true && true) (some (.inl (some (mI (N 0))), m1, ((vp_updL (r1).1 (mix (N 0)) (1 : Int64)), (r1).2.1, (r1).2.2))))) (fun p9 => match p9 with | 22 => fun m1 r1 => some (.inl (some (mI (N 1))), m1, r1) | 26 => fun m1 r1 => some (.inl (some (mI (N 2))), m1, r1) | _ => fun _ _ => none)
set_option maxRecDepth 100000 in
theorem R319 (L : Nat) (x1 : Int32) (x2 : Int32) (mi : mMi) (rs : mRs) : Does 319 [mR 2 0 0, mI x1, mI x2, mR 5 0 0] L mi rs (F319 x1 x2 mi rs) 6 :=
  Does.of fun D K hD => (Ok.mp (B319_0).mpr (Ok.callH (R127 L x1 x2 mi rs) (by omega) (Ok.kI fun v1 m1 r1 => (Ok.mp (B319_8).mpr (Ok.if (Ok.mp (B319_15).mpr (Ok.mp (B319_16 (ml := (r1).1) (md := (r1).2.1) (rs := (r1).2.2)).mpr (Ok.gd (Ok.mp (B319_28).mpr Ok.leaf)))) (Ok.mp (B319_11).mpr (Ok.mp (B319_16 (ml := (r1).1) (md := (r1).2.1) (rs := (r1).2.2)).mpr (Ok.gd (Ok.mp (B319_28).mpr Ok.leaf))))))) (mH2 (q₁ := (22, 4)) (q₂ := (26, 4)) rfl ⟨rfl, fun m1 r1 => (Ok.mp (B319_22).mpr Ok.leaf)⟩ ⟨rfl, fun m1 r1 => (Ok.mp (B319_26).mpr Ok.leaf)⟩)))
def F320 (x1 : Int32) (x2 : Int32) (mi : mMi) (rs : mRs) : mRz := bH (F128 x1 x2 mi rs) (mHnd 320 5) (kI fun v1 m1 r1 => mifO (decide (v1 = (N 0))) (mckO (mIn (N 0) 1 && true && true && true) (some (.inl (some (mI (N 0))), m1, ((vp_updL (r1).1 (mix (N 0)) (0 : Int64)), (r1).2.1, (r1).2.2)))) (mckO (mIn (N 0) 1 && true && true && true) (some (.inl (some (mI (N 0))), m1, ((vp_updL (r1).1 (mix (N 0)) (1 : Int64)), (r1).2.1, (r1).2.2))))) (fun p9 => match p9 with | 22 => fun m1 r1 => some (.inl (some (mI (N 1))), m1, r1) | 26 => fun m1 r1 => some (.inl (some (mI (N 2))), m1, r1) | _ => fun _ _ => none)
set_option maxRecDepth 100000 in
theorem R320 (L : Nat) (x1 : Int32) (x2 : Int32) (mi : mMi) (rs : mRs) : Does 320 [mR 2 0 0, mI x1, mI x2, mR 5 0 0] L mi rs (F320 x1 x2 mi rs) 6 :=
  Does.of fun D K hD => (Ok.mp (B320_0).mpr (Ok.callH (R128 L x1 x2 mi rs) (by omega) (Ok.kI fun v1 m1 r1 => (Ok.mp (B320_8).mpr (Ok.if (Ok.mp (B320_15).mpr (Ok.mp (B320_16 (ml := (r1).1) (md := (r1).2.1) (rs := (r1).2.2)).mpr (Ok.gd (Ok.mp (B320_28).mpr Ok.leaf)))) (Ok.mp (B320_11).mpr (Ok.mp (B320_16 (ml := (r1).1) (md := (r1).2.1) (rs := (r1).2.2)).mpr (Ok.gd (Ok.mp (B320_28).mpr Ok.leaf))))))) (mH2 (q₁ := (22, 4)) (q₂ := (26, 4)) rfl ⟨rfl, fun m1 r1 => (Ok.mp (B320_22).mpr Ok.leaf)⟩ ⟨rfl, fun m1 r1 => (Ok.mp (B320_26).mpr Ok.leaf)⟩)))
def F321 (mi : mMi) (rs : mRs) : mRz := bH (F129 mi rs) (mHnd 321 3) (kI fun v1 m1 r1 => mckO (mIn (N 0) 1 && true && true && true) (some (.inl (some (mI (N 0))), m1, ((vp_updL (r1).1 (mix (N 0)) (Int32.toInt64 v1)), (r1).2.1, (r1).2.2)))) (fun p9 => match p9 with | 12 => fun m1 r1 => some (.inl (some (mI (N 1))), m1, r1) | _ => fun _ _ => none)
set_option maxRecDepth 100000 in
theorem R321 (L : Nat) (mi : mMi) (rs : mRs) : Does 321 [mR 2 0 0, mR 5 0 0] L mi rs (F321  mi rs) 4 :=
  Does.of fun D K hD => (Ok.mp (B321_0).mpr (Ok.callH (R129 L mi rs) (by omega) (Ok.kI fun v1 m1 r1 => (Ok.mp (B321_6 (ml := (r1).1) (md := (r1).2.1) (rs := (r1).2.2)).mpr (Ok.gd (Ok.mp (B321_14).mpr Ok.leaf)))) (mH1 (q₁ := (12, 2)) rfl ⟨rfl, fun m1 r1 => (Ok.mp (B321_12).mpr Ok.leaf)⟩)))
def F322 (mi : mMi) (rs : mRs) : mRz := bH (F130 mi rs) (mHnd 322 3) (kI fun v1 m1 r1 => mckO (mIn (N 0) 1 && true && true && true) (some (.inl (some (mI (N 0))), m1, ((vp_updL (r1).1 (mix (N 0)) (Int32.toInt64 v1)), (r1).2.1, (r1).2.2)))) (fun p9 => match p9 with | 12 => fun m1 r1 => some (.inl (some (mI (N 1))), m1, r1) | _ => fun _ _ => none)
set_option maxRecDepth 100000 in
theorem R322 (L : Nat) (mi : mMi) (rs : mRs) : Does 322 [mR 2 0 0, mR 5 0 0] L mi rs (F322  mi rs) 7 :=
  Does.of fun D K hD => (Ok.mp (B322_0).mpr (Ok.callH (R130 L mi rs) (by omega) (Ok.kI fun v1 m1 r1 => (Ok.mp (B322_6 (ml := (r1).1) (md := (r1).2.1) (rs := (r1).2.2)).mpr (Ok.gd (Ok.mp (B322_14).mpr Ok.leaf)))) (mH1 (q₁ := (12, 2)) rfl ⟨rfl, fun m1 r1 => (Ok.mp (B322_12).mpr Ok.leaf)⟩)))
def F323 (mi : mMi) (rs : mRs) : mRz := bH (F132 mi rs) (mHnd 323 3) (kI fun v1 m1 r1 => mckO (mIn (N 0) 1 && true && true && true) (some (.inl (some (mI (N 0))), m1, ((vp_updL (r1).1 (mix (N 0)) (Int32.toInt64 v1)), (r1).2.1, (r1).2.2)))) (fun p9 => match p9 with | 12 => fun m1 r1 => some (.inl (some (mI (N 1))), m1, r1) | _ => fun _ _ => none)
set_option maxRecDepth 100000 in
theorem R323 (L : Nat) (mi : mMi) (rs : mRs) : Does 323 [mR 2 0 0, mR 5 0 0] L mi rs (F323  mi rs) 4 :=
  Does.of fun D K hD => (Ok.mp (B323_0).mpr (Ok.callH (R132 L mi rs) (by omega) (Ok.kI fun v1 m1 r1 => (Ok.mp (B323_6 (ml := (r1).1) (md := (r1).2.1) (rs := (r1).2.2)).mpr (Ok.gd (Ok.mp (B323_14).mpr Ok.leaf)))) (mH1 (q₁ := (12, 2)) rfl ⟨rfl, fun m1 r1 => (Ok.mp (B323_12).mpr Ok.leaf)⟩)))
def F324 (x1 : Int32) (x2 : Int32) (mi : mMi) (rs : mRs) : mRz := bH (F133 x1 x2 mi rs) (mHnd 324 5) (kI fun v1 m1 r1 => mckO (mIn (N 0) 1 && true && true && true) (some (.inl (some (mI (N 0))), m1, ((vp_updL (r1).1 (mix (N 0)) (Int32.toInt64 v1)), (r1).2.1, (r1).2.2)))) (fun p9 => match p9 with | 15 => fun m1 r1 => some (.inl (some (mI (N 1))), m1, r1) | 19 => fun m1 r1 => some (.inl (some (mI (N 2))), m1, r1) | _ => fun _ _ => none)
set_option maxRecDepth 100000 in
theorem R324 (L : Nat) (x1 : Int32) (x2 : Int32) (mi : mMi) (rs : mRs) : Does 324 [mR 2 0 0, mI x1, mI x2, mR 5 0 0] L mi rs (F324 x1 x2 mi rs) 26 :=
  Does.of fun D K hD => (Ok.mp (B324_0).mpr (Ok.callH (R133 L x1 x2 mi rs) (by omega) (Ok.kI fun v1 m1 r1 => (Ok.mp (B324_8 (ml := (r1).1) (md := (r1).2.1) (rs := (r1).2.2)).mpr (Ok.gd (Ok.mp (B324_21).mpr Ok.leaf)))) (mH2 (q₁ := (15, 4)) (q₂ := (19, 4)) rfl ⟨rfl, fun m1 r1 => (Ok.mp (B324_15).mpr Ok.leaf)⟩ ⟨rfl, fun m1 r1 => (Ok.mp (B324_19).mpr Ok.leaf)⟩)))
def F325 (x1 : Int32) (x2 : Int32) (mi : mMi) (rs : mRs) : mRz := bH (F134 x1 x2 mi rs) (mHnd 325 5) (kI fun v1 m1 r1 => mckO (mIn (N 0) 1 && true && true && true) (some (.inl (some (mI (N 0))), m1, ((vp_updL (r1).1 (mix (N 0)) (Int32.toInt64 v1)), (r1).2.1, (r1).2.2)))) (fun p9 => match p9 with | 15 => fun m1 r1 => some (.inl (some (mI (N 1))), m1, r1) | 19 => fun m1 r1 => some (.inl (some (mI (N 2))), m1, r1) | _ => fun _ _ => none)
set_option maxRecDepth 100000 in
theorem R325 (L : Nat) (x1 : Int32) (x2 : Int32) (mi : mMi) (rs : mRs) : Does 325 [mR 2 0 0, mI x1, mI x2, mR 5 0 0] L mi rs (F325 x1 x2 mi rs) 26 :=
  Does.of fun D K hD => (Ok.mp (B325_0).mpr (Ok.callH (R134 L x1 x2 mi rs) (by omega) (Ok.kI fun v1 m1 r1 => (Ok.mp (B325_8 (ml := (r1).1) (md := (r1).2.1) (rs := (r1).2.2)).mpr (Ok.gd (Ok.mp (B325_21).mpr Ok.leaf)))) (mH2 (q₁ := (15, 4)) (q₂ := (19, 4)) rfl ⟨rfl, fun m1 r1 => (Ok.mp (B325_15).mpr Ok.leaf)⟩ ⟨rfl, fun m1 r1 => (Ok.mp (B325_19).mpr Ok.leaf)⟩)))
def F326 (x1 : Int32) (mi : mMi) (rs : mRs) : mRz := bH (F135 x1 mi rs) (mHnd 326 4) (kI fun v1 m1 r1 => mckO (mIn (N 0) 1 && true && true && true) (some (.inl (some (mI (N 0))), m1, ((vp_updL (r1).1 (mix (N 0)) (Int32.toInt64 v1)), (r1).2.1, (r1).2.2)))) (fun p9 => match p9 with | 13 => fun m1 r1 => some (.inl (some (mI (N 1))), m1, r1) | 16 => fun m1 r1 => some (.inl (some (mI (N 2))), m1, r1) | _ => fun _ _ => none)
set_option maxRecDepth 100000 in
theorem R326 (L : Nat) (x1 : Int32) (mi : mMi) (rs : mRs) : Does 326 [mR 2 0 0, mI x1, mR 5 0 0] L mi rs (F326 x1 mi rs) 6 :=
  Does.of fun D K hD => (Ok.mp (B326_0).mpr (Ok.callH (R135 L x1 mi rs) (by omega) (Ok.kI fun v1 m1 r1 => (Ok.mp (B326_7 (ml := (r1).1) (md := (r1).2.1) (rs := (r1).2.2)).mpr (Ok.gd (Ok.mp (B326_18).mpr Ok.leaf)))) (mH2 (q₁ := (13, 3)) (q₂ := (16, 3)) rfl ⟨rfl, fun m1 r1 => (Ok.mp (B326_13).mpr Ok.leaf)⟩ ⟨rfl, fun m1 r1 => (Ok.mp (B326_16).mpr Ok.leaf)⟩)))
def F327 (mi : mMi) (rs : mRs) : mRz := bH (F136 mi rs) (mHnd 327 3) (kI fun v1 m1 r1 => mckO (mIn (N 0) 1 && true && true && true) (some (.inl (some (mI (N 0))), m1, ((vp_updL (r1).1 (mix (N 0)) (Int32.toInt64 v1)), (r1).2.1, (r1).2.2)))) (fun p9 => match p9 with | 12 => fun m1 r1 => some (.inl (some (mI (N 1))), m1, r1) | _ => fun _ _ => none)
set_option maxRecDepth 100000 in
theorem R327 (L : Nat) (mi : mMi) (rs : mRs) : Does 327 [mR 2 0 0, mR 5 0 0] L mi rs (F327  mi rs) 5 :=
  Does.of fun D K hD => (Ok.mp (B327_0).mpr (Ok.callH (R136 L mi rs) (by omega) (Ok.kI fun v1 m1 r1 => (Ok.mp (B327_6 (ml := (r1).1) (md := (r1).2.1) (rs := (r1).2.2)).mpr (Ok.gd (Ok.mp (B327_14).mpr Ok.leaf)))) (mH1 (q₁ := (12, 2)) rfl ⟨rfl, fun m1 r1 => (Ok.mp (B327_12).mpr Ok.leaf)⟩)))
def F328 (mi : mMi) (rs : mRs) : mRz := bH (F137 mi rs) (mHnd 328 3) (kD fun v1 m1 r1 => mckO (mIn (N 0) 1 && true && true && true) (some (.inl (some (mI (N 0))), m1, ((r1).1, (mUpdD (r1).2.1 (mix (N 0)) v1), (r1).2.2)))) (fun p9 => match p9 with | 11 => fun m1 r1 => some (.inl (some (mI (N 1))), m1, r1) | _ => fun _ _ => none)
set_option maxRecDepth 100000 in
theorem R328 (L : Nat) (mi : mMi) (rs : mRs) : Does 328 [mR 2 0 0, mR 5 1 0] L mi rs (F328  mi rs) 7 :=
  Does.of fun D K hD => (Ok.mp (B328_0).mpr (Ok.callH (R137 L mi rs) (by omega) (Ok.kD fun v1 m1 r1 => (Ok.mp (B328_6 (ml := (r1).1) (md := (r1).2.1) (rs := (r1).2.2)).mpr (Ok.gd (Ok.mp (B328_13).mpr Ok.leaf)))) (mH1 (q₁ := (11, 2)) rfl ⟨rfl, fun m1 r1 => (Ok.mp (B328_11).mpr Ok.leaf)⟩)))
def F329 (mi : mMi) (rs : mRs) : mRz := bH (F138 mi rs) (mHnd 329 3) (kF fun v1 m1 r1 => mckO (!(isNaN64 (FP.f2d v1))) (mckO (mIn (N 0) 1 && true && true && true) (some (.inl (some (mI (N 0))), m1, ((r1).1, (mUpdD (r1).2.1 (mix (N 0)) (FP.f2d v1)), (r1).2.2))))) (fun p9 => match p9 with | 12 => fun m1 r1 => some (.inl (some (mI (N 1))), m1, r1) | _ => fun _ _ => none)
set_option maxRecDepth 100000 in
theorem R329 (L : Nat) (mi : mMi) (rs : mRs) : Does 329 [mR 2 0 0, mR 5 1 0] L mi rs (F329  mi rs) 4 :=
  Does.of fun D K hD => (Ok.mp (B329_0).mpr (Ok.callH (R138 L mi rs) (by omega) (Ok.kF fun v1 m1 r1 => (Ok.mp (B329_6 (ml := (r1).1) (md := (r1).2.1) (rs := (r1).2.2)).mpr (Ok.gd (Ok.gd (Ok.mp (B329_14).mpr Ok.leaf))))) (mH1 (q₁ := (12, 2)) rfl ⟨rfl, fun m1 r1 => (Ok.mp (B329_12).mpr Ok.leaf)⟩)))
def F330 (x1 : Int32) (x2 : Int32) (x3 : Int32) (mi : mMi) (rs : mRs) : mRz := bH (F139 x1 x2 x3 mi rs) (mHnd 330 7) (kI fun v1 m1 r1 => mckO (mIn (N 0) 1 && true && true && true) (some (.inl (some (mI (N 0))), m1, ((vp_updL (r1).1 (mix (N 0)) (Int32.toInt64 v1)), (r1).2.1, (r1).2.2)))) (fun p9 => match p9 with | 17 => fun m1 r1 => some (.inl (some (mI (N 1))), m1, r1) | 21 => fun m1 r1 => some (.inl (some (mI (N 2))), m1, r1) | 25 => fun m1 r1 => some (.inl (some (mI (N 3))), m1, r1) | _ => fun _ _ => none)
set_option maxRecDepth 100000 in
theorem R330 (L : Nat) (x1 : Int32) (x2 : Int32) (x3 : Int32) (mi : mMi) (rs : mRs) : Does 330 [mR 2 0 0, mI x1, mI x2, mI x3, mR 5 0 0] L mi rs (F330 x1 x2 x3 mi rs) 5 :=
  Does.of fun D K hD => (Ok.mp (B330_0).mpr (Ok.callH (R139 L x1 x2 x3 mi rs) (by omega) (Ok.kI fun v1 m1 r1 => (Ok.mp (B330_10 (ml := (r1).1) (md := (r1).2.1) (rs := (r1).2.2)).mpr (Ok.gd (Ok.mp (B330_27).mpr Ok.leaf)))) (mH3 (q₁ := (17, 5)) (q₂ := (21, 5)) (q₃ := (25, 5)) rfl ⟨rfl, fun m1 r1 => (Ok.mp (B330_17).mpr Ok.leaf)⟩ ⟨rfl, fun m1 r1 => (Ok.mp (B330_21).mpr Ok.leaf)⟩ ⟨rfl, fun m1 r1 => (Ok.mp (B330_25).mpr Ok.leaf)⟩)))
def F331 (mi : mMi) (rs : mRs) : mRz := bH (F140 mi rs) (mHnd 331 3) (kI fun v1 m1 r1 => mckO (mIn (N 0) 1 && true && true && true) (some (.inl (some (mI (N 0))), m1, ((vp_updL (r1).1 (mix (N 0)) (Int32.toInt64 v1)), (r1).2.1, (r1).2.2)))) (fun p9 => match p9 with | 12 => fun m1 r1 => some (.inl (some (mI (N 1))), m1, r1) | _ => fun _ _ => none)
set_option maxRecDepth 100000 in
theorem R331 (L : Nat) (mi : mMi) (rs : mRs) : Does 331 [mR 2 0 0, mR 5 0 0] L mi rs (F331  mi rs) 4 :=
  Does.of fun D K hD => (Ok.mp (B331_0).mpr (Ok.callH (R140 L mi rs) (by omega) (Ok.kI fun v1 m1 r1 => (Ok.mp (B331_6 (ml := (r1).1) (md := (r1).2.1) (rs := (r1).2.2)).mpr (Ok.gd (Ok.mp (B331_14).mpr Ok.leaf)))) (mH1 (q₁ := (12, 2)) rfl ⟨rfl, fun m1 r1 => (Ok.mp (B331_12).mpr Ok.leaf)⟩)))
def F332 (x1 : Int32) (x2 : Int32) (mi : mMi) (rs : mRs) : mRz := bH (F141 x1 x2 mi rs) (mHnd 332 5) (kI fun v1 m1 r1 => mckO (mIn (N 0) 1 && true && true && true) (some (.inl (some (mI (N 0))), m1, ((vp_updL (r1).1 (mix (N 0)) (Int32.toInt64 v1)), (r1).2.1, (r1).2.2)))) (fun p9 => match p9 with | 15 => fun m1 r1 => some (.inl (some (mI (N 1))), m1, r1) | 19 => fun m1 r1 => some (.inl (some (mI (N 2))), m1, r1) | _ => fun _ _ => none)
set_option maxRecDepth 100000 in
theorem R332 (L : Nat) (x1 : Int32) (x2 : Int32) (mi : mMi) (rs : mRs) : Does 332 [mR 2 0 0, mI x1, mI x2, mR 5 0 0] L mi rs (F332 x1 x2 mi rs) 27 :=
  Does.of fun D K hD => (Ok.mp (B332_0).mpr (Ok.callH (R141 L x1 x2 mi rs) (by omega) (Ok.kI fun v1 m1 r1 => (Ok.mp (B332_8 (ml := (r1).1) (md := (r1).2.1) (rs := (r1).2.2)).mpr (Ok.gd (Ok.mp (B332_21).mpr Ok.leaf)))) (mH2 (q₁ := (15, 4)) (q₂ := (19, 4)) rfl ⟨rfl, fun m1 r1 => (Ok.mp (B332_15).mpr Ok.leaf)⟩ ⟨rfl, fun m1 r1 => (Ok.mp (B332_19).mpr Ok.leaf)⟩)))
def F333 (x1 : Int32) (mi : mMi) (rs : mRs) : mRz := bH (F144 x1 mi rs) (mHnd 333 4) (kI fun v1 m1 r1 => mckO (mIn (N 0) 1 && true && true && true) (some (.inl (some (mI (N 0))), m1, ((vp_updL (r1).1 (mix (N 0)) (Int32.toInt64 v1)), (r1).2.1, (r1).2.2)))) (fun p9 => match p9 with | 13 => fun m1 r1 => some (.inl (some (mI (N 1))), m1, r1) | 16 => fun m1 r1 => some (.inl (some (mI (N 2))), m1, r1) | _ => fun _ _ => none)
set_option maxRecDepth 100000 in
theorem R333 (L : Nat) (x1 : Int32) (mi : mMi) (rs : mRs) : Does 333 [mR 2 0 0, mI x1, mR 5 0 0] L mi rs (F333 x1 mi rs) 6 :=
  Does.of fun D K hD => (Ok.mp (B333_0).mpr (Ok.callH (R144 L x1 mi rs) (by omega) (Ok.kI fun v1 m1 r1 => (Ok.mp (B333_7 (ml := (r1).1) (md := (r1).2.1) (rs := (r1).2.2)).mpr (Ok.gd (Ok.mp (B333_18).mpr Ok.leaf)))) (mH2 (q₁ := (13, 3)) (q₂ := (16, 3)) rfl ⟨rfl, fun m1 r1 => (Ok.mp (B333_13).mpr Ok.leaf)⟩ ⟨rfl, fun m1 r1 => (Ok.mp (B333_16).mpr Ok.leaf)⟩)))
def F334 (x1 : Int32) (mi : mMi) (rs : mRs) : mRz := bH (F145 x1 mi rs) (mHnd 334 4) (kI fun v1 m1 r1 => mckO (mIn (N 0) 1 && true && true && true) (some (.inl (some (mI (N 0))), m1, ((vp_updL (r1).1 (mix (N 0)) (Int32.toInt64 v1)), (r1).2.1, (r1).2.2)))) (fun p9 => match p9 with | 13 => fun m1 r1 => some (.inl (some (mI (N 1))), m1, r1) | 16 => fun m1 r1 => some (.inl (some (mI (N 2))), m1, r1) | _ => fun _ _ => none)
set_option maxRecDepth 100000 in
theorem R334 (L : Nat) (x1 : Int32) (mi : mMi) (rs : mRs) : Does 334 [mR 2 0 0, mI x1, mR 5 0 0] L mi rs (F334 x1 mi rs) 27 :=
  Does.of fun D K hD => (Ok.mp (B334_0).mpr (Ok.callH (R145 L x1 mi rs) (by omega) (Ok.kI fun v1 m1 r1 => (Ok.mp (B334_7 (ml := (r1).1) (md := (r1).2.1) (rs := (r1).2.2)).mpr (Ok.gd (Ok.mp (B334_18).mpr Ok.leaf)))) (mH2 (q₁ := (13, 3)) (q₂ := (16, 3)) rfl ⟨rfl, fun m1 r1 => (Ok.mp (B334_13).mpr Ok.leaf)⟩ ⟨rfl, fun m1 r1 => (Ok.mp (B334_16).mpr Ok.leaf)⟩)))
def F335 (mi : mMi) (rs : mRs) : mRz := bH (F146 mi rs) (mHnd 335 3) (kI fun v1 m1 r1 => mckO (mIn (N 0) 1 && true && true && true) (some (.inl (some (mI (N 0))), m1, ((vp_updL (r1).1 (mix (N 0)) (Int32.toInt64 v1)), (r1).2.1, (r1).2.2)))) (fun p9 => match p9 with | 12 => fun m1 r1 => some (.inl (some (mI (N 1))), m1, r1) | _ => fun _ _ => none)
set_option maxRecDepth 100000 in
theorem R335 (L : Nat) (mi : mMi) (rs : mRs) : Does 335 [mR 2 0 0, mR 5 0 0] L mi rs (F335  mi rs) 4 :=
  Does.of fun D K hD => (Ok.mp (B335_0).mpr (Ok.callH (R146 L mi rs) (by omega) (Ok.kI fun v1 m1 r1 => (Ok.mp (B335_6 (ml := (r1).1) (md := (r1).2.1) (rs := (r1).2.2)).mpr (Ok.gd (Ok.mp (B335_14).mpr Ok.leaf)))) (mH1 (q₁ := (12, 2)) rfl ⟨rfl, fun m1 r1 => (Ok.mp (B335_12).mpr Ok.leaf)⟩)))
def F336 (x1 : Int32) (x2 : Int32) (mi : mMi) (rs : mRs) : mRz := bH (F147 x1 x2 mi rs) (mHnd 336 5) (kI fun v1 m1 r1 => mckO (mIn (N 0) 1 && true && true && true) (some (.inl (some (mI (N 0))), m1, ((vp_updL (r1).1 (mix (N 0)) (Int32.toInt64 v1)), (r1).2.1, (r1).2.2)))) (fun p9 => match p9 with | 15 => fun m1 r1 => some (.inl (some (mI (N 1))), m1, r1) | 19 => fun m1 r1 => some (.inl (some (mI (N 2))), m1, r1) | _ => fun _ _ => none)
set_option maxRecDepth 100000 in
theorem R336 (L : Nat) (x1 : Int32) (x2 : Int32) (mi : mMi) (rs : mRs) : Does 336 [mR 2 0 0, mI x1, mI x2, mR 5 0 0] L mi rs (F336 x1 x2 mi rs) 6 :=
  Does.of fun D K hD => (Ok.mp (B336_0).mpr (Ok.callH (R147 L x1 x2 mi rs) (by omega) (Ok.kI fun v1 m1 r1 => (Ok.mp (B336_8 (ml := (r1).1) (md := (r1).2.1) (rs := (r1).2.2)).mpr (Ok.gd (Ok.mp (B336_21).mpr Ok.leaf)))) (mH2 (q₁ := (15, 4)) (q₂ := (19, 4)) rfl ⟨rfl, fun m1 r1 => (Ok.mp (B336_15).mpr Ok.leaf)⟩ ⟨rfl, fun m1 r1 => (Ok.mp (B336_19).mpr Ok.leaf)⟩)))
def F337 (x1 : Int32) (mi : mMi) (rs : mRs) : mRz := bH (F148 x1 mi rs) (mHnd 337 4) (kI fun v1 m1 r1 => mckO (mIn (N 0) 1 && true && true && true) (some (.inl (some (mI (N 0))), m1, ((vp_updL (r1).1 (mix (N 0)) (Int32.toInt64 v1)), (r1).2.1, (r1).2.2)))) (fun p9 => match p9 with | 13 => fun m1 r1 => some (.inl (some (mI (N 1))), m1, r1) | 16 => fun m1 r1 => some (.inl (some (mI (N 2))), m1, r1) | _ => fun _ _ => none)
set_option maxRecDepth 100000 in
theorem R337 (L : Nat) (x1 : Int32) (mi : mMi) (rs : mRs) : Does 337 [mR 2 0 0, mI x1, mR 5 0 0] L mi rs (F337 x1 mi rs) 27 :=
  Does.of fun D K hD => (Ok.mp (B337_0).mpr (Ok.callH (R148 L x1 mi rs) (by omega) (Ok.kI fun v1 m1 r1 => (Ok.mp (B337_7 (ml := (r1).1) (md := (r1).2.1) (rs := (r1).2.2)).mpr (Ok.gd (Ok.mp (B337_18).mpr Ok.leaf)))) (mH2 (q₁ := (13, 3)) (q₂ := (16, 3)) rfl ⟨rfl, fun m1 r1 => (Ok.mp (B337_13).mpr Ok.leaf)⟩ ⟨rfl, fun m1 r1 => (Ok.mp (B337_16).mpr Ok.leaf)⟩)))
def F338 (x1 : Int32) (mi : mMi) (rs : mRs) : mRz := bH (F149 x1 mi rs) (mHnd 338 4) (kI fun v1 m1 r1 => mckO (mIn (N 0) 1 && true && true && true) (some (.inl (some (mI (N 0))), m1, ((vp_updL (r1).1 (mix (N 0)) (Int32.toInt64 v1)), (r1).2.1, (r1).2.2)))) (fun p9 => match p9 with | 13 => fun m1 r1 => some (.inl (some (mI (N 1))), m1, r1) | 16 => fun m1 r1 => some (.inl (some (mI (N 2))), m1, r1) | _ => fun _ _ => none)
set_option maxRecDepth 100000 in
theorem R338 (L : Nat) (x1 : Int32) (mi : mMi) (rs : mRs) : Does 338 [mR 2 0 0, mI x1, mR 5 0 0] L mi rs (F338 x1 mi rs) 8 :=
  Does.of fun D K hD => (Ok.mp (B338_0).mpr (Ok.callH (R149 L x1 mi rs) (by omega) (Ok.kI fun v1 m1 r1 => (Ok.mp (B338_7 (ml := (r1).1) (md := (r1).2.1) (rs := (r1).2.2)).mpr (Ok.gd (Ok.mp (B338_18).mpr Ok.leaf)))) (mH2 (q₁ := (13, 3)) (q₂ := (16, 3)) rfl ⟨rfl, fun m1 r1 => (Ok.mp (B338_13).mpr Ok.leaf)⟩ ⟨rfl, fun m1 r1 => (Ok.mp (B338_16).mpr Ok.leaf)⟩)))
def F339 (x1 : Int32) (x2 : Int32) (mi : mMi) (rs : mRs) : mRz := bH (F151 x1 x2 mi rs) (mHnd 339 5) (kI fun v1 m1 r1 => mckO (mIn (N 0) 1 && true && true && true) (some (.inl (some (mI (N 0))), m1, ((vp_updL (r1).1 (mix (N 0)) (Int32.toInt64 v1)), (r1).2.1, (r1).2.2)))) (fun p9 => match p9 with | 15 => fun m1 r1 => some (.inl (some (mI (N 1))), m1, r1) | 19 => fun m1 r1 => some (.inl (some (mI (N 2))), m1, r1) | _ => fun _ _ => none)
set_option maxRecDepth 100000 in
theorem R339 (L : Nat) (x1 : Int32) (x2 : Int32) (mi : mMi) (rs : mRs) : Does 339 [mR 2 0 0, mI x1, mI x2, mR 5 0 0] L mi rs (F339 x1 x2 mi rs) 5 :=
  Does.of fun D K hD => (Ok.mp (B339_0).mpr (Ok.callH (R151 L x1 x2 mi rs) (by omega) (Ok.kI fun v1 m1 r1 => (Ok.mp (B339_8 (ml := (r1).1) (md := (r1).2.1) (rs := (r1).2.2)).mpr (Ok.gd (Ok.mp (B339_21).mpr Ok.leaf)))) (mH2 (q₁ := (15, 4)) (q₂ := (19, 4)) rfl ⟨rfl, fun m1 r1 => (Ok.mp (B339_15).mpr Ok.leaf)⟩ ⟨rfl, fun m1 r1 => (Ok.mp (B339_19).mpr Ok.leaf)⟩)))
def F340 (x1 : Int32) (mi : mMi) (rs : mRs) : mRz := bH (F152 x1 mi rs) (mHnd 340 4) (kI fun v1 m1 r1 => mckO (mIn (N 0) 1 && true && true && true) (some (.inl (some (mI (N 0))), m1, ((vp_updL (r1).1 (mix (N 0)) (Int32.toInt64 v1)), (r1).2.1, (r1).2.2)))) (fun p9 => match p9 with | 13 => fun m1 r1 => some (.inl (some (mI (N 1))), m1, r1) | 16 => fun m1 r1 => some (.inl (some (mI (N 2))), m1, r1) | _ => fun _ _ => none)
set_option maxRecDepth 100000 in
theorem R340 (L : Nat) (x1 : Int32) (mi : mMi) (rs : mRs) : Does 340 [mR 2 0 0, mI x1, mR 5 0 0] L mi rs (F340 x1 mi rs) 4 :=
  Does.of fun D K hD => (Ok.mp (B340_0).mpr (Ok.callH (R152 L x1 mi rs) (by omega) (Ok.kI fun v1 m1 r1 => (Ok.mp (B340_7 (ml := (r1).1) (md := (r1).2.1) (rs := (r1).2.2)).mpr (Ok.gd (Ok.mp (B340_18).mpr Ok.leaf)))) (mH2 (q₁ := (13, 3)) (q₂ := (16, 3)) rfl ⟨rfl, fun m1 r1 => (Ok.mp (B340_13).mpr Ok.leaf)⟩ ⟨rfl, fun m1 r1 => (Ok.mp (B340_16).mpr Ok.leaf)⟩)))
def F341 (x1 : Int32) (x2 : Int32) (mi : mMi) (rs : mRs) : mRz := bH (F153 x1 x2 mi rs) (mHnd 341 5) (kI fun v1 m1 r1 => mckO (mIn (N 0) 1 && true && true && true) (some (.inl (some (mI (N 0))), m1, ((vp_updL (r1).1 (mix (N 0)) (Int32.toInt64 v1)), (r1).2.1, (r1).2.2)))) (fun p9 => match p9 with | 15 => fun m1 r1 => some (.inl (some (mI (N 1))), m1, r1) | 19 => fun m1 r1 => some (.inl (some (mI (N 2))), m1, r1) | _ => fun _ _ => none)
set_option maxRecDepth 100000 in
theorem R341 (L : Nat) (x1 : Int32) (x2 : Int32) (mi : mMi) (rs : mRs) : Does 341 [mR 2 0 0, mI x1, mI x2, mR 5 0 0] L mi rs (F341 x1 x2 mi rs) 6 :=
  Does.of fun D K hD => (Ok.mp (B341_0).mpr (Ok.callH (R153 L x1 x2 mi rs) (by omega) (Ok.kI fun v1 m1 r1 => (Ok.mp (B341_8 (ml := (r1).1) (md := (r1).2.1) (rs := (r1).2.2)).mpr (Ok.gd (Ok.mp (B341_21).mpr Ok.leaf)))) (mH2 (q₁ := (15, 4)) (q₂ := (19, 4)) rfl ⟨rfl, fun m1 r1 => (Ok.mp (B341_15).mpr Ok.leaf)⟩ ⟨rfl, fun m1 r1 => (Ok.mp (B341_19).mpr Ok.leaf)⟩)))
def F342 (mi : mMi) (rs : mRs) : mRz := bH (F154 mi rs) (mHnd 342 3) (kI fun v1 m1 r1 => mckO (mIn (N 0) 1 && true && true && true) (some (.inl (some (mI (N 0))), m1, ((vp_updL (r1).1 (mix (N 0)) (Int32.toInt64 v1)), (r1).2.1, (r1).2.2)))) (fun p9 => match p9 with | 12 => fun m1 r1 => some (.inl (some (mI (N 1))), m1, r1) | _ => fun _ _ => none)
set_option maxRecDepth 100000 in
theorem R342 (L : Nat) (mi : mMi) (rs : mRs) : Does 342 [mR 2 0 0, mR 5 0 0] L mi rs (F342  mi rs) 4 :=
  Does.of fun D K hD => (Ok.mp (B342_0).mpr (Ok.callH (R154 L mi rs) (by omega) (Ok.kI fun v1 m1 r1 => (Ok.mp (B342_6 (ml := (r1).1) (md := (r1).2.1) (rs := (r1).2.2)).mpr (Ok.gd (Ok.mp (B342_14).mpr Ok.leaf)))) (mH1 (q₁ := (12, 2)) rfl ⟨rfl, fun m1 r1 => (Ok.mp (B342_12).mpr Ok.leaf)⟩)))
def F343 (x1 : Int32) (mi : mMi) (rs : mRs) : mRz := bH (F156 x1 mi rs) (mHnd 343 4) (kI fun v1 m1 r1 => mckO (mIn (N 0) 1 && true && true && true) (some (.inl (some (mI (N 0))), m1, ((vp_updL (r1).1 (mix (N 0)) (Int32.toInt64 v1)), (r1).2.1, (r1).2.2)))) (fun p9 => match p9 with | 13 => fun m1 r1 => some (.inl (some (mI (N 1))), m1, r1) | _ => fun _ _ => none)
set_option maxRecDepth 100000 in
theorem R343 (L : Nat) (x1 : Int32) (mi : mMi) (rs : mRs) : Does 343 [mR 2 0 0, mI x1, mR 5 0 0] L mi rs (F343 x1 mi rs) 3 :=
  Does.of fun D K hD => (Ok.mp (B343_0).mpr (Ok.callH (R156 L x1 mi rs) (by omega) (Ok.kI fun v1 m1 r1 => (Ok.mp (B343_7 (ml := (r1).1) (md := (r1).2.1) (rs := (r1).2.2)).mpr (Ok.gd (Ok.mp (B343_15).mpr Ok.leaf)))) (mH1 (q₁ := (13, 3)) rfl ⟨rfl, fun m1 r1 => (Ok.mp (B343_13).mpr Ok.leaf)⟩)))
def F344 (x1 : Int32) (x2 : Int32) (x3 : Int32) (x4 : Int32) (x5 : Int32) (mi : mMi) (rs : mRs) : mRz := bH (F157 x1 x2 x3 x4 x5 mi rs) (mHnd 344 11) (kI fun v1 m1 r1 => mckO (mIn (N 0) 1 && true && true && true) (some (.inl (some (mI (N 0))), m1, ((vp_updL (r1).1 (mix (N 0)) (Int32.toInt64 v1)), (r1).2.1, (r1).2.2)))) (fun p9 => match p9 with | 21 => fun m1 r1 => some (.inl (some (mI (N 1))), m1, r1) | 25 => fun m1 r1 => some (.inl (some (mI (N 2))), m1, r1) | 29 => fun m1 r1 => some (.inl (some (mI (N 3))), m1, r1) | _ => fun _ _ => none)
set_option maxRecDepth 100000 in
theorem R344 (L : Nat) (x1 : Int32) (x2 : Int32) (x3 : Int32) (x4 : Int32) (x5 : Int32) (mi : mMi) (rs : mRs) : Does 344 [mR 2 0 0, mI x1, mI x2, mI x3, mI x4, mI x5, mR 5 0 0] L mi rs (F344 x1 x2 x3 x4 x5 mi rs) 26 :=
  Does.of fun D K hD => (Ok.mp (B344_0).mpr (Ok.callH (R157 L x1 x2 x3 x4 x5 mi rs) (by omega) (Ok.kI fun v1 m1 r1 => (Ok.mp (B344_14 (ml := (r1).1) (md := (r1).2.1) (rs := (r1).2.2)).mpr (Ok.gd (Ok.mp (B344_31).mpr Ok.leaf)))) (mH3 (q₁ := (21, 7)) (q₂ := (25, 7)) (q₃ := (29, 7)) rfl ⟨rfl, fun m1 r1 => (Ok.mp (B344_21).mpr Ok.leaf)⟩ ⟨rfl, fun m1 r1 => (Ok.mp (B344_25).mpr Ok.leaf)⟩ ⟨rfl, fun m1 r1 => (Ok.mp (B344_29).mpr Ok.leaf)⟩)))
def F345 (x1 : Int32) (x2 : Int32) (x3 : Int32) (mi : mMi) (rs : mRs) : mRz := bH (F158 x1 x2 x3 mi rs) (mHnd 345 7) (kI fun v1 m1 r1 => mckO (mIn (N 0) 1 && true && true && true) (some (.inl (some (mI (N 0))), m1, ((vp_updL (r1).1 (mix (N 0)) (Int32.toInt64 v1)), (r1).2.1, (r1).2.2)))) (fun p9 => match p9 with | 17 => fun m1 r1 => some (.inl (some (mI (N 1))), m1, r1) | 21 => fun m1 r1 => some (.inl (some (mI (N 2))), m1, r1) | 25 => fun m1 r1 => some (.inl (some (mI (N 3))), m1, r1) | _ => fun _ _ => none)
set_option maxRecDepth 100000 in
theorem R345 (L : Nat) (x1 : Int32) (x2 : Int32) (x3 : Int32) (mi : mMi) (rs : mRs) : Does 345 [mR 2 0 0, mI x1, mI x2, mI x3, mR 5 0 0] L mi rs (F345 x1 x2 x3 mi rs) 26 :=
  Does.of fun D K hD => (Ok.mp (B345_0).mpr (Ok.callH (R158 L x1 x2 x3 mi rs) (by omega) (Ok.kI fun v1 m1 r1 => (Ok.mp (B345_10 (ml := (r1).1) (md := (r1).2.1) (rs := (r1).2.2)).mpr (Ok.gd (Ok.mp (B345_27).mpr Ok.leaf)))) (mH3 (q₁ := (17, 5)) (q₂ := (21, 5)) (q₃ := (25, 5)) rfl ⟨rfl, fun m1 r1 => (Ok.mp (B345_17).mpr Ok.leaf)⟩ ⟨rfl, fun m1 r1 => (Ok.mp (B345_21).mpr Ok.leaf)⟩ ⟨rfl, fun m1 r1 => (Ok.mp (B345_25).mpr Ok.leaf)⟩)))
def F346 (x1 : Int32) (mi : mMi) (rs : mRs) : mRz := bH (F159 x1 mi rs) (mHnd 346 4) (kI fun v1 m1 r1 => mckO (mIn (N 0) 1 && true && true && true) (some (.inl (some (mI (N 0))), m1, ((vp_updL (r1).1 (mix (N 0)) (Int32.toInt64 v1)), (r1).2.1, (r1).2.2)))) (fun p9 => match p9 with | 13 => fun m1 r1 => some (.inl (some (mI (N 1))), m1, r1) | 16 => fun m1 r1 => some (.inl (some (mI (N 2))), m1, r1) | 19 => fun m1 r1 => some (.inl (some (mI (N 3))), m1, r1) | _ => fun _ _ => none)
set_option maxRecDepth 100000 in
theorem R346 (L : Nat) (x1 : Int32) (mi : mMi) (rs : mRs) : Does 346 [mR 2 0 0, mI x1, mR 5 0 0] L mi rs (F346 x1 mi rs) 27 :=
  Does.of fun D K hD => (Ok.mp (B346_0).mpr (Ok.callH (R159 L x1 mi rs) (by omega) (Ok.kI fun v1 m1 r1 => (Ok.mp (B346_7 (ml := (r1).1) (md := (r1).2.1) (rs := (r1).2.2)).mpr (Ok.gd (Ok.mp (B346_21).mpr Ok.leaf)))) (mH3 (q₁ := (13, 3)) (q₂ := (16, 3)) (q₃ := (19, 3)) rfl ⟨rfl, fun m1 r1 => (Ok.mp (B346_13).mpr Ok.leaf)⟩ ⟨rfl, fun m1 r1 => (Ok.mp (B346_16).mpr Ok.leaf)⟩ ⟨rfl, fun m1 r1 => (Ok.mp (B346_19).mpr Ok.leaf)⟩)))
def F347 (x1 : Int32) (x2 : Int32) (mi : mMi) (rs : mRs) : mRz := bH (F160 x1 x2 mi rs) (mHnd 347 5) (kI fun v1 m1 r1 => mckO (mIn (N 0) 1 && true && true && true) (some (.inl (some (mI (N 0))), m1, ((vp_updL (r1).1 (mix (N 0)) (Int32.toInt64 v1)), (r1).2.1, (r1).2.2)))) (fun p9 => match p9 with | 15 => fun m1 r1 => some (.inl (some (mI (N 1))), m1, r1) | 19 => fun m1 r1 => some (.inl (some (mI (N 2))), m1, r1) | 23 => fun m1 r1 => some (.inl (some (mI (N 3))), m1, r1) | _ => fun _ _ => none)
set_option maxRecDepth 100000 in
theorem R347 (L : Nat) (x1 : Int32) (x2 : Int32) (mi : mMi) (rs : mRs) : Does 347 [mR 2 0 0, mI x1, mI x2, mR 5 0 0] L mi rs (F347 x1 x2 mi rs) 6 :=
  Does.of fun D K hD => (Ok.mp (B347_0).mpr (Ok.callH (R160 L x1 x2 mi rs) (by omega) (Ok.kI fun v1 m1 r1 => (Ok.mp (B347_8 (ml := (r1).1) (md := (r1).2.1) (rs := (r1).2.2)).mpr (Ok.gd (Ok.mp (B347_25).mpr Ok.leaf)))) (mH3 (q₁ := (15, 4)) (q₂ := (19, 4)) (q₃ := (23, 4)) rfl ⟨rfl, fun m1 r1 => (Ok.mp (B347_15).mpr Ok.leaf)⟩ ⟨rfl, fun m1 r1 => (Ok.mp (B347_19).mpr Ok.leaf)⟩ ⟨rfl, fun m1 r1 => (Ok.mp (B347_23).mpr Ok.leaf)⟩)))
def F348 (x1 : Int32) (x2 : Int32) (mi : mMi) (rs : mRs) : mRz := bH (F161 x1 x2 mi rs) (mHnd 348 5) (kI fun v1 m1 r1 => mckO (mIn (N 0) 1 && true && true && true) (some (.inl (some (mI (N 0))), m1, ((vp_updL (r1).1 (mix (N 0)) (Int32.toInt64 v1)), (r1).2.1, (r1).2.2)))) (fun p9 => match p9 with | 15 => fun m1 r1 => some (.inl (some (mI (N 1))), m1, r1) | 19 => fun m1 r1 => some (.inl (some (mI (N 2))), m1, r1) | 23 => fun m1 r1 => some (.inl (some (mI (N 3))), m1, r1) | _ => fun _ _ => none)
set_option maxRecDepth 100000 in
theorem R348 (L : Nat) (x1 : Int32) (x2 : Int32) (mi : mMi) (rs : mRs) : Does 348 [mR 2 0 0, mI x1, mI x2, mR 5 0 0] L mi rs (F348 x1 x2 mi rs) 5 :=
  Does.of fun D K hD => (Ok.mp (B348_0).mpr (Ok.callH (R161 L x1 x2 mi rs) (by omega) (Ok.kI fun v1 m1 r1 => (Ok.mp (B348_8 (ml := (r1).1) (md := (r1).2.1) (rs := (r1).2.2)).mpr (Ok.gd (Ok.mp (B348_25).mpr Ok.leaf)))) (mH3 (q₁ := (15, 4)) (q₂ := (19, 4)) (q₃ := (23, 4)) rfl ⟨rfl, fun m1 r1 => (Ok.mp (B348_15).mpr Ok.leaf)⟩ ⟨rfl, fun m1 r1 => (Ok.mp (B348_19).mpr Ok.leaf)⟩ ⟨rfl, fun m1 r1 => (Ok.mp (B348_23).mpr Ok.leaf)⟩)))
def F349 (x1 : Int32) (mi : mMi) (rs : mRs) : mRz := bH (F162 x1 mi rs) (mHnd 349 4) (kI fun v1 m1 r1 => mckO (mIn (N 0) 1 && true && true && true) (some (.inl (some (mI (N 0))), m1, ((vp_updL (r1).1 (mix (N 0)) (Int32.toInt64 v1)), (r1).2.1, (r1).2.2)))) (fun p9 => match p9 with | 13 => fun m1 r1 => some (.inl (some (mI (N 1))), m1, r1) | 16 => fun m1 r1 => some (.inl (some (mI (N 2))), m1, r1) | 19 => fun m1 r1 => some (.inl (some (mI (N 3))), m1, r1) | _ => fun _ _ => none)
set_option maxRecDepth 100000 in
theorem R349 (L : Nat) (x1 : Int32) (mi : mMi) (rs : mRs) : Does 349 [mR 2 0 0, mI x1, mR 5 0 0] L mi rs (F349 x1 mi rs) 5 :=
  Does.of fun D K hD => (Ok.mp (B349_0).mpr (Ok.callH (R162 L x1 mi rs) (by omega) (Ok.kI fun v1 m1 r1 => (Ok.mp (B349_7 (ml := (r1).1) (md := (r1).2.1) (rs := (r1).2.2)).mpr (Ok.gd (Ok.mp (B349_21).mpr Ok.leaf)))) (mH3 (q₁ := (13, 3)) (q₂ := (16, 3)) (q₃ := (19, 3)) rfl ⟨rfl, fun m1 r1 => (Ok.mp (B349_13).mpr Ok.leaf)⟩ ⟨rfl, fun m1 r1 => (Ok.mp (B349_16).mpr Ok.leaf)⟩ ⟨rfl, fun m1 r1 => (Ok.mp (B349_19).mpr Ok.leaf)⟩)))
def F350 (x1 : Int32) (x2 : Int32) (mi : mMi) (rs : mRs) : mRz := bH (F163 x1 x2 mi rs) (mHnd 350 5) (kI fun v1 m1 r1 => mckO (mIn (N 0) 1 && true && true && true) (some (.inl (some (mI (N 0))), m1, ((vp_updL (r1).1 (mix (N 0)) (Int32.toInt64 v1)), (r1).2.1, (r1).2.2)))) (fun p9 => match p9 with | 15 => fun m1 r1 => some (.inl (some (mI (N 1))), m1, r1) | 19 => fun m1 r1 => some (.inl (some (mI (N 2))), m1, r1) | _ => fun _ _ => none)
set_option maxRecDepth 100000 in
theorem R350 (L : Nat) (x1 : Int32) (x2 : Int32) (mi : mMi) (rs : mRs) : Does 350 [mR 2 0 0, mI x1, mI x2, mR 5 0 0] L mi rs (F350 x1 x2 mi rs) 27 :=
  Does.of fun D K hD => (Ok.mp (B350_0).mpr (Ok.callH (R163 L x1 x2 mi rs) (by omega) (Ok.kI fun v1 m1 r1 => (Ok.mp (B350_8 (ml := (r1).1) (md := (r1).2.1) (rs := (r1).2.2)).mpr (Ok.gd (Ok.mp (B350_21).mpr Ok.leaf)))) (mH2 (q₁ := (15, 4)) (q₂ := (19, 4)) rfl ⟨rfl, fun m1 r1 => (Ok.mp (B350_15).mpr Ok.leaf)⟩ ⟨rfl, fun m1 r1 => (Ok.mp (B350_19).mpr Ok.leaf)⟩)))
def F351 (x1 : Int32) (mi : mMi) (rs : mRs) : mRz := bH (F164 x1 mi rs) (mHnd 351 4) (kI fun v1 m1 r1 => mckO (mIn (N 0) 1 && true && true && true) (some (.inl (some (mI (N 0))), m1, ((vp_updL (r1).1 (mix (N 0)) (Int32.toInt64 v1)), (r1).2.1, (r1).2.2)))) (fun p9 => match p9 with | 13 => fun m1 r1 => some (.inl (some (mI (N 1))), m1, r1) | 16 => fun m1 r1 => some (.inl (some (mI (N 2))), m1, r1) | _ => fun _ _ => none)
set_option maxRecDepth 100000 in
theorem R351 (L : Nat) (x1 : Int32) (mi : mMi) (rs : mRs) : Does 351 [mR 2 0 0, mI x1, mR 5 0 0] L mi rs (F351 x1 mi rs) 5 :=
  Does.of fun D K hD => (Ok.mp (B351_0).mpr (Ok.callH (R164 L x1 mi rs) (by omega) (Ok.kI fun v1 m1 r1 => (Ok.mp (B351_7 (ml := (r1).1) (md := (r1).2.1) (rs := (r1).2.2)).mpr (Ok.gd (Ok.mp (B351_18).mpr Ok.leaf)))) (mH2 (q₁ := (13, 3)) (q₂ := (16, 3)) rfl ⟨rfl, fun m1 r1 => (Ok.mp (B351_13).mpr Ok.leaf)⟩ ⟨rfl, fun m1 r1 => (Ok.mp (B351_16).mpr Ok.leaf)⟩)))
def F352 (x1 : Int32) (x2 : Int32) (x3 : Int32) (mi : mMi) (rs : mRs) : mRz := bH (F165 x1 x2 x3 mi rs) (mHnd 352 7) (kI fun v1 m1 r1 => mckO (mIn (N 0) 1 && true && true && true) (some (.inl (some (mI (N 0))), m1, ((vp_updL (r1).1 (mix (N 0)) (Int32.toInt64 v1)), (r1).2.1, (r1).2.2)))) (fun p9 => match p9 with | 17 => fun m1 r1 => some (.inl (some (mI (N 1))), m1, r1) | 21 => fun m1 r1 => some (.inl (some (mI (N 2))), m1, r1) | 25 => fun m1 r1 => some (.inl (some (mI (N 3))), m1, r1) | _ => fun _ _ => none)
set_option maxRecDepth 100000 in
theorem R352 (L : Nat) (x1 : Int32) (x2 : Int32) (x3 : Int32) (mi : mMi) (rs : mRs) : Does 352 [mR 2 0 0, mI x1, mI x2, mI x3, mR 5 0 0] L mi rs (F352 x1 x2 x3 mi rs) 26 :=
  Does.of fun D K hD => (Ok.mp (B352_0).mpr (Ok.callH (R165 L x1 x2 x3 mi rs) (by omega) (Ok.kI fun v1 m1 r1 => (Ok.mp (B352_10 (ml := (r1).1) (md := (r1).2.1) (rs := (r1).2.2)).mpr (Ok.gd (Ok.mp (B352_27).mpr Ok.leaf)))) (mH3 (q₁ := (17, 5)) (q₂ := (21, 5)) (q₃ := (25, 5)) rfl ⟨rfl, fun m1 r1 => (Ok.mp (B352_17).mpr Ok.leaf)⟩ ⟨rfl, fun m1 r1 => (Ok.mp (B352_21).mpr Ok.leaf)⟩ ⟨rfl, fun m1 r1 => (Ok.mp (B352_25).mpr Ok.leaf)⟩)))
def F353 (x1 : Int32) (mi : mMi) (rs : mRs) : mRz := bH (F166 x1 mi rs) (mHnd 353 4) (kI fun v1 m1 r1 => mckO (mIn (N 0) 1 && true && true && true) (some (.inl (some (mI (N 0))), m1, ((vp_updL (r1).1 (mix (N 0)) (Int32.toInt64 v1)), (r1).2.1, (r1).2.2)))) (fun p9 => match p9 with | 13 => fun m1 r1 => some (.inl (some (mI (N 1))), m1, r1) | 16 => fun m1 r1 => some (.inl (some (mI (N 2))), m1, r1) | 19 => fun m1 r1 => some (.inl (some (mI (N 3))), m1, r1) | _ => fun _ _ => none)
set_option maxRecDepth 100000 in
theorem R353 (L : Nat) (x1 : Int32) (mi : mMi) (rs : mRs) : Does 353 [mR 2 0 0, mI x1, mR 5 0 0] L mi rs (F353 x1 mi rs) 5 :=
  Does.of fun D K hD => (Ok.mp (B353_0).mpr (Ok.callH (R166 L x1 mi rs) (by omega) (Ok.kI fun v1 m1 r1 => (Ok.mp (B353_7 (ml := (r1).1) (md := (r1).2.1) (rs := (r1).2.2)).mpr (Ok.gd (Ok.mp (B353_21).mpr Ok.leaf)))) (mH3 (q₁ := (13, 3)) (q₂ := (16, 3)) (q₃ := (19, 3)) rfl ⟨rfl, fun m1 r1 => (Ok.mp (B353_13).mpr Ok.leaf)⟩ ⟨rfl, fun m1 r1 => (Ok.mp (B353_16).mpr Ok.leaf)⟩ ⟨rfl, fun m1 r1 => (Ok.mp (B353_19).mpr Ok.leaf)⟩)))
def F354 (mi : mMi) (rs : mRs) : mRz := bH (F167 mi rs) (mHnd 354 3) (kI fun v1 m1 r1 => mckO (mIn (N 0) 1 && true && true && true) (some (.inl (some (mI (N 0))), m1, ((vp_updL (r1).1 (mix (N 0)) (Int32.toInt64 v1)), (r1).2.1, (r1).2.2)))) (fun p9 => match p9 with | 12 => fun m1 r1 => some (.inl (some (mI (N 1))), m1, r1) | _ => fun _ _ => none)
set_option maxRecDepth 100000 in
theorem R354 (L : Nat) (mi : mMi) (rs : mRs) : Does 354 [mR 2 0 0, mR 5 0 0] L mi rs (F354  mi rs) 5 :=
  Does.of fun D K hD => (Ok.mp (B354_0).mpr (Ok.callH (R167 L mi rs) (by omega) (Ok.kI fun v1 m1 r1 => (Ok.mp (B354_6 (ml := (r1).1) (md := (r1).2.1) (rs := (r1).2.2)).mpr (Ok.gd (Ok.mp (B354_14).mpr Ok.leaf)))) (mH1 (q₁ := (12, 2)) rfl ⟨rfl, fun m1 r1 => (Ok.mp (B354_12).mpr Ok.leaf)⟩)))
def F355 (x1 : Int32) (mi : mMi) (rs : mRs) : mRz := bH (F168 x1 mi rs) (mHnd 355 4) (kI fun v1 m1 r1 => mckO (mIn (N 0) 1 && true && true && true) (some (.inl (some (mI (N 0))), m1, ((vp_updL (r1).1 (mix (N 0)) (Int32.toInt64 v1)), (r1).2.1, (r1).2.2)))) (fun p9 => match p9 with | 13 => fun m1 r1 => some (.inl (some (mI (N 1))), m1, r1) | 16 => fun m1 r1 => some (.inl (some (mI (N 2))), m1, r1) | _ => fun _ _ => none)
set_option maxRecDepth 100000 in
theorem R355 (L : Nat) (x1 : Int32) (mi : mMi) (rs : mRs) : Does 355 [mR 2 0 0, mI x1, mR 5 0 0] L mi rs (F355 x1 mi rs) 4 :=
  Does.of fun D K hD => (Ok.mp (B355_0).mpr (Ok.callH (R168 L x1 mi rs) (by omega) (Ok.kI fun v1 m1 r1 => (Ok.mp (B355_7 (ml := (r1).1) (md := (r1).2.1) (rs := (r1).2.2)).mpr (Ok.gd (Ok.mp (B355_18).mpr Ok.leaf)))) (mH2 (q₁ := (13, 3)) (q₂ := (16, 3)) rfl ⟨rfl, fun m1 r1 => (Ok.mp (B355_13).mpr Ok.leaf)⟩ ⟨rfl, fun m1 r1 => (Ok.mp (B355_16).mpr Ok.leaf)⟩)))
def F356 (x1 : Int32) (mi : mMi) (rs : mRs) : mRz := bH (F169 x1 mi rs) (mHnd 356 4) (kI fun v1 m1 r1 => mckO (mIn (N 0) 1 && true && true && true) (some (.inl (some (mI (N 0))), m1, ((vp_updL (r1).1 (mix (N 0)) (Int32.toInt64 v1)), (r1).2.1, (r1).2.2)))) (fun p9 => match p9 with | 13 => fun m1 r1 => some (.inl (some (mI (N 1))), m1, r1) | 16 => fun m1 r1 => some (.inl (some (mI (N 2))), m1, r1) | _ => fun _ _ => none)
set_option maxRecDepth 100000 in
theorem R356 (L : Nat) (x1 : Int32) (mi : mMi) (rs : mRs) : Does 356 [mR 2 0 0, mI x1, mR 5 0 0] L mi rs (F356 x1 mi rs) 4 :=
  Does.of fun D K hD => (Ok.mp (B356_0).mpr (Ok.callH (R169 L x1 mi rs) (by omega) (Ok.kI fun v1 m1 r1 => (Ok.mp (B356_7 (ml := (r1).1) (md := (r1).2.1) (rs := (r1).2.2)).mpr (Ok.gd (Ok.mp (B356_18).mpr Ok.leaf)))) (mH2 (q₁ := (13, 3)) (q₂ := (16, 3)) rfl ⟨rfl, fun m1 r1 => (Ok.mp (B356_13).mpr Ok.leaf)⟩ ⟨rfl, fun m1 r1 => (Ok.mp (B356_16).mpr Ok.leaf)⟩)))
