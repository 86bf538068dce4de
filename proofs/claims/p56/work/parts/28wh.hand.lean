/-! BEHIND A CALL, where a handler stands. -/
def bH (r : mRz) (tab : Nat → Option (Nat × Nat)) (k : Option mV → mMi → mRs → mRz) (kx : Nat → mMi → mRs → mRz) : mRz := match r with
  | some (.inl v, mi, rs) => k v mi rs
  | some (.inr E, mi, rs) => match tab E with
    | none => some (.inr E, mi, rs)
    | some (pc2, _) => kx pc2 mi rs
  | none => none
def kI (k : Int32 → mMi → mRs → mRz) (v : Option mV) (mi : mMi) (rs : mRs) : mRz := match v with
  | some (.inl x) => k x mi rs
  | _ => none
def kF (k : UInt32 → mMi → mRs → mRz) (v : Option mV) (mi : mMi) (rs : mRs) : mRz := match v with
  | some (.inr (.inr (.inr (.inl x)))) => k x mi rs
  | _ => none
def kD (k : UInt64 → mMi → mRs → mRz) (v : Option mV) (mi : mMi) (rs : mRs) : mRz := match v with
  | some (.inr (.inr (.inr (.inr x)))) => k x mi rs
  | _ => none
def kL (k : Int64 → mMi → mRs → mRz) (v : Option mV) (mi : mMi) (rs : mRs) : mRz := match v with
  | some (.inr (.inr (.inl x))) => k x mi rs
  | _ => none
def mHq (n : Nat) : List (Nat × Nat) := ((mLook mHndL n).getD []).map (fun z => (z.2.2.2.1, z.2.2.2.2))
theorem mHndF_mem {l : List (Nat × Nat × Nat × Nat × Nat)} {pc E : Nat} {q : Nat × Nat} (h : mHndF l pc E = some q) : q ∈ l.map (fun z => (z.2.2.2.1, z.2.2.2.2)) := by
  induction l with
  | nil => cases h
  | cons z r ih =>
    obtain ⟨a, b, E', pc2, k⟩ := z
    unfold mHndF at h
    split at h
    · cases h; exact List.mem_cons_self
    · exact List.mem_cons_of_mem _ (ih h)
theorem mHnd_mem {n pc E : Nat} {q : Nat × Nat} (h : mHnd n pc E = some q) : q ∈ mHq n := by
  unfold mHnd at h
  unfold mHq
  cases hl : mLook mHndL n with
  | none => rw [hl] at h; cases h
  | some l => rw [hl] at h; exact mHndF_mem h
theorem Ok.callH {r : mRz} {k : Option mV → mMi → mRs → mRz} {kx : Nat → mMi → mRs → mRz} {L : mLb} {D d n pc0 pc y : Nat} {as : List mV} {lo : mLo} {st : mSt} {mi : mMi} {rs : mRs} {K : mOut → mH → Prop} (hR : Does y as L mi rs r d) (hD : d ≤ D) (hk : ∀ v mi rs, Ok (k v mi rs) L K (WP (D + 1) n pc lo (v.toList ++ st) (hq L mi rs) K))
    (hx : ∀ E q, mHnd n pc0 E = some q → (Nat.blt q.2 lo.length && mOkSt lo q.2) = true ∧ ∀ mi rs, Ok (kx q.1 mi rs) L K (WP (D + 1) n q.1 (lo.set q.2 none) [] (hq L mi rs) K)) :
    Ok (bH r (mHnd n pc0) k kx) L K (WP D y 0 (mEntry y as) [] (hq L mi rs) (BkH (D + 1) n pc0 pc lo st K)) := fun z e kk => by
  unfold bH at e
  split at e
  · exact hR _ rfl D _ hD (hk _ _ _ z e kk)
  · rename_i E m1 r1
    refine hR _ rfl D _ hD ?_
    unfold BkH
    dsimp only
    cases hh : mHnd n pc0 E with
    | none => rw [hh] at e; cases e; exact kk
    | some q =>
      obtain ⟨g1, g2⟩ := hx E q hh
      obtain ⟨pc2, i⟩ := q
      rw [hh] at e
      dsimp only at e ⊢
      rw [g1]
      exact g2 m1 r1 z e kk
  · cases e
theorem Ok.kI {k : Int32 → mMi → mRs → mRz} {L : mLb} {D n pc : Nat} {lo : mLo} {st : mSt} {K : mOut → mH → Prop} (h : ∀ x mi rs, Ok (k x mi rs) L K (WP (D + 1) n pc lo (mI x :: st) (hq L mi rs) K)) : ∀ v mi rs, Ok (kI k v mi rs) L K (WP (D + 1) n pc lo (v.toList ++ st) (hq L mi rs) K) := fun v mi rs => by
  rcases v with _ | x | x | x | x | x
  · exact Ok.no
  · exact h x mi rs
  · exact Ok.no
  · exact Ok.no
  · exact Ok.no
  · exact Ok.no
theorem Ok.kF {k : UInt32 → mMi → mRs → mRz} {L : mLb} {D n pc : Nat} {lo : mLo} {st : mSt} {K : mOut → mH → Prop} (h : ∀ x mi rs, Ok (k x mi rs) L K (WP (D + 1) n pc lo (mF x :: st) (hq L mi rs) K)) : ∀ v mi rs, Ok (kF k v mi rs) L K (WP (D + 1) n pc lo (v.toList ++ st) (hq L mi rs) K) := fun v mi rs => by
  rcases v with _ | x | x | x | x | x
  · exact Ok.no
  · exact Ok.no
  · exact Ok.no
  · exact Ok.no
  · exact h x mi rs
  · exact Ok.no
theorem Ok.kD {k : UInt64 → mMi → mRs → mRz} {L : mLb} {D n pc : Nat} {lo : mLo} {st : mSt} {K : mOut → mH → Prop} (h : ∀ x mi rs, Ok (k x mi rs) L K (WP (D + 1) n pc lo (mD x :: st) (hq L mi rs) K)) : ∀ v mi rs, Ok (kD k v mi rs) L K (WP (D + 1) n pc lo (v.toList ++ st) (hq L mi rs) K) := fun v mi rs => by
  rcases v with _ | x | x | x | x | x
  · exact Ok.no
  · exact Ok.no
  · exact Ok.no
  · exact Ok.no
  · exact Ok.no
  · exact h x mi rs
theorem Ok.kL {k : Int64 → mMi → mRs → mRz} {L : mLb} {D n pc : Nat} {lo : mLo} {st : mSt} {K : mOut → mH → Prop} (h : ∀ x mi rs, Ok (k x mi rs) L K (WP (D + 1) n pc lo (mL x :: st) (hq L mi rs) K)) : ∀ v mi rs, Ok (kL k v mi rs) L K (WP (D + 1) n pc lo (v.toList ++ st) (hq L mi rs) K) := fun v mi rs => by
  rcases v with _ | x | x | x | x | x
  · exact Ok.no
  · exact Ok.no
  · exact Ok.no
  · exact h x mi rs
  · exact Ok.no
  · exact Ok.no
theorem mH1 {n pc : Nat} {q₁ : Nat × Nat} {P : Nat × Nat → Prop} (h₁ : mHq n = [q₁]) (p₁ : P q₁) : ∀ E q, mHnd n pc E = some q → P q := fun E q e₁ => by
  have m₁ := mHnd_mem e₁
  rw [h₁] at m₁
  cases m₁ with
  | head => exact p₁
  | tail _ m₂ => cases m₂
theorem mH2 {n pc : Nat} {q₁ q₂ : Nat × Nat} {P : Nat × Nat → Prop} (h₁ : mHq n = [q₁, q₂]) (p₁ : P q₁) (p₂ : P q₂) : ∀ E q, mHnd n pc E = some q → P q := fun E q e₁ => by
  have m₁ := mHnd_mem e₁
  rw [h₁] at m₁
  cases m₁ with
  | head => exact p₁
  | tail _ m₂ => cases m₂ with
    | head => exact p₂
    | tail _ m₃ => cases m₃
theorem mH3 {n pc : Nat} {q₁ q₂ q₃ : Nat × Nat} {P : Nat × Nat → Prop} (h₁ : mHq n = [q₁, q₂, q₃]) (p₁ : P q₁) (p₂ : P q₂) (p₃ : P q₃) : ∀ E q, mHnd n pc E = some q → P q := fun E q e₁ => by
  have m₁ := mHnd_mem e₁
  rw [h₁] at m₁
  cases m₁ with
  | head => exact p₁
  | tail _ m₂ => cases m₂ with
    | head => exact p₂
    | tail _ m₃ => cases m₃ with
      | head => exact p₃
      | tail _ m₄ => cases m₄
