/-! WHAT METHODS DO, AS FUNCTIONS: of their whole numbers, of the memory of numbers and of the rest. -/
abbrev mZ3 : Type := mOut × (mMi × mRs)
abbrev mRz : Type := Option mZ3
/-- the fuel of every loop -/
def FU : Nat := 100000
def bI (r : mRz) (k : Int32 → mMi → mRs → mRz) : mRz := match r with
  | some (.inl (some (.inl v)), mi, rs) => k v mi rs
  | some (.inr E, mi, rs) => some (.inr E, mi, rs)
  | _ => none
def bV (r : mRz) (k : mMi → mRs → mRz) : mRz := match r with
  | some (.inl none, mi, rs) => k mi rs
  | some (.inr E, mi, rs) => some (.inr E, mi, rs)
  | _ => none
def bF (r : mRz) (k : UInt32 → mMi → mRs → mRz) : mRz := match r with
  | some (.inl (some (.inr (.inr (.inr (.inl v))))), mi, rs) => k v mi rs
  | some (.inr E, mi, rs) => some (.inr E, mi, rs)
  | _ => none
def bD (r : mRz) (k : UInt64 → mMi → mRs → mRz) : mRz := match r with
  | some (.inl (some (.inr (.inr (.inr (.inr v))))), mi, rs) => k v mi rs
  | some (.inr E, mi, rs) => some (.inr E, mi, rs)
  | _ => none
/-- an answer of whole numbers; no answer -/
abbrev rI (v : Int32) (mi : mMi) (rs : mRs) : mRz := some (.inl (some (mI v)), mi, rs)
abbrev rV (mi : mMi) (rs : mRs) : mRz := some (.inl none, mi, rs)
/-- behind an exception of our own -/
def rsT (rs : mRs) : mRs := (rs.1, rs.2.1, rs.2.2.1 + 1, rs.2.2.2.1 + 1, rs.2.2.2.2 + 6)
abbrev rX (E : Nat) (mi : mMi) (rs : mRs) : mRz := some (.inr E, mi, rs)
/-- if x comes to z, and K holds there, then P -/
def Ok (x : mRz) (L : mLb) (K : mOut → mH → Prop) (P : Prop) : Prop := ∀ z, x = some z → K z.1 (hq L z.2.1 z.2.2) → P
theorem Ok.mp {x : mRz} {L : mLb} {K : mOut → mH → Prop} {P P' : Prop} (f : P → P') (h : Ok x L K P) : Ok x L K P' := fun z e k => f (h z e k)
theorem Ok.leaf {L : mLb} {K : mOut → mH → Prop} {o : mOut} {mi : mMi} {rs : mRs} : Ok (some (o, mi, rs)) L K (K o (hq L mi rs)) := fun z e k => by
  cases e
  exact k
theorem Ok.no {L : mLb} {K : mOut → mH → Prop} {P : Prop} : Ok none L K P := fun z e k => by cases e
theorem Ok.gd {x : mRz} {L : mLb} {K : mOut → mH → Prop} {b : Bool} {P : Prop} (h : Ok x L K P) : Ok (mckO b x) L K (mck b P) := fun z e k => by
  obtain ⟨e1, e2⟩ := mckO_some e
  rw [e1]
  exact h z e2 k
theorem Ok.gdh {x : mRz} {L : mLb} {K : mOut → mH → Prop} {b : Bool} {P : Prop} (h : b = true → Ok x L K P) : Ok (mckO b x) L K (mck b P) := fun z e k => by
  obtain ⟨e1, e2⟩ := mckO_some e
  rw [e1]
  exact h e1 z e2 k
theorem Ok.mc {x : mRz} {L : mLb} {K : mOut → mH → Prop} {b : Bool} {P : Prop} (hb : b = true) (h : Ok x L K P) : Ok x L K (mck b P) := fun z e k => by
  rw [hb]
  exact h z e k
theorem Ok.gf {x : mRz} {L : mLb} {K : mOut → mH → Prop} {b : Bool} {P : Prop} (h : Ok x L K P) : Ok (mckO b x) L K (mif b P False) := fun z e k => by
  obtain ⟨e1, e2⟩ := mckO_some e
  rw [e1]
  exact h z e2 k
theorem Ok.if {x y : mRz} {L : mLb} {K : mOut → mH → Prop} {b : Bool} {P Q : Prop} (h : Ok x L K P) (h2 : Ok y L K Q) : Ok (mifO b x y) L K (mif b P Q) := fun z e k => by
  rcases mifO_some e with ⟨e1, e2⟩ | ⟨e1, e2⟩
  · rw [e1]; exact h z e2 k
  · rw [e1]; exact h2 z e2 k
theorem bI_some {r : mRz} {k : Int32 → mMi → mRs → mRz} {z : mZ3} (h : bI r k = some z) : (∃ v mi rs, r = some (.inl (some (.inl v)), mi, rs) ∧ k v mi rs = some z) ∨ ∃ E mi rs, r = some (.inr E, mi, rs) ∧ z = (.inr E, mi, rs) := by
  unfold bI at h
  split at h
  · exact Or.inl ⟨_, _, _, rfl, h⟩
  · cases h; exact Or.inr ⟨_, _, _, rfl, rfl⟩
  · cases h
theorem bV_some {r : mRz} {k : mMi → mRs → mRz} {z : mZ3} (h : bV r k = some z) : (∃ mi rs, r = some (.inl none, mi, rs) ∧ k mi rs = some z) ∨ ∃ E mi rs, r = some (.inr E, mi, rs) ∧ z = (.inr E, mi, rs) := by
  unfold bV at h
  split at h
  · exact Or.inl ⟨_, _, rfl, h⟩
  · cases h; exact Or.inr ⟨_, _, _, rfl, rfl⟩
  · cases h
theorem bF_some {r : mRz} {k : UInt32 → mMi → mRs → mRz} {z : mZ3} (h : bF r k = some z) : (∃ v mi rs, r = some (.inl (some (.inr (.inr (.inr (.inl v))))), mi, rs) ∧ k v mi rs = some z) ∨ ∃ E mi rs, r = some (.inr E, mi, rs) ∧ z = (.inr E, mi, rs) := by
  unfold bF at h
  split at h
  · exact Or.inl ⟨_, _, _, rfl, h⟩
  · cases h; exact Or.inr ⟨_, _, _, rfl, rfl⟩
  · cases h
theorem bD_some {r : mRz} {k : UInt64 → mMi → mRs → mRz} {z : mZ3} (h : bD r k = some z) : (∃ v mi rs, r = some (.inl (some (.inr (.inr (.inr (.inr v))))), mi, rs) ∧ k v mi rs = some z) ∨ ∃ E mi rs, r = some (.inr E, mi, rs) ∧ z = (.inr E, mi, rs) := by
  unfold bD at h
  split at h
  · exact Or.inl ⟨_, _, _, rfl, h⟩
  · cases h; exact Or.inr ⟨_, _, _, rfl, rfl⟩
  · cases h
/-- y, on as, does what the function x says -/
def Does (y : Nat) (as : List mV) (L : mLb) (mi : mMi) (rs : mRs) (x : mRz) (d : Nat) : Prop := ∀ z, x = some z → Run y as (hq L mi rs) z.1 (hq L z.2.1 z.2.2) d
theorem Ok.callI {r : mRz} {k : Int32 → mMi → mRs → mRz} {L : mLb} {D d n pc y : Nat} {as : List mV} {lo : mLo} {st : mSt} {mi : mMi} {rs : mRs} {K : mOut → mH → Prop} (hR : Does y as L mi rs r d) (hD : d ≤ D) (hk : ∀ v mi rs, Ok (k v mi rs) L K (WP (D + 1) n pc lo (mI v :: st) (hq L mi rs) K)) :
    Ok (bI r k) L K (WP D y 0 (mEntry y as) [] (hq L mi rs) (Bk (D + 1) n pc lo st K)) := fun z e kk => by
  rcases bI_some e with ⟨v, m1, r1, e1, e2⟩ | ⟨E, m1, r1, e1, rfl⟩
  · exact hR _ e1 D _ hD (hk v m1 r1 z e2 kk)
  · exact hR _ e1 D _ hD kk
theorem Ok.callV {r : mRz} {k : mMi → mRs → mRz} {L : mLb} {D d n pc y : Nat} {as : List mV} {lo : mLo} {st : mSt} {mi : mMi} {rs : mRs} {K : mOut → mH → Prop} (hR : Does y as L mi rs r d) (hD : d ≤ D) (hk : ∀ mi rs, Ok (k mi rs) L K (WP (D + 1) n pc lo st (hq L mi rs) K)) :
    Ok (bV r k) L K (WP D y 0 (mEntry y as) [] (hq L mi rs) (Bk (D + 1) n pc lo st K)) := fun z e kk => by
  rcases bV_some e with ⟨m1, r1, e1, e2⟩ | ⟨E, m1, r1, e1, rfl⟩
  · exact hR _ e1 D _ hD (hk m1 r1 z e2 kk)
  · exact hR _ e1 D _ hD kk
theorem Ok.callF {r : mRz} {k : UInt32 → mMi → mRs → mRz} {L : mLb} {D d n pc y : Nat} {as : List mV} {lo : mLo} {st : mSt} {mi : mMi} {rs : mRs} {K : mOut → mH → Prop} (hR : Does y as L mi rs r d) (hD : d ≤ D) (hk : ∀ v mi rs, Ok (k v mi rs) L K (WP (D + 1) n pc lo (mF v :: st) (hq L mi rs) K)) :
    Ok (bF r k) L K (WP D y 0 (mEntry y as) [] (hq L mi rs) (Bk (D + 1) n pc lo st K)) := fun z e kk => by
  rcases bF_some e with ⟨v, m1, r1, e1, e2⟩ | ⟨E, m1, r1, e1, rfl⟩
  · exact hR _ e1 D _ hD (hk v m1 r1 z e2 kk)
  · exact hR _ e1 D _ hD kk
theorem Ok.callD {r : mRz} {k : UInt64 → mMi → mRs → mRz} {L : mLb} {D d n pc y : Nat} {as : List mV} {lo : mLo} {st : mSt} {mi : mMi} {rs : mRs} {K : mOut → mH → Prop} (hR : Does y as L mi rs r d) (hD : d ≤ D) (hk : ∀ v mi rs, Ok (k v mi rs) L K (WP (D + 1) n pc lo (mD v :: st) (hq L mi rs) K)) :
    Ok (bD r k) L K (WP D y 0 (mEntry y as) [] (hq L mi rs) (Bk (D + 1) n pc lo st K)) := fun z e kk => by
  rcases bD_some e with ⟨v, m1, r1, e1, e2⟩ | ⟨E, m1, r1, e1, rfl⟩
  · exact hR _ e1 D _ hD (hk v m1 r1 z e2 kk)
  · exact hR _ e1 D _ hD kk
/-- a method's function, out of the walk from its entry -/
theorem Does.of {L : mLb} {y d : Nat} {as : List mV} {mi : mMi} {rs : mRs} {x : mRz} (h : ∀ (D : Nat) (K : mOut → mH → Prop), d ≤ D → Ok x L K (WP (D + 1) y 0 (mEntry y as) [] (hq L mi rs) K)) : Does y as L mi rs x (d + 1) := fun z e D K hD hK => by
  cases D with
  | zero => omega
  | succ D => exact h D K (by omega) z e hK
/-- a switch -/
def mTswO (x : Int32) (pc : Nat) (d lw hi : Int) (offs : Array Int) (F : Nat → mRz) : mRz :=
  mifO (decide (x.toInt < lw) || decide (hi < x.toInt)) (F (mTgt pc d)) (match offs[(x.toInt - lw).toNat]? with
    | some off => F (mTgt pc off)
    | none => none)
theorem Ok.tsw {x : Int32} {pc : Nat} {d lw hi : Int} {offs : Array Int} {F : Nat → mRz} {G : Nat → Prop} {L : mLb} {K : mOut → mH → Prop} (hd : mFw pc d = true) (ho : ∀ o ∈ offs, mFw pc o = true) (h : ∀ t, Ok (F t) L K (G t)) : Ok (mTswO x pc d lw hi offs F) L K (mTsw x pc d lw hi offs G) := by
  unfold mTswO mTsw
  refine Ok.if (Ok.mc hd (h _)) ?_
  cases e : offs[(x.toInt - lw).toNat]? with
  | none => exact Ok.no
  | some off => exact Ok.mc (ho off (Array.mem_of_getElem? e)) (h _)
theorem Ok.ite {x y : mRz} {L : mLb} {K : mOut → mH → Prop} {c : Prop} {_ : Decidable c} {P : Prop} (h : c → Ok x L K P) (h2 : Ok y L K P) : Ok (if c then x else y) L K P := by
  by_cases hc : c
  · rw [if_pos hc]; exact h hc
  · rw [if_neg hc]; exact h2
theorem RO_lt (i : Nat) : RO i < 2 := by
  unfold RO
  cases Nat.beq i 2 <;> decide
theorem aa5_lt {x : Int32} (h : mIn x 8 = true) : 3 + mix x < 13 := by
  unfold mIn at h
  rw [Bool.and_eq_true] at h
  have : mix x < 8 := Nat.le_of_ble_eq_true h.2
  omega
theorem aa6_lt {x : Int32} (h : mIn x 2 = true) : 11 + mix x < 13 := by
  unfold mIn at h
  rw [Bool.and_eq_true] at h
  have : mix x < 2 := Nat.le_of_ble_eq_true h.2
  omega
theorem Ok.aa5 {x : Int32} {F : mRf → Prop} {y : mRz} {L : mLb} {K : mOut → mH → Prop} (h : mIn x 8 = true → Ok y L K (F (0, 3 + mix x, 0))) : Ok (mckO (mIn x 8) y) L K (mck (mIn x 8) (mAa (RF 2 5 1 (mix x)) F)) := Ok.gdh fun hb => by
  have hb' := hb
  unfold mIn at hb'
  rw [Bool.and_eq_true] at hb'
  have e : RF 2 5 1 (mix x) = some (0, 3 + mix x, 0) := by
    show (match Nat.blt (mix x) 8 with
      | true => some (0, 3 + mix x, 0)
      | false => none) = _
    rw [hb'.2]
  rw [e]
  exact h hb
theorem Ok.aa6 {x : Int32} {F : mRf → Prop} {y : mRz} {L : mLb} {K : mOut → mH → Prop} (h : mIn x 2 = true → Ok y L K (F (0, 11 + mix x, 0))) : Ok (mckO (mIn x 2) y) L K (mck (mIn x 2) (mAa (RF 2 6 0 (mix x)) F)) := Ok.gdh fun hb => by
  have hb' := hb
  unfold mIn at hb'
  rw [Bool.and_eq_true] at hb'
  have e : RF 2 6 0 (mix x) = some (0, 11 + mix x, 0) := by
    show (match Nat.blt (mix x) 2 with
      | true => some (0, 11 + mix x, 0)
      | false => none) = _
    rw [hb'.2]
  rw [e]
  exact h hb
