/-! THE ARMS OF THE LAW'S LOOP, by program (gen_arms.py). -/
theorem ccNanI {x : UInt64} (h₁ : isNaN64 x = false) : x.toNat % 9223372036854775808 ≤ 9218868437227405312 := by
  have e₁ : (x &&& 0x7fffffffffffffff).toNat = x.toNat % 9223372036854775808 := by
    rw [UInt64.toNat_and]
    exact Nat.and_two_pow_sub_one_eq_mod x.toNat 63
  have e₂ : (0x7ff0000000000000 : UInt64).toNat = 9218868437227405312 := rfl
  unfold isNaN64 at h₁
  have g₁ := of_decide_eq_false h₁
  rw [gt_iff_lt, UInt64.lt_iff_toNat_lt, e₁, e₂] at g₁
  omega
theorem ccCmpI {a : Int} : compare a a = Ordering.eq := by
  show compareOfLessAndEq a a = Ordering.eq
  unfold compareOfLessAndEq
  rw [if_neg (Int.lt_irrefl a), if_pos rfl]
theorem ccOrd {d : FP.Core.Datum} (h₁ : d ≠ .nan) : FP.Core.order d d = some Ordering.eq := by
  cases d with
  | nan => exact absurd rfl h₁
  | inf s => exact congrArg some ccCmpI
  | fin s c q => exact congrArg some ccCmpI
theorem ccDcmp {v : UInt64} (h₁ : isNaN64 v = false) : Op.cmpValue (FP.dcmp v v) .l = N 0 := by
  have e₁ : FP.dcmp v v = some Ordering.eq := ccOrd (ccDe64 (ccNanI h₁))
  rw [e₁]
  rfl
theorem ccM01 {x : mRz} : mckO (mIn (N 0) 1 && true && true && true) x = x := ccMck (by rw [mIn_N (by omega) (by omega)]; rfl)
theorem ccUp₀ {f : Nat → Int64} {z : Int64} : vp_updL f (mix (N 0)) z 0 = z := by
  rw [mix_N (by omega)]
  rfl
theorem ccUpD₀ {f : Nat → UInt64} {z : UInt64} : mUpdD f (mix (N 0)) z 0 = z := by
  rw [mix_N (by omega)]
  rfl
theorem ccCmpL {z : Int64} : (if z < z then -1 else if z = z then 0 else 1 : Int32) = N 0 := by
  rw [if_neg (Int64.lt_irrefl), if_pos rfl]
  rfl
theorem ccNzC {c : Nat} (h₁ : c ≠ 0) (h₂ : c < 4) : N c ≠ N 0 := fun h₃ => h₁ ((N_eq (by omega) (by omega)).mp h₃)
theorem ccE171 {m : mMi} {rs : mRs} : F171 m rs = rI (m 4 0 0 0) m rs := rfl
/-- a wrapper and the reference's method: what the law's loop sees -/
def ccArm (B : Nat) (Fw Fm : mMi → mRs → mRz) (g : Int32 → Int64) (m : mMi) : Prop :=
  (∃ v m₁ m₂, (∀ rs, Fw m rs = rI (N 0) m₁ (vp_updL rs.1 (mix (N 0)) (g v), rs.2.1, rs.2.2)) ∧ (∀ rs, Fm m₁ rs = rI v m₂ rs) ∧ m₂ 4 0 0 0 = N 0 ∧ ccTop (B + 192) m₂ ∧ ∀ a j p, m₁ 3 a j p = m 3 a j p ∧ m₂ 3 a j p = m 3 a j p) ∨
  (∃ c b m₁ m₂, c ≠ 0 ∧ c < 4 ∧ (∀ rs, Fw m rs = rI (N c) m₁ (rsT rs)) ∧ (∀ rs, Fm m₁ rs = rI b m₂ rs) ∧ m₂ 4 0 0 0 = N c ∧ ccTop (B + 192) m₂ ∧ ∀ a j p, m₁ 3 a j p = m 3 a j p ∧ m₂ 3 a j p = m 3 a j p)
def ccArmD (B : Nat) (Fw Fm : mMi → mRs → mRz) (m : mMi) : Prop :=
  (∃ v m₁ m₂, isNaN64 v = false ∧ (∀ rs, Fw m rs = rI (N 0) m₁ (rs.1, mUpdD rs.2.1 (mix (N 0)) v, rs.2.2)) ∧ (∀ rs, Fm m₁ rs = some (Sum.inl (some (mD v)), m₂, rs)) ∧ m₂ 4 0 0 0 = N 0 ∧ ccTop (B + 192) m₂ ∧ ∀ a j p, m₁ 3 a j p = m 3 a j p ∧ m₂ 3 a j p = m 3 a j p) ∨
  (∃ c m₁ m₂, c ≠ 0 ∧ c < 4 ∧ (∀ rs, Fw m rs = rI (N c) m₁ (rsT rs)) ∧ (∀ rs, Fm m₁ rs = some (Sum.inl (some (mD 0)), m₂, rs)) ∧ m₂ 4 0 0 0 = N c ∧ ccTop (B + 192) m₂ ∧ ∀ a j p, m₁ 3 a j p = m 3 a j p ∧ m₂ 3 a j p = m 3 a j p)
def ccArmF (B : Nat) (Fw Fm : mMi → mRs → mRz) (m : mMi) : Prop :=
  (∃ v m₁ m₂, isNaN64 (FP.f2d v) = false ∧ (∀ rs, Fw m rs = rI (N 0) m₁ (rs.1, mUpdD rs.2.1 (mix (N 0)) (FP.f2d v), rs.2.2)) ∧ (∀ rs, Fm m₁ rs = some (Sum.inl (some (mF v)), m₂, rs)) ∧ m₂ 4 0 0 0 = N 0 ∧ ccTop (B + 192) m₂ ∧ ∀ a j p, m₁ 3 a j p = m 3 a j p ∧ m₂ 3 a j p = m 3 a j p) ∨
  (∃ c m₁ m₂, c ≠ 0 ∧ c < 4 ∧ (∀ rs, Fw m rs = rI (N c) m₁ (rsT rs)) ∧ (∀ rs, Fm m₁ rs = some (Sum.inl (some (mF 0)), m₂, rs)) ∧ m₂ 4 0 0 0 = N c ∧ ccTop (B + 192) m₂ ∧ ∀ a j p, m₁ 3 a j p = m 3 a j p ∧ m₂ 3 a j p = m 3 a j p)
theorem bH_x {E p i : Nat} {tab : Nat → Option (Nat × Nat)} {k : Option mV → mMi → mRs → mRz} {kx : Nat → mMi → mRs → mRz} {m : mMi} {r : mRs} (h₁ : tab E = some (p, i)) : bH (some (.inr E, m, r)) tab k kx = kx p m r := by
  unfold bH
  dsimp only
  rw [h₁]
def ccHx (tab : Nat → Option (Nat × Nat)) (kx : Nat → mMi → mRs → mRz) (E c : Nat) : Prop := c ≠ 0 ∧ c < 4 ∧ ∃ p i, tab E = some (p, i) ∧ ∀ m r, kx p m r = rI (N c) m r
theorem ccEc1 {P : Nat → Nat → Prop} {a b : Nat} (h₁ : P a b) : ∀ E c, (E, c) ∈ [(a, b)] → P E c := fun E c h => by
  cases h with
  | head => exact h₁
  | tail _ h => cases h
theorem ccEc2 {P : Nat → Nat → Prop} {a b a₂ b₂ : Nat} (h₁ : P a b) (h₂ : P a₂ b₂) : ∀ E c, (E, c) ∈ [(a, b), (a₂, b₂)] → P E c := fun E c h => by
  cases h with
  | head => exact h₁
  | tail _ h => exact ccEc1 h₂ E c h
theorem ccEc3 {P : Nat → Nat → Prop} {a b a₂ b₂ a₃ b₃ : Nat} (h₁ : P a b) (h₂ : P a₂ b₂) (h₃ : P a₃ b₃) : ∀ E c, (E, c) ∈ [(a, b), (a₂, b₂), (a₃, b₃)] → P E c := fun E c h => by
  cases h with
  | head => exact h₁
  | tail _ h => exact ccEc2 h₂ h₃ E c h
theorem ccWrap {B : Nat} {Fw Fc Fm : mMi → mRs → mRz} {g : Int32 → Int64} {ec : List (Nat × Nat)} {m : mMi} {tab : Nat → Option (Nat × Nat)} {k : Int32 → mMi → mRs → mRz} {kx : Nat → mMi → mRs → mRz} (hw : ∀ m rs, Fw m rs = bH (Fc m rs) tab (kI k) kx) (hk : ∀ v m r, k v m r = rI (N 0) m (vp_updL r.1 (mix (N 0)) (g v), r.2.1, r.2.2)) (hx : ∀ E c, (E, c) ∈ ec → ccHx tab kx E c) (h₁ : ccOk B Fc Fm ec m) : ccArm B Fw Fm g m := by
  rcases h₁ with ⟨v, m₁, m₂, a₁, a₂, a₃, a₄, a₅⟩ | ⟨E, c, b, m₁, m₂, a₀, a₁, a₂, a₃, a₄, a₅⟩
  · refine Or.inl ⟨v, m₁, m₂, fun rs => ?_, a₂, a₃, a₄, fun a j p => ⟨(a₅ a j p).1, (a₅ a j p).2.1⟩⟩
    rw [hw, a₁]
    exact hk v m₁ rs
  · obtain ⟨c₁, c₂, p, i, c₃, c₄⟩ := hx E c a₀
    refine Or.inr ⟨c, b, m₁, m₂, c₁, c₂, fun rs => ?_, a₂, a₃, a₄, fun a j p => ⟨(a₅ a j p).1, (a₅ a j p).2.1⟩⟩
    rw [hw, a₁, bH_x c₃]
    exact c₄ m₁ (rsT rs)
theorem ccWrapD {B : Nat} {Fw Fc Fm : mMi → mRs → mRz} {ec : List (Nat × Nat)} {m : mMi} {tab : Nat → Option (Nat × Nat)} {k : UInt64 → mMi → mRs → mRz} {kx : Nat → mMi → mRs → mRz} (hw : ∀ m rs, Fw m rs = bH (Fc m rs) tab (kD k) kx) (hk : ∀ v m r, k v m r = rI (N 0) m (r.1, mUpdD r.2.1 (mix (N 0)) v, r.2.2)) (hx : ∀ E c, (E, c) ∈ ec → ccHx tab kx E c) (h₁ : ccOkD B Fc Fm ec m) : ccArmD B Fw Fm m := by
  rcases h₁ with ⟨v, m₁, m₂, a₀, a₁, a₂, a₃, a₄, a₅⟩ | ⟨E, c, m₁, m₂, a₀, a₁, a₂, a₃, a₄, a₅⟩
  · refine Or.inl ⟨v, m₁, m₂, a₀, fun rs => ?_, a₂, a₃, a₄, fun a j p => ⟨(a₅ a j p).1, (a₅ a j p).2.1⟩⟩
    rw [hw, a₁]
    exact hk v m₁ rs
  · obtain ⟨c₁, c₂, p, i, c₃, c₄⟩ := hx E c a₀
    refine Or.inr ⟨c, m₁, m₂, c₁, c₂, fun rs => ?_, a₂, a₃, a₄, fun a j p => ⟨(a₅ a j p).1, (a₅ a j p).2.1⟩⟩
    rw [hw, a₁, bH_x c₃]
    exact c₄ m₁ (rsT rs)
theorem ccWrapF {B : Nat} {Fw Fc Fm : mMi → mRs → mRz} {ec : List (Nat × Nat)} {m : mMi} {tab : Nat → Option (Nat × Nat)} {k : UInt32 → mMi → mRs → mRz} {kx : Nat → mMi → mRs → mRz} (hw : ∀ m rs, Fw m rs = bH (Fc m rs) tab (kF k) kx) (hk : ∀ v m r, isNaN64 (FP.f2d v) = false → k v m r = rI (N 0) m (r.1, mUpdD r.2.1 (mix (N 0)) (FP.f2d v), r.2.2)) (hx : ∀ E c, (E, c) ∈ ec → ccHx tab kx E c) (h₁ : ccOkF B Fc Fm ec m) : ccArmF B Fw Fm m := by
  rcases h₁ with ⟨v, m₁, m₂, a₀, a₁, a₂, a₃, a₄, a₅⟩ | ⟨E, c, m₁, m₂, a₀, a₁, a₂, a₃, a₄, a₅⟩
  · refine Or.inl ⟨v, m₁, m₂, a₀, fun rs => ?_, a₂, a₃, a₄, fun a j p => ⟨(a₅ a j p).1, (a₅ a j p).2.1⟩⟩
    rw [hw, a₁]
    exact hk v m₁ rs a₀
  · obtain ⟨c₁, c₂, p, i, c₃, c₄⟩ := hx E c a₀
    refine Or.inr ⟨c, m₁, m₂, c₁, c₂, fun rs => ?_, a₂, a₃, a₄, fun a j p => ⟨(a₅ a j p).1, (a₅ a j p).2.1⟩⟩
    rw [hw, a₁, bH_x c₃]
    exact c₄ m₁ (rsT rs)
theorem ccKb {v : Int32} {m : mMi} {r : mRs} : mifO (decide (v = N 0)) (mckO (mIn (N 0) 1 && true && true && true) (some (.inl (some (mI (N 0))), m, ((vp_updL r.1 (mix (N 0)) (0 : Int64)), r.2.1, r.2.2)))) (mckO (mIn (N 0) 1 && true && true && true) (some (.inl (some (mI (N 0))), m, ((vp_updL r.1 (mix (N 0)) (1 : Int64)), r.2.1, r.2.2)))) = rI (N 0) m (vp_updL r.1 (mix (N 0)) (if v = N 0 then 0 else 1), r.2.1, r.2.2) := by
  rw [ccM01, ccM01]
  by_cases h₁ : v = N 0
  · rw [decide_eq_true h₁, if_pos h₁]
    rfl
  · rw [decide_eq_false h₁, if_neg h₁]
    rfl
/-- what an arm comes to: it goes on -/
def ccTo (B : Nat) (K : mMi → mRs → mRz) (m : mMi) (rs : mRs) (z : mRz) : Prop := ∃ m₂ r₂, z = K m₂ r₂ ∧ ccTop (B + 192) m₂ ∧ (∀ a j p, m₂ 3 a j p = m 3 a j p) ∧ r₂.2.2.2.1 ≤ rs.2.2.2.1 + 1 ∧ r₂.2.2.2.2 ≤ rs.2.2.2.2 + 6
theorem ccEndI {K : mMi → mRs → mRz} {m : mMi} {r : mRs} {v : Int32} {z z₂ : mRz} (h : r.1 0 = Int32.toInt64 v) : mifO (decide (N 0 = N 0)) (mifO (decide (N 0 ≠ N 0)) (K m r) (mifO (decide ((if (r.1 0) < (Int32.toInt64 v) then -1 else if (r.1 0) = (Int32.toInt64 v) then 0 else 1) = (N 0))) (K m (r.1, r.2.1, r.2.2)) z)) z₂ = K m r := by
  rw [ccIf0e, ccIf0, h, ccIte, if_pos ccCmpL]
theorem ccEndB {K : mMi → mRs → mRz} {m : mMi} {r : mRs} {v : Int32} {z z₂ z₃ : mRz} (h : r.1 0 = if v = N 0 then 0 else 1) : mifO (decide (N 0 = N 0)) (mifO (decide (N 0 ≠ N 0)) (K m r) (mifO (decide (v = N 0)) (mifO (decide ((if (r.1 0) < (0 : Int64) then -1 else if (r.1 0) = (0 : Int64) then 0 else 1) = (N 0))) (K m (r.1, r.2.1, r.2.2)) z) (mifO (decide ((if (r.1 0) < (1 : Int64) then -1 else if (r.1 0) = (1 : Int64) then 0 else 1) = (N 0))) (K m (r.1, r.2.1, r.2.2)) z₃))) z₂ = K m r := by
  rw [ccIf0e, ccIf0, ccIte]
  by_cases h₁ : v = N 0
  · rw [if_pos h₁] at h
    rw [if_pos h₁, h, ccIte, if_pos ccCmpL]
  · rw [if_neg h₁] at h
    rw [if_neg h₁, h, ccIte, if_pos ccCmpL]
theorem ccEndD {K : mMi → mRs → mRz} {m : mMi} {r : mRs} {v : UInt64} {z z₂ : mRz} (h : r.2.1 0 = v) (h₁ : isNaN64 v = false) : mifO (decide (N 0 = N 0)) (mifO (decide (N 0 ≠ N 0)) (K m r) (mifO (decide ((Op.cmpValue (FP.dcmp (r.2.1 0) v) .l) = (N 0))) (K m (r.1, r.2.1, r.2.2)) z)) z₂ = K m r := by
  rw [ccIf0e, ccIf0, h, ccIte, if_pos (ccDcmp h₁)]
theorem ccEndX {K : mMi → mRs → mRz} {m : mMi} {r : mRs} {c : Nat} {z z₂ : mRz} (h₁ : c ≠ 0) (h₂ : c < 4) : mifO (decide (N c = N c)) (mifO (decide (N c ≠ N 0)) (K m r) z) z₂ = K m r := by
  rw [ccIte, if_pos rfl, ccIte, if_pos (ccNzC h₁ h₂)]
theorem ccEndV {K : mMi → mRs → mRz} {m : mMi} {r : mRs} {v : Int32} {z : mRz} : mifO (decide (v = v)) (K m r) z = K m r := by
  rw [ccIte, if_pos rfl]
theorem ccAm_B2 {B L : Nat} {x5 : Int32} {Fw Fm : Int32 → Int32 → mMi → mRs → mRz} {mi : mMi} {rs : mRs} (K : mMi → mRs → mRz) (hL : ∀ k, 1 ≤ k → k ≤ 5 → mIn (x5 + (N k)) L = true) (h : ∀ x₁ x₂, ccArm B (Fw x₁ x₂) (Fm x₁ x₂) (fun v => if v = N 0 then 0 else 1) mi) : ccTo B K mi rs (mckO (mIn (x5 + (N 1)) L) (mckO (mIn (x5 + (N 2)) L) (bI (Fw (mi 3 0 0 (mix (x5 + (N 1)))) (mi 3 0 0 (mix (x5 + (N 2)))) mi rs) (fun v₁ m₁ r₁ => mckO (mIn (x5 + (N 1)) L) (mckO (mIn (x5 + (N 2)) L) (bI (Fm (m₁ 3 0 0 (mix (x5 + (N 1)))) (m₁ 3 0 0 (mix (x5 + (N 2)))) m₁ r₁) (fun v₂ m₂ r₂ => bI (F171 m₂ r₂) (fun v₃ m₃ r₃ => mifO (decide (v₃ = v₁)) (mifO (decide (v₁ ≠ (N 0))) (K m₃ r₃) (mifO (decide (v₂ = (N 0))) (mifO (decide ((if ((r₃).1 0) < (0 : Int64) then -1 else if ((r₃).1 0) = (0 : Int64) then 0 else 1) = (N 0))) (K m₃ ((r₃).1, (r₃).2.1, (r₃).2.2)) (some (.inl (some (mI (N 0))), m₃, ((r₃).1, (r₃).2.1, (r₃).2.2)))) (mifO (decide ((if ((r₃).1 0) < (1 : Int64) then -1 else if ((r₃).1 0) = (1 : Int64) then 0 else 1) = (N 0))) (K m₃ ((r₃).1, (r₃).2.1, (r₃).2.2)) (some (.inl (some (mI (N 0))), m₃, ((r₃).1, (r₃).2.1, (r₃).2.2)))))) (some (.inl (some (mI (N 0))), m₃, r₃)))))))))) := by
  rcases h (mi 3 0 0 (mix (x5 + (N 1)))) (mi 3 0 0 (mix (x5 + (N 2)))) with ⟨v, m₁, m₂, a₁, a₂, a₃, a₄, a₅⟩ | ⟨c, b, m₁, m₂, c₁, c₂, a₁, a₂, a₃, a₄, a₅⟩
  · refine ⟨m₂, (vp_updL rs.1 (mix (N 0)) (if v = N 0 then 0 else 1), rs.2.1, rs.2.2), ?_, a₄, fun a j p => (a₅ a j p).2, Nat.le_add_right _ _, Nat.le_add_right _ _⟩
    rw [ccMck (hL 1 (by omega) (by omega)), ccMck (hL 2 (by omega) (by omega)), a₁, ccBi, ccMck (hL 1 (by omega) (by omega)), ccMck (hL 2 (by omega) (by omega)), (a₅ 0 0 (mix (x5 + (N 1)))).1, (a₅ 0 0 (mix (x5 + (N 2)))).1, a₂, ccBi, ccE171, ccBi, a₃]
    exact ccEndB (r := (vp_updL rs.1 (mix (N 0)) (if v = N 0 then 0 else 1), rs.2.1, rs.2.2)) (ccUp₀ (f := rs.1) (z := if v = N 0 then 0 else 1))
  · refine ⟨m₂, rsT rs, ?_, a₄, fun a j p => (a₅ a j p).2, Nat.le_refl _, Nat.le_refl _⟩
    rw [ccMck (hL 1 (by omega) (by omega)), ccMck (hL 2 (by omega) (by omega)), a₁, ccBi, ccMck (hL 1 (by omega) (by omega)), ccMck (hL 2 (by omega) (by omega)), (a₅ 0 0 (mix (x5 + (N 1)))).1, (a₅ 0 0 (mix (x5 + (N 2)))).1, a₂, ccBi, ccE171, ccBi, a₃]
    exact ccEndX c₁ c₂
theorem ccBd₀ {v : UInt64} {mi : mMi} {rs : mRs} {k : UInt64 → mMi → mRs → mRz} : bD (some (.inl (some (mD v)), mi, rs)) k = k v mi rs := rfl
theorem ccAm_D0 {B L : Nat} {x5 : Int32} {Fw Fm : mMi → mRs → mRz} {mi : mMi} {rs : mRs} (K : mMi → mRs → mRz) (hL : ∀ k, 1 ≤ k → k ≤ 5 → mIn (x5 + (N k)) L = true) (h : ccArmD B Fw Fm mi) : ccTo B K mi rs (bI (Fw mi rs) (fun v₁ m₁ r₁ => bD (Fm m₁ r₁) (fun v₂ m₂ r₂ => bI (F171 m₂ r₂) (fun v₃ m₃ r₃ => mifO (decide (v₃ = v₁)) (mifO (decide (v₁ ≠ (N 0))) (K m₃ r₃) (mifO (decide ((Op.cmpValue (FP.dcmp ((r₃).2.1 0) v₂) .l) = (N 0))) (K m₃ ((r₃).1, (r₃).2.1, (r₃).2.2)) (mifO (decide ((Op.cmpValue (FP.dcmp ((((r₃).1, (r₃).2.1, (r₃).2.2)).2.1 0) ((((r₃).1, (r₃).2.1, (r₃).2.2)).2.1 0)) .l) = (N 0))) (some (.inl (some (mI (N 0))), m₃, ((((r₃).1, (r₃).2.1, (r₃).2.2)).1, (((r₃).1, (r₃).2.1, (r₃).2.2)).2.1, (((r₃).1, (r₃).2.1, (r₃).2.2)).2.2))) (mifO (decide ((Op.cmpValue (FP.dcmp v₂ v₂) .l) ≠ (N 0))) (K m₃ ((((r₃).1, (r₃).2.1, (r₃).2.2)).1, (((r₃).1, (r₃).2.1, (r₃).2.2)).2.1, (((r₃).1, (r₃).2.1, (r₃).2.2)).2.2)) (some (.inl (some (mI (N 0))), m₃, ((((r₃).1, (r₃).2.1, (r₃).2.2)).1, (((r₃).1, (r₃).2.1, (r₃).2.2)).2.1, (((r₃).1, (r₃).2.1, (r₃).2.2)).2.2))))))) (some (.inl (some (mI (N 0))), m₃, r₃)))))) := by
  rcases h with ⟨v, m₁, m₂, a₀, a₁, a₂, a₃, a₄, a₅⟩ | ⟨c, m₁, m₂, c₁, c₂, a₁, a₂, a₃, a₄, a₅⟩
  · refine ⟨m₂, (rs.1, mUpdD rs.2.1 (mix (N 0)) v, rs.2.2), ?_, a₄, fun a j p => (a₅ a j p).2, Nat.le_add_right _ _, Nat.le_add_right _ _⟩
    rw [a₁, ccBi, a₂, ccBd₀, ccE171, ccBi, a₃]
    exact ccEndD (r := (rs.1, mUpdD rs.2.1 (mix (N 0)) v, rs.2.2)) (ccUpD₀ (f := rs.2.1) (z := v)) a₀
  · refine ⟨m₂, rsT rs, ?_, a₄, fun a j p => (a₅ a j p).2, Nat.le_refl _, Nat.le_refl _⟩
    rw [a₁, ccBi, a₂, ccBd₀, ccE171, ccBi, a₃]
    exact ccEndX c₁ c₂
theorem ccBf₀ {v : UInt32} {mi : mMi} {rs : mRs} {k : UInt32 → mMi → mRs → mRz} : bF (some (.inl (some (mF v)), mi, rs)) k = k v mi rs := rfl
theorem ccAm_F0 {B L : Nat} {x5 : Int32} {Fw Fm : mMi → mRs → mRz} {mi : mMi} {rs : mRs} (K : mMi → mRs → mRz) (hL : ∀ k, 1 ≤ k → k ≤ 5 → mIn (x5 + (N k)) L = true) (h : ccArmF B Fw Fm mi) : ccTo B K mi rs (bI (Fw mi rs) (fun v₁ m₁ r₁ => bF (Fm m₁ r₁) (fun v₂ m₂ r₂ => bI (F171 m₂ r₂) (fun v₃ m₃ r₃ => mifO (decide (v₃ = v₁)) (mifO (decide (v₁ ≠ (N 0))) (K m₃ r₃) (mckO (!(isNaN64 (FP.f2d v₂))) (mifO (decide ((Op.cmpValue (FP.dcmp ((r₃).2.1 0) (FP.f2d v₂)) .l) = (N 0))) (K m₃ ((r₃).1, (r₃).2.1, (r₃).2.2)) (mifO (decide ((Op.cmpValue (FP.dcmp ((((r₃).1, (r₃).2.1, (r₃).2.2)).2.1 0) ((((r₃).1, (r₃).2.1, (r₃).2.2)).2.1 0)) .l) = (N 0))) (some (.inl (some (mI (N 0))), m₃, ((((r₃).1, (r₃).2.1, (r₃).2.2)).1, (((r₃).1, (r₃).2.1, (r₃).2.2)).2.1, (((r₃).1, (r₃).2.1, (r₃).2.2)).2.2))) (mifO (decide ((Op.cmpValue (FP.fcmp v₂ v₂) .l) ≠ (N 0))) (K m₃ ((((r₃).1, (r₃).2.1, (r₃).2.2)).1, (((r₃).1, (r₃).2.1, (r₃).2.2)).2.1, (((r₃).1, (r₃).2.1, (r₃).2.2)).2.2)) (some (.inl (some (mI (N 0))), m₃, ((((r₃).1, (r₃).2.1, (r₃).2.2)).1, (((r₃).1, (r₃).2.1, (r₃).2.2)).2.1, (((r₃).1, (r₃).2.1, (r₃).2.2)).2.2)))))))) (some (.inl (some (mI (N 0))), m₃, r₃)))))) := by
  rcases h with ⟨v, m₁, m₂, a₀, a₁, a₂, a₃, a₄, a₅⟩ | ⟨c, m₁, m₂, c₁, c₂, a₁, a₂, a₃, a₄, a₅⟩
  · refine ⟨m₂, (rs.1, mUpdD rs.2.1 (mix (N 0)) (FP.f2d v), rs.2.2), ?_, a₄, fun a j p => (a₅ a j p).2, Nat.le_add_right _ _, Nat.le_add_right _ _⟩
    rw [a₁, ccBi, a₂, ccBf₀, ccE171, ccBi, a₃]
    have e₀ : (!(isNaN64 (FP.f2d v))) = true := by rw [a₀]; rfl
    rw [ccMck e₀]
    exact ccEndD (r := (rs.1, mUpdD rs.2.1 (mix (N 0)) (FP.f2d v), rs.2.2)) (ccUpD₀ (f := rs.2.1) (z := (FP.f2d v))) a₀
  · refine ⟨m₂, rsT rs, ?_, a₄, fun a j p => (a₅ a j p).2, Nat.le_refl _, Nat.le_refl _⟩
    rw [a₁, ccBi, a₂, ccBf₀, ccE171, ccBi, a₃]
    exact ccEndX c₁ c₂
theorem ccAm_I0 {B L : Nat} {x5 : Int32} {Fw Fm : mMi → mRs → mRz} {mi : mMi} {rs : mRs} (K : mMi → mRs → mRz) (hL : ∀ k, 1 ≤ k → k ≤ 5 → mIn (x5 + (N k)) L = true) (h : ccArm B Fw Fm Int32.toInt64 mi) : ccTo B K mi rs (bI (Fw mi rs) (fun v₁ m₁ r₁ => bI (Fm m₁ r₁) (fun v₂ m₂ r₂ => bI (F171 m₂ r₂) (fun v₃ m₃ r₃ => mifO (decide (v₃ = v₁)) (mifO (decide (v₁ ≠ (N 0))) (K m₃ r₃) (mifO (decide ((if ((r₃).1 0) < (Int32.toInt64 v₂) then -1 else if ((r₃).1 0) = (Int32.toInt64 v₂) then 0 else 1) = (N 0))) (K m₃ ((r₃).1, (r₃).2.1, (r₃).2.2)) (some (.inl (some (mI (N 0))), m₃, ((r₃).1, (r₃).2.1, (r₃).2.2))))) (some (.inl (some (mI (N 0))), m₃, r₃)))))) := by
  rcases h with ⟨v, m₁, m₂, a₁, a₂, a₃, a₄, a₅⟩ | ⟨c, b, m₁, m₂, c₁, c₂, a₁, a₂, a₃, a₄, a₅⟩
  · refine ⟨m₂, (vp_updL rs.1 (mix (N 0)) (Int32.toInt64 v), rs.2.1, rs.2.2), ?_, a₄, fun a j p => (a₅ a j p).2, Nat.le_add_right _ _, Nat.le_add_right _ _⟩
    rw [a₁, ccBi, a₂, ccBi, ccE171, ccBi, a₃]
    exact ccEndI (r := (vp_updL rs.1 (mix (N 0)) (Int32.toInt64 v), rs.2.1, rs.2.2)) (ccUp₀ (f := rs.1) (z := Int32.toInt64 v))
  · refine ⟨m₂, rsT rs, ?_, a₄, fun a j p => (a₅ a j p).2, Nat.le_refl _, Nat.le_refl _⟩
    rw [a₁, ccBi, a₂, ccBi, ccE171, ccBi, a₃]
    exact ccEndX c₁ c₂
theorem ccAm_I1 {B L : Nat} {x5 : Int32} {Fw Fm : Int32 → mMi → mRs → mRz} {mi : mMi} {rs : mRs} (K : mMi → mRs → mRz) (hL : ∀ k, 1 ≤ k → k ≤ 5 → mIn (x5 + (N k)) L = true) (h : ∀ x₁, ccArm B (Fw x₁) (Fm x₁) Int32.toInt64 mi) : ccTo B K mi rs (mckO (mIn (x5 + (N 1)) L) (bI (Fw (mi 3 0 0 (mix (x5 + (N 1)))) mi rs) (fun v₁ m₁ r₁ => mckO (mIn (x5 + (N 1)) L) (bI (Fm (m₁ 3 0 0 (mix (x5 + (N 1)))) m₁ r₁) (fun v₂ m₂ r₂ => bI (F171 m₂ r₂) (fun v₃ m₃ r₃ => mifO (decide (v₃ = v₁)) (mifO (decide (v₁ ≠ (N 0))) (K m₃ r₃) (mifO (decide ((if ((r₃).1 0) < (Int32.toInt64 v₂) then -1 else if ((r₃).1 0) = (Int32.toInt64 v₂) then 0 else 1) = (N 0))) (K m₃ ((r₃).1, (r₃).2.1, (r₃).2.2)) (some (.inl (some (mI (N 0))), m₃, ((r₃).1, (r₃).2.1, (r₃).2.2))))) (some (.inl (some (mI (N 0))), m₃, r₃)))))))) := by
  rcases h (mi 3 0 0 (mix (x5 + (N 1)))) with ⟨v, m₁, m₂, a₁, a₂, a₃, a₄, a₅⟩ | ⟨c, b, m₁, m₂, c₁, c₂, a₁, a₂, a₃, a₄, a₅⟩
  · refine ⟨m₂, (vp_updL rs.1 (mix (N 0)) (Int32.toInt64 v), rs.2.1, rs.2.2), ?_, a₄, fun a j p => (a₅ a j p).2, Nat.le_add_right _ _, Nat.le_add_right _ _⟩
    rw [ccMck (hL 1 (by omega) (by omega)), a₁, ccBi, ccMck (hL 1 (by omega) (by omega)), (a₅ 0 0 (mix (x5 + (N 1)))).1, a₂, ccBi, ccE171, ccBi, a₃]
    exact ccEndI (r := (vp_updL rs.1 (mix (N 0)) (Int32.toInt64 v), rs.2.1, rs.2.2)) (ccUp₀ (f := rs.1) (z := Int32.toInt64 v))
  · refine ⟨m₂, rsT rs, ?_, a₄, fun a j p => (a₅ a j p).2, Nat.le_refl _, Nat.le_refl _⟩
    rw [ccMck (hL 1 (by omega) (by omega)), a₁, ccBi, ccMck (hL 1 (by omega) (by omega)), (a₅ 0 0 (mix (x5 + (N 1)))).1, a₂, ccBi, ccE171, ccBi, a₃]
    exact ccEndX c₁ c₂
theorem ccAm_I2 {B L : Nat} {x5 : Int32} {Fw Fm : Int32 → Int32 → mMi → mRs → mRz} {mi : mMi} {rs : mRs} (K : mMi → mRs → mRz) (hL : ∀ k, 1 ≤ k → k ≤ 5 → mIn (x5 + (N k)) L = true) (h : ∀ x₁ x₂, ccArm B (Fw x₁ x₂) (Fm x₁ x₂) Int32.toInt64 mi) : ccTo B K mi rs (mckO (mIn (x5 + (N 1)) L) (mckO (mIn (x5 + (N 2)) L) (bI (Fw (mi 3 0 0 (mix (x5 + (N 1)))) (mi 3 0 0 (mix (x5 + (N 2)))) mi rs) (fun v₁ m₁ r₁ => mckO (mIn (x5 + (N 1)) L) (mckO (mIn (x5 + (N 2)) L) (bI (Fm (m₁ 3 0 0 (mix (x5 + (N 1)))) (m₁ 3 0 0 (mix (x5 + (N 2)))) m₁ r₁) (fun v₂ m₂ r₂ => bI (F171 m₂ r₂) (fun v₃ m₃ r₃ => mifO (decide (v₃ = v₁)) (mifO (decide (v₁ ≠ (N 0))) (K m₃ r₃) (mifO (decide ((if ((r₃).1 0) < (Int32.toInt64 v₂) then -1 else if ((r₃).1 0) = (Int32.toInt64 v₂) then 0 else 1) = (N 0))) (K m₃ ((r₃).1, (r₃).2.1, (r₃).2.2)) (some (.inl (some (mI (N 0))), m₃, ((r₃).1, (r₃).2.1, (r₃).2.2))))) (some (.inl (some (mI (N 0))), m₃, r₃)))))))))) := by
  rcases h (mi 3 0 0 (mix (x5 + (N 1)))) (mi 3 0 0 (mix (x5 + (N 2)))) with ⟨v, m₁, m₂, a₁, a₂, a₃, a₄, a₅⟩ | ⟨c, b, m₁, m₂, c₁, c₂, a₁, a₂, a₃, a₄, a₅⟩
  · refine ⟨m₂, (vp_updL rs.1 (mix (N 0)) (Int32.toInt64 v), rs.2.1, rs.2.2), ?_, a₄, fun a j p => (a₅ a j p).2, Nat.le_add_right _ _, Nat.le_add_right _ _⟩
    rw [ccMck (hL 1 (by omega) (by omega)), ccMck (hL 2 (by omega) (by omega)), a₁, ccBi, ccMck (hL 1 (by omega) (by omega)), ccMck (hL 2 (by omega) (by omega)), (a₅ 0 0 (mix (x5 + (N 1)))).1, (a₅ 0 0 (mix (x5 + (N 2)))).1, a₂, ccBi, ccE171, ccBi, a₃]
    exact ccEndI (r := (vp_updL rs.1 (mix (N 0)) (Int32.toInt64 v), rs.2.1, rs.2.2)) (ccUp₀ (f := rs.1) (z := Int32.toInt64 v))
  · refine ⟨m₂, rsT rs, ?_, a₄, fun a j p => (a₅ a j p).2, Nat.le_refl _, Nat.le_refl _⟩
    rw [ccMck (hL 1 (by omega) (by omega)), ccMck (hL 2 (by omega) (by omega)), a₁, ccBi, ccMck (hL 1 (by omega) (by omega)), ccMck (hL 2 (by omega) (by omega)), (a₅ 0 0 (mix (x5 + (N 1)))).1, (a₅ 0 0 (mix (x5 + (N 2)))).1, a₂, ccBi, ccE171, ccBi, a₃]
    exact ccEndX c₁ c₂
theorem ccAm_I3 {B L : Nat} {x5 : Int32} {Fw Fm : Int32 → Int32 → Int32 → mMi → mRs → mRz} {mi : mMi} {rs : mRs} (K : mMi → mRs → mRz) (hL : ∀ k, 1 ≤ k → k ≤ 5 → mIn (x5 + (N k)) L = true) (h : ∀ x₁ x₂ x₃, ccArm B (Fw x₁ x₂ x₃) (Fm x₁ x₂ x₃) Int32.toInt64 mi) : ccTo B K mi rs (mckO (mIn (x5 + (N 1)) L) (mckO (mIn (x5 + (N 2)) L) (mckO (mIn (x5 + (N 3)) L) (bI (Fw (mi 3 0 0 (mix (x5 + (N 1)))) (mi 3 0 0 (mix (x5 + (N 2)))) (mi 3 0 0 (mix (x5 + (N 3)))) mi rs) (fun v₁ m₁ r₁ => mckO (mIn (x5 + (N 1)) L) (mckO (mIn (x5 + (N 2)) L) (mckO (mIn (x5 + (N 3)) L) (bI (Fm (m₁ 3 0 0 (mix (x5 + (N 1)))) (m₁ 3 0 0 (mix (x5 + (N 2)))) (m₁ 3 0 0 (mix (x5 + (N 3)))) m₁ r₁) (fun v₂ m₂ r₂ => bI (F171 m₂ r₂) (fun v₃ m₃ r₃ => mifO (decide (v₃ = v₁)) (mifO (decide (v₁ ≠ (N 0))) (K m₃ r₃) (mifO (decide ((if ((r₃).1 0) < (Int32.toInt64 v₂) then -1 else if ((r₃).1 0) = (Int32.toInt64 v₂) then 0 else 1) = (N 0))) (K m₃ ((r₃).1, (r₃).2.1, (r₃).2.2)) (some (.inl (some (mI (N 0))), m₃, ((r₃).1, (r₃).2.1, (r₃).2.2))))) (some (.inl (some (mI (N 0))), m₃, r₃)))))))))))) := by
  rcases h (mi 3 0 0 (mix (x5 + (N 1)))) (mi 3 0 0 (mix (x5 + (N 2)))) (mi 3 0 0 (mix (x5 + (N 3)))) with ⟨v, m₁, m₂, a₁, a₂, a₃, a₄, a₅⟩ | ⟨c, b, m₁, m₂, c₁, c₂, a₁, a₂, a₃, a₄, a₅⟩
  · refine ⟨m₂, (vp_updL rs.1 (mix (N 0)) (Int32.toInt64 v), rs.2.1, rs.2.2), ?_, a₄, fun a j p => (a₅ a j p).2, Nat.le_add_right _ _, Nat.le_add_right _ _⟩
    rw [ccMck (hL 1 (by omega) (by omega)), ccMck (hL 2 (by omega) (by omega)), ccMck (hL 3 (by omega) (by omega)), a₁, ccBi, ccMck (hL 1 (by omega) (by omega)), ccMck (hL 2 (by omega) (by omega)), ccMck (hL 3 (by omega) (by omega)), (a₅ 0 0 (mix (x5 + (N 1)))).1, (a₅ 0 0 (mix (x5 + (N 2)))).1, (a₅ 0 0 (mix (x5 + (N 3)))).1, a₂, ccBi, ccE171, ccBi, a₃]
    exact ccEndI (r := (vp_updL rs.1 (mix (N 0)) (Int32.toInt64 v), rs.2.1, rs.2.2)) (ccUp₀ (f := rs.1) (z := Int32.toInt64 v))
  · refine ⟨m₂, rsT rs, ?_, a₄, fun a j p => (a₅ a j p).2, Nat.le_refl _, Nat.le_refl _⟩
    rw [ccMck (hL 1 (by omega) (by omega)), ccMck (hL 2 (by omega) (by omega)), ccMck (hL 3 (by omega) (by omega)), a₁, ccBi, ccMck (hL 1 (by omega) (by omega)), ccMck (hL 2 (by omega) (by omega)), ccMck (hL 3 (by omega) (by omega)), (a₅ 0 0 (mix (x5 + (N 1)))).1, (a₅ 0 0 (mix (x5 + (N 2)))).1, (a₅ 0 0 (mix (x5 + (N 3)))).1, a₂, ccBi, ccE171, ccBi, a₃]
    exact ccEndX c₁ c₂
theorem ccAm_I5 {B L : Nat} {x5 : Int32} {Fw Fm : Int32 → Int32 → Int32 → Int32 → Int32 → mMi → mRs → mRz} {mi : mMi} {rs : mRs} (K : mMi → mRs → mRz) (hL : ∀ k, 1 ≤ k → k ≤ 5 → mIn (x5 + (N k)) L = true) (h : ∀ x₁ x₂ x₃ x₄ x₅, ccArm B (Fw x₁ x₂ x₃ x₄ x₅) (Fm x₁ x₂ x₃ x₄ x₅) Int32.toInt64 mi) : ccTo B K mi rs (mckO (mIn (x5 + (N 1)) L) (mckO (mIn (x5 + (N 2)) L) (mckO (mIn (x5 + (N 3)) L) (mckO (mIn (x5 + (N 4)) L) (mckO (mIn (x5 + (N 5)) L) (bI (Fw (mi 3 0 0 (mix (x5 + (N 1)))) (mi 3 0 0 (mix (x5 + (N 2)))) (mi 3 0 0 (mix (x5 + (N 3)))) (mi 3 0 0 (mix (x5 + (N 4)))) (mi 3 0 0 (mix (x5 + (N 5)))) mi rs) (fun v₁ m₁ r₁ => mckO (mIn (x5 + (N 1)) L) (mckO (mIn (x5 + (N 2)) L) (mckO (mIn (x5 + (N 3)) L) (mckO (mIn (x5 + (N 4)) L) (mckO (mIn (x5 + (N 5)) L) (bI (Fm (m₁ 3 0 0 (mix (x5 + (N 1)))) (m₁ 3 0 0 (mix (x5 + (N 2)))) (m₁ 3 0 0 (mix (x5 + (N 3)))) (m₁ 3 0 0 (mix (x5 + (N 4)))) (m₁ 3 0 0 (mix (x5 + (N 5)))) m₁ r₁) (fun v₂ m₂ r₂ => bI (F171 m₂ r₂) (fun v₃ m₃ r₃ => mifO (decide (v₃ = v₁)) (mifO (decide (v₁ ≠ (N 0))) (K m₃ r₃) (mifO (decide ((if ((r₃).1 0) < (Int32.toInt64 v₂) then -1 else if ((r₃).1 0) = (Int32.toInt64 v₂) then 0 else 1) = (N 0))) (K m₃ ((r₃).1, (r₃).2.1, (r₃).2.2)) (some (.inl (some (mI (N 0))), m₃, ((r₃).1, (r₃).2.1, (r₃).2.2))))) (some (.inl (some (mI (N 0))), m₃, r₃)))))))))))))))) := by
  rcases h (mi 3 0 0 (mix (x5 + (N 1)))) (mi 3 0 0 (mix (x5 + (N 2)))) (mi 3 0 0 (mix (x5 + (N 3)))) (mi 3 0 0 (mix (x5 + (N 4)))) (mi 3 0 0 (mix (x5 + (N 5)))) with ⟨v, m₁, m₂, a₁, a₂, a₃, a₄, a₅⟩ | ⟨c, b, m₁, m₂, c₁, c₂, a₁, a₂, a₃, a₄, a₅⟩
  · refine ⟨m₂, (vp_updL rs.1 (mix (N 0)) (Int32.toInt64 v), rs.2.1, rs.2.2), ?_, a₄, fun a j p => (a₅ a j p).2, Nat.le_add_right _ _, Nat.le_add_right _ _⟩
    rw [ccMck (hL 1 (by omega) (by omega)), ccMck (hL 2 (by omega) (by omega)), ccMck (hL 3 (by omega) (by omega)), ccMck (hL 4 (by omega) (by omega)), ccMck (hL 5 (by omega) (by omega)), a₁, ccBi, ccMck (hL 1 (by omega) (by omega)), ccMck (hL 2 (by omega) (by omega)), ccMck (hL 3 (by omega) (by omega)), ccMck (hL 4 (by omega) (by omega)), ccMck (hL 5 (by omega) (by omega)), (a₅ 0 0 (mix (x5 + (N 1)))).1, (a₅ 0 0 (mix (x5 + (N 2)))).1, (a₅ 0 0 (mix (x5 + (N 3)))).1, (a₅ 0 0 (mix (x5 + (N 4)))).1, (a₅ 0 0 (mix (x5 + (N 5)))).1, a₂, ccBi, ccE171, ccBi, a₃]
    exact ccEndI (r := (vp_updL rs.1 (mix (N 0)) (Int32.toInt64 v), rs.2.1, rs.2.2)) (ccUp₀ (f := rs.1) (z := Int32.toInt64 v))
  · refine ⟨m₂, rsT rs, ?_, a₄, fun a j p => (a₅ a j p).2, Nat.le_refl _, Nat.le_refl _⟩
    rw [ccMck (hL 1 (by omega) (by omega)), ccMck (hL 2 (by omega) (by omega)), ccMck (hL 3 (by omega) (by omega)), ccMck (hL 4 (by omega) (by omega)), ccMck (hL 5 (by omega) (by omega)), a₁, ccBi, ccMck (hL 1 (by omega) (by omega)), ccMck (hL 2 (by omega) (by omega)), ccMck (hL 3 (by omega) (by omega)), ccMck (hL 4 (by omega) (by omega)), ccMck (hL 5 (by omega) (by omega)), (a₅ 0 0 (mix (x5 + (N 1)))).1, (a₅ 0 0 (mix (x5 + (N 2)))).1, (a₅ 0 0 (mix (x5 + (N 3)))).1, (a₅ 0 0 (mix (x5 + (N 4)))).1, (a₅ 0 0 (mix (x5 + (N 5)))).1, a₂, ccBi, ccE171, ccBi, a₃]
    exact ccEndX c₁ c₂
theorem ccAm_V0 {B L : Nat} {x5 : Int32} {Fw Fm : mMi → mRs → mRz} {mi : mMi} {rs : mRs} (K : mMi → mRs → mRz) (hL : ∀ k, 1 ≤ k → k ≤ 5 → mIn (x5 + (N k)) L = true) (h : ccOk B Fw Fm [] mi) : ccTo B K mi rs (bI (Fw mi rs) (fun v₁ m₁ r₁ => bI (Fm m₁ r₁) (fun v₂ m₂ r₂ => mifO (decide (v₁ = v₂)) (K m₂ r₂) (some (.inl (some (mI (N 0))), m₂, r₂))))) := by
  rcases h with ⟨v, m₁, m₂, a₁, a₂, a₃, a₄, a₅⟩ | ⟨E, c, b, m₁, m₂, a₀, a₁, a₂, a₃, a₄, a₅⟩
  · refine ⟨m₂, rs, ?_, a₄, fun a j p => (a₅ a j p).2.1, by omega, by omega⟩
    rw [a₁, ccBi, a₂, ccBi]
    exact ccEndV
  · cases a₀
theorem ccAm_V5 {B L : Nat} {x5 : Int32} {Fw Fm : Int32 → Int32 → Int32 → Int32 → Int32 → mMi → mRs → mRz} {mi : mMi} {rs : mRs} (K : mMi → mRs → mRz) (hL : ∀ k, 1 ≤ k → k ≤ 5 → mIn (x5 + (N k)) L = true) (h : ∀ x₁ x₂ x₃ x₄ x₅, ccOk B (Fw x₁ x₂ x₃ x₄ x₅) (Fm x₁ x₂ x₃ x₄ x₅) [] mi) : ccTo B K mi rs (mckO (mIn (x5 + (N 1)) L) (mckO (mIn (x5 + (N 2)) L) (mckO (mIn (x5 + (N 3)) L) (mckO (mIn (x5 + (N 4)) L) (mckO (mIn (x5 + (N 5)) L) (bI (Fw (mi 3 0 0 (mix (x5 + (N 1)))) (mi 3 0 0 (mix (x5 + (N 2)))) (mi 3 0 0 (mix (x5 + (N 3)))) (mi 3 0 0 (mix (x5 + (N 4)))) (mi 3 0 0 (mix (x5 + (N 5)))) mi rs) (fun v₁ m₁ r₁ => mckO (mIn (x5 + (N 1)) L) (mckO (mIn (x5 + (N 2)) L) (mckO (mIn (x5 + (N 3)) L) (mckO (mIn (x5 + (N 4)) L) (mckO (mIn (x5 + (N 5)) L) (bI (Fm (m₁ 3 0 0 (mix (x5 + (N 1)))) (m₁ 3 0 0 (mix (x5 + (N 2)))) (m₁ 3 0 0 (mix (x5 + (N 3)))) (m₁ 3 0 0 (mix (x5 + (N 4)))) (m₁ 3 0 0 (mix (x5 + (N 5)))) m₁ r₁) (fun v₂ m₂ r₂ => mifO (decide (v₁ = v₂)) (K m₂ r₂) (some (.inl (some (mI (N 0))), m₂, r₂))))))))))))))) := by
  rcases h (mi 3 0 0 (mix (x5 + (N 1)))) (mi 3 0 0 (mix (x5 + (N 2)))) (mi 3 0 0 (mix (x5 + (N 3)))) (mi 3 0 0 (mix (x5 + (N 4)))) (mi 3 0 0 (mix (x5 + (N 5)))) with ⟨v, m₁, m₂, a₁, a₂, a₃, a₄, a₅⟩ | ⟨E, c, b, m₁, m₂, a₀, a₁, a₂, a₃, a₄, a₅⟩
  · refine ⟨m₂, rs, ?_, a₄, fun a j p => (a₅ a j p).2.1, by omega, by omega⟩
    rw [ccMck (hL 1 (by omega) (by omega)), ccMck (hL 2 (by omega) (by omega)), ccMck (hL 3 (by omega) (by omega)), ccMck (hL 4 (by omega) (by omega)), ccMck (hL 5 (by omega) (by omega)), a₁, ccBi, ccMck (hL 1 (by omega) (by omega)), ccMck (hL 2 (by omega) (by omega)), ccMck (hL 3 (by omega) (by omega)), ccMck (hL 4 (by omega) (by omega)), ccMck (hL 5 (by omega) (by omega)), (a₅ 0 0 (mix (x5 + (N 1)))).1, (a₅ 0 0 (mix (x5 + (N 2)))).1, (a₅ 0 0 (mix (x5 + (N 3)))).1, (a₅ 0 0 (mix (x5 + (N 4)))).1, (a₅ 0 0 (mix (x5 + (N 5)))).1, a₂, ccBi]
    exact ccEndV
  · cases a₀
theorem ccAr_309 {B : Nat} {m : mMi} {x₁ : Int32} (h₁ : ccTop B m) (lim : ccLim m) : ccArm B (F309 x₁) (F176 x₁) Int32.toInt64 m := ccWrap (ec := [(2, 1), (3, 2)]) (tab := mHnd 309 4) (fun _ _ => rfl) (fun _ _ _ => ccM01) (ccEc2 ⟨by decide, by decide, 13, 3, rfl, fun _ _ => rfl⟩ ⟨by decide, by decide, 16, 3, rfl, fun _ _ => rfl⟩) (ccOk_104 h₁ lim)
theorem ccAr_310 {B : Nat} {m : mMi} {x₁ : Int32} (h₁ : ccTop B m) : ccArm B (F310 x₁) (F229 x₁) Int32.toInt64 m := ccWrap (ec := [(1, 1), (2, 2)]) (tab := mHnd 310 4) (fun _ _ => rfl) (fun _ _ _ => ccM01) (ccEc2 ⟨by decide, by decide, 13, 3, rfl, fun _ _ => rfl⟩ ⟨by decide, by decide, 16, 3, rfl, fun _ _ => rfl⟩) (ccOk_113 h₁)
theorem ccAr_311 {B : Nat} {m : mMi} {x₁ : Int32} (h₁ : ccTop B m) : ccArm B (F311 x₁) (F231 x₁) Int32.toInt64 m := ccWrap (ec := [(1, 1), (3, 2)]) (tab := mHnd 311 4) (fun _ _ => rfl) (fun _ _ _ => ccM01) (ccEc2 ⟨by decide, by decide, 13, 3, rfl, fun _ _ => rfl⟩ ⟨by decide, by decide, 16, 3, rfl, fun _ _ => rfl⟩) (ccOk_116 h₁)
theorem ccAr_312 {B : Nat} {m : mMi} {x₁ : Int32} (h₁ : ccTop B m) : ccArm B (F312 x₁) (F236 x₁) Int32.toInt64 m := ccWrap (ec := [(1, 1), (3, 2)]) (tab := mHnd 312 4) (fun _ _ => rfl) (fun _ _ _ => ccM01) (ccEc2 ⟨by decide, by decide, 13, 3, rfl, fun _ _ => rfl⟩ ⟨by decide, by decide, 16, 3, rfl, fun _ _ => rfl⟩) (ccOk_118 h₁)
theorem ccAr_313 {B : Nat} {m : mMi} {x₁ x₂ : Int32} (h₁ : ccTop B m) : ccArm B (F313 x₁ x₂) (F237 x₁ x₂) Int32.toInt64 m := ccWrap (ec := [(1, 1), (2, 2), (3, 3)]) (tab := mHnd 313 5) (fun _ _ => rfl) (fun _ _ _ => ccM01) (ccEc3 ⟨by decide, by decide, 15, 4, rfl, fun _ _ => rfl⟩ ⟨by decide, by decide, 19, 4, rfl, fun _ _ => rfl⟩ ⟨by decide, by decide, 23, 4, rfl, fun _ _ => rfl⟩) (ccOk_119 h₁)
theorem ccAr_314 {B : Nat} {m : mMi} {x₁ x₂ x₃ : Int32} (h₁ : ccTop B m) : ccArm B (F314 x₁ x₂ x₃) (F240 x₁ x₂ x₃) Int32.toInt64 m := ccWrap (ec := [(1, 1), (2, 2), (3, 3)]) (tab := mHnd 314 7) (fun _ _ => rfl) (fun _ _ _ => ccM01) (ccEc3 ⟨by decide, by decide, 17, 5, rfl, fun _ _ => rfl⟩ ⟨by decide, by decide, 21, 5, rfl, fun _ _ => rfl⟩ ⟨by decide, by decide, 25, 5, rfl, fun _ _ => rfl⟩) (ccOk_121 h₁)
theorem ccAr_315 {B : Nat} {m : mMi} {x₁ x₂ x₃ : Int32} (h₁ : ccTop B m) : ccArm B (F315 x₁ x₂ x₃) (F242 x₁ x₂ x₃) Int32.toInt64 m := ccWrap (ec := [(1, 1), (2, 2), (3, 3)]) (tab := mHnd 315 7) (fun _ _ => rfl) (fun _ _ _ => ccM01) (ccEc3 ⟨by decide, by decide, 17, 5, rfl, fun _ _ => rfl⟩ ⟨by decide, by decide, 21, 5, rfl, fun _ _ => rfl⟩ ⟨by decide, by decide, 25, 5, rfl, fun _ _ => rfl⟩) (ccOk_123 h₁)
theorem ccAr_316 {B : Nat} {m : mMi} {x₁ x₂ : Int32} (hB : B ≤ 900000000) (h₁ : ccTop B m) : ccArm B (F316 x₁ x₂) (F243 x₁ x₂) Int32.toInt64 m := ccWrap (ec := [(1, 1), (2, 2), (3, 3)]) (tab := mHnd 316 5) (fun _ _ => rfl) (fun _ _ _ => ccM01) (ccEc3 ⟨by decide, by decide, 15, 4, rfl, fun _ _ => rfl⟩ ⟨by decide, by decide, 19, 4, rfl, fun _ _ => rfl⟩ ⟨by decide, by decide, 23, 4, rfl, fun _ _ => rfl⟩) (ccOk_124 hB h₁)
theorem ccAr_317 {B : Nat} {m : mMi} {x₁ : Int32} (h₁ : ccTop B m) : ccArm B (F317 x₁) (F246 x₁) Int32.toInt64 m := ccWrap (ec := [(1, 1), (2, 2)]) (tab := mHnd 317 4) (fun _ _ => rfl) (fun _ _ _ => ccM01) (ccEc2 ⟨by decide, by decide, 13, 3, rfl, fun _ _ => rfl⟩ ⟨by decide, by decide, 16, 3, rfl, fun _ _ => rfl⟩) (ccOk_125 h₁)
theorem ccAr_318 {B : Nat} {m : mMi} {x₁ : Int32} (h₁ : ccTop B m) : ccArm B (F318 x₁) (F247 x₁) Int32.toInt64 m := ccWrap (ec := [(1, 1), (2, 2)]) (tab := mHnd 318 4) (fun _ _ => rfl) (fun _ _ _ => ccM01) (ccEc2 ⟨by decide, by decide, 13, 3, rfl, fun _ _ => rfl⟩ ⟨by decide, by decide, 16, 3, rfl, fun _ _ => rfl⟩) (ccOk_126 h₁)
theorem ccAr_319 {B : Nat} {m : mMi} {x₁ x₂ : Int32} (h₁ : ccTop B m) : ccArm B (F319 x₁ x₂) (F248 x₁ x₂) (fun v => if v = N 0 then 0 else 1) m := ccWrap (ec := [(1, 1), (2, 2)]) (tab := mHnd 319 5) (fun _ _ => rfl) (fun _ _ _ => ccKb) (ccEc2 ⟨by decide, by decide, 22, 4, rfl, fun _ _ => rfl⟩ ⟨by decide, by decide, 26, 4, rfl, fun _ _ => rfl⟩) (ccOk_127 h₁)
theorem ccAr_320 {B : Nat} {m : mMi} {x₁ x₂ : Int32} (h₁ : ccTop B m) : ccArm B (F320 x₁ x₂) (F249 x₁ x₂) (fun v => if v = N 0 then 0 else 1) m := ccWrap (ec := [(1, 1), (2, 2)]) (tab := mHnd 320 5) (fun _ _ => rfl) (fun _ _ _ => ccKb) (ccEc2 ⟨by decide, by decide, 22, 4, rfl, fun _ _ => rfl⟩ ⟨by decide, by decide, 26, 4, rfl, fun _ _ => rfl⟩) (ccOk_128 h₁)
theorem ccAr_321 {B : Nat} {m : mMi} (h₁ : ccTop B m) : ccArm B F321 F250 Int32.toInt64 m := ccWrap (ec := [(1, 1)]) (tab := mHnd 321 3) (fun _ _ => rfl) (fun _ _ _ => ccM01) (ccEc1 ⟨by decide, by decide, 12, 2, rfl, fun _ _ => rfl⟩) (ccOk_129 h₁)
theorem ccAr_322 {B : Nat} {m : mMi} (h₁ : ccTop B m) : ccArm B F322 F251 Int32.toInt64 m := ccWrap (ec := [(1, 1)]) (tab := mHnd 322 3) (fun _ _ => rfl) (fun _ _ _ => ccM01) (ccEc1 ⟨by decide, by decide, 12, 2, rfl, fun _ _ => rfl⟩) (ccOk_130 h₁)
theorem ccAr_323 {B : Nat} {m : mMi} (h₁ : ccTop B m) : ccArm B F323 F253 Int32.toInt64 m := ccWrap (ec := [(1, 1)]) (tab := mHnd 323 3) (fun _ _ => rfl) (fun _ _ _ => ccM01) (ccEc1 ⟨by decide, by decide, 12, 2, rfl, fun _ _ => rfl⟩) (ccOk_132 h₁)
theorem ccAr_324 {B : Nat} {m : mMi} {x₁ x₂ : Int32} (hB : B ≤ 900000000) (h₁ : ccTop B m) : ccArm B (F324 x₁ x₂) (F254 x₁ x₂) Int32.toInt64 m := ccWrap (ec := [(1, 1), (2, 2)]) (tab := mHnd 324 5) (fun _ _ => rfl) (fun _ _ _ => ccM01) (ccEc2 ⟨by decide, by decide, 15, 4, rfl, fun _ _ => rfl⟩ ⟨by decide, by decide, 19, 4, rfl, fun _ _ => rfl⟩) (ccOk_133 hB h₁)
theorem ccAr_325 {B : Nat} {m : mMi} {x₁ x₂ : Int32} (hB : B ≤ 900000000) (h₁ : ccTop B m) : ccArm B (F325 x₁ x₂) (F257 x₁ x₂) Int32.toInt64 m := ccWrap (ec := [(1, 1), (2, 2)]) (tab := mHnd 325 5) (fun _ _ => rfl) (fun _ _ _ => ccM01) (ccEc2 ⟨by decide, by decide, 15, 4, rfl, fun _ _ => rfl⟩ ⟨by decide, by decide, 19, 4, rfl, fun _ _ => rfl⟩) (ccOk_134 hB h₁)
theorem ccAr_326 {B : Nat} {m : mMi} {x₁ : Int32} (h₁ : ccTop B m) : ccArm B (F326 x₁) (F259 x₁) Int32.toInt64 m := ccWrap (ec := [(1, 1), (2, 2)]) (tab := mHnd 326 4) (fun _ _ => rfl) (fun _ _ _ => ccM01) (ccEc2 ⟨by decide, by decide, 13, 3, rfl, fun _ _ => rfl⟩ ⟨by decide, by decide, 16, 3, rfl, fun _ _ => rfl⟩) (ccOk_135 h₁)
theorem ccAr_327 {B : Nat} {m : mMi} (h₁ : ccTop B m) : ccArm B F327 F260 Int32.toInt64 m := ccWrap (ec := [(1, 1)]) (tab := mHnd 327 3) (fun _ _ => rfl) (fun _ _ _ => ccM01) (ccEc1 ⟨by decide, by decide, 12, 2, rfl, fun _ _ => rfl⟩) (ccOk_136 h₁)
theorem ccAr_328 {B : Nat} {m : mMi} (h₁ : ccTop B m) : ccArmD B F328 F261 m := ccWrapD (ec := [(1, 1)]) (tab := mHnd 328 3) (fun _ _ => rfl) (fun _ _ _ => ccM01) (ccEc1 ⟨by decide, by decide, 11, 2, rfl, fun _ _ => rfl⟩) (ccOk_137 h₁)
theorem ccAr_329 {B : Nat} {m : mMi} (h₁ : ccTop B m) : ccArmF B F329 F262 m := ccWrapF (ec := [(1, 1)]) (tab := mHnd 329 3) (fun _ _ => rfl) (fun v m r h => by
  have e₀ : (!(isNaN64 (FP.f2d v))) = true := by rw [h]; rfl
  rw [ccMck e₀]
  exact ccM01) (ccEc1 ⟨by decide, by decide, 12, 2, rfl, fun _ _ => rfl⟩) (ccOk_138 h₁)
theorem ccAr_330 {B : Nat} {m : mMi} {x₁ x₂ x₃ : Int32} (h₁ : ccTop B m) : ccArm B (F330 x₁ x₂ x₃) (F263 x₁ x₂ x₃) Int32.toInt64 m := ccWrap (ec := [(1, 1), (2, 2), (3, 3)]) (tab := mHnd 330 7) (fun _ _ => rfl) (fun _ _ _ => ccM01) (ccEc3 ⟨by decide, by decide, 17, 5, rfl, fun _ _ => rfl⟩ ⟨by decide, by decide, 21, 5, rfl, fun _ _ => rfl⟩ ⟨by decide, by decide, 25, 5, rfl, fun _ _ => rfl⟩) (ccOk_139 h₁)
theorem ccAr_331 {B : Nat} {m : mMi} (h₁ : ccTop B m) : ccArm B F331 F265 Int32.toInt64 m := ccWrap (ec := [(1, 1)]) (tab := mHnd 331 3) (fun _ _ => rfl) (fun _ _ _ => ccM01) (ccEc1 ⟨by decide, by decide, 12, 2, rfl, fun _ _ => rfl⟩) (ccOk_140 h₁)
theorem ccAr_332 {B : Nat} {m : mMi} {x₁ x₂ : Int32} (hB : B ≤ 900000000) (h₁ : ccTop B m) : ccArm B (F332 x₁ x₂) (F266 x₁ x₂) Int32.toInt64 m := ccWrap (ec := [(1, 1), (3, 2)]) (tab := mHnd 332 5) (fun _ _ => rfl) (fun _ _ _ => ccM01) (ccEc2 ⟨by decide, by decide, 15, 4, rfl, fun _ _ => rfl⟩ ⟨by decide, by decide, 19, 4, rfl, fun _ _ => rfl⟩) (ccOk_141 hB h₁)
theorem ccAr_333 {B : Nat} {m : mMi} {x₁ : Int32} (hB : B ≤ 900000000) (h₁ : ccTop B m) : ccArm B (F333 x₁) (F271 x₁) Int32.toInt64 m := ccWrap (ec := [(1, 1), (3, 2)]) (tab := mHnd 333 4) (fun _ _ => rfl) (fun _ _ _ => ccM01) (ccEc2 ⟨by decide, by decide, 13, 3, rfl, fun _ _ => rfl⟩ ⟨by decide, by decide, 16, 3, rfl, fun _ _ => rfl⟩) (ccOk_144 hB h₁)
theorem ccAr_334 {B : Nat} {m : mMi} {x₁ : Int32} (hB : B ≤ 900000000) (h₁ : ccTop B m) : ccArm B (F334 x₁) (F272 x₁) Int32.toInt64 m := ccWrap (ec := [(1, 1), (3, 2)]) (tab := mHnd 334 4) (fun _ _ => rfl) (fun _ _ _ => ccM01) (ccEc2 ⟨by decide, by decide, 13, 3, rfl, fun _ _ => rfl⟩ ⟨by decide, by decide, 16, 3, rfl, fun _ _ => rfl⟩) (ccOk_145 hB h₁)
theorem ccAr_335 {B : Nat} {m : mMi} (h₁ : ccTop B m) : ccArm B F335 F273 Int32.toInt64 m := ccWrap (ec := [(1, 1)]) (tab := mHnd 335 3) (fun _ _ => rfl) (fun _ _ _ => ccM01) (ccEc1 ⟨by decide, by decide, 12, 2, rfl, fun _ _ => rfl⟩) (ccOk_146 h₁)
theorem ccAr_336 {B : Nat} {m : mMi} {x₁ x₂ : Int32} (hB : B ≤ 900000000) (h₁ : ccTop B m) : ccArm B (F336 x₁ x₂) (F274 x₁ x₂) Int32.toInt64 m := ccWrap (ec := [(1, 1), (3, 2)]) (tab := mHnd 336 5) (fun _ _ => rfl) (fun _ _ _ => ccM01) (ccEc2 ⟨by decide, by decide, 15, 4, rfl, fun _ _ => rfl⟩ ⟨by decide, by decide, 19, 4, rfl, fun _ _ => rfl⟩) (ccOk_147 hB h₁)
theorem ccAr_337 {B : Nat} {m : mMi} {x₁ : Int32} (hB : B ≤ 900000000) (h₁ : ccTop B m) : ccArm B (F337 x₁) (F275 x₁) Int32.toInt64 m := ccWrap (ec := [(1, 1), (2, 2)]) (tab := mHnd 337 4) (fun _ _ => rfl) (fun _ _ _ => ccM01) (ccEc2 ⟨by decide, by decide, 13, 3, rfl, fun _ _ => rfl⟩ ⟨by decide, by decide, 16, 3, rfl, fun _ _ => rfl⟩) (ccOk_148 hB h₁)
theorem ccAr_338 {B : Nat} {m : mMi} {x₁ : Int32} (hB : B ≤ 900000000) (h₁ : ccTop B m) : ccArm B (F338 x₁) (F277 x₁) Int32.toInt64 m := ccWrap (ec := [(1, 1), (2, 2)]) (tab := mHnd 338 4) (fun _ _ => rfl) (fun _ _ _ => ccM01) (ccEc2 ⟨by decide, by decide, 13, 3, rfl, fun _ _ => rfl⟩ ⟨by decide, by decide, 16, 3, rfl, fun _ _ => rfl⟩) (ccOk_149 hB h₁)
theorem ccAr_339 {B : Nat} {m : mMi} {x₁ x₂ : Int32} (h₁ : ccTop B m) : ccArm B (F339 x₁ x₂) (F280 x₁ x₂) Int32.toInt64 m := ccWrap (ec := [(1, 1), (2, 2)]) (tab := mHnd 339 5) (fun _ _ => rfl) (fun _ _ _ => ccM01) (ccEc2 ⟨by decide, by decide, 15, 4, rfl, fun _ _ => rfl⟩ ⟨by decide, by decide, 19, 4, rfl, fun _ _ => rfl⟩) (ccOk_151 h₁)
theorem ccAr_340 {B : Nat} {m : mMi} {x₁ : Int32} (h₁ : ccTop B m) : ccArm B (F340 x₁) (F281 x₁) Int32.toInt64 m := ccWrap (ec := [(1, 1), (2, 2)]) (tab := mHnd 340 4) (fun _ _ => rfl) (fun _ _ _ => ccM01) (ccEc2 ⟨by decide, by decide, 13, 3, rfl, fun _ _ => rfl⟩ ⟨by decide, by decide, 16, 3, rfl, fun _ _ => rfl⟩) (ccOk_152 h₁)
theorem ccAr_341 {B : Nat} {m : mMi} {x₁ x₂ : Int32} (h₁ : ccTop B m) : ccArm B (F341 x₁ x₂) (F283 x₁ x₂) Int32.toInt64 m := ccWrap (ec := [(1, 1), (2, 2)]) (tab := mHnd 341 5) (fun _ _ => rfl) (fun _ _ _ => ccM01) (ccEc2 ⟨by decide, by decide, 15, 4, rfl, fun _ _ => rfl⟩ ⟨by decide, by decide, 19, 4, rfl, fun _ _ => rfl⟩) (ccOk_153 h₁)
theorem ccAr_342 {B : Nat} {m : mMi} (hB : B ≤ 900000000) (h₁ : ccTop B m) : ccArm B F342 F286 Int32.toInt64 m := ccWrap (ec := [(1, 1)]) (tab := mHnd 342 3) (fun _ _ => rfl) (fun _ _ _ => ccM01) (ccEc1 ⟨by decide, by decide, 12, 2, rfl, fun _ _ => rfl⟩) (ccOk_154 hB h₁)
theorem ccAr_343 {B : Nat} {m : mMi} {x₁ : Int32} (h₁ : ccTop B m) : ccArm B (F343 x₁) (F288 x₁) Int32.toInt64 m := ccWrap (ec := [(2, 1)]) (tab := mHnd 343 4) (fun _ _ => rfl) (fun _ _ _ => ccM01) (ccEc1 ⟨by decide, by decide, 13, 3, rfl, fun _ _ => rfl⟩) (ccOk_156 h₁)
theorem ccAr_344 {B : Nat} {m : mMi} {x₁ x₂ x₃ x₄ x₅ : Int32} (hB : B ≤ 900000000) (h₁ : ccTop B m) : ccArm B (F344 x₁ x₂ x₃ x₄ x₅) (F289 x₁ x₂ x₃ x₄ x₅) Int32.toInt64 m := ccWrap (ec := [(1, 1), (2, 2), (3, 3)]) (tab := mHnd 344 11) (fun _ _ => rfl) (fun _ _ _ => ccM01) (ccEc3 ⟨by decide, by decide, 21, 7, rfl, fun _ _ => rfl⟩ ⟨by decide, by decide, 25, 7, rfl, fun _ _ => rfl⟩ ⟨by decide, by decide, 29, 7, rfl, fun _ _ => rfl⟩) (ccOk_157 hB h₁)
theorem ccAr_345 {B : Nat} {m : mMi} {x₁ x₂ x₃ : Int32} (hB : B ≤ 900000000) (h₁ : ccTop B m) : ccArm B (F345 x₁ x₂ x₃) (F293 x₁ x₂ x₃) Int32.toInt64 m := ccWrap (ec := [(1, 1), (2, 2), (3, 3)]) (tab := mHnd 345 7) (fun _ _ => rfl) (fun _ _ _ => ccM01) (ccEc3 ⟨by decide, by decide, 17, 5, rfl, fun _ _ => rfl⟩ ⟨by decide, by decide, 21, 5, rfl, fun _ _ => rfl⟩ ⟨by decide, by decide, 25, 5, rfl, fun _ _ => rfl⟩) (ccOk_158 hB h₁)
theorem ccAr_346 {B : Nat} {m : mMi} {x₁ : Int32} (hB : B ≤ 900000000) (h₁ : ccTop B m) : ccArm B (F346 x₁) (F294 x₁) Int32.toInt64 m := ccWrap (ec := [(1, 1), (2, 2), (3, 3)]) (tab := mHnd 346 4) (fun _ _ => rfl) (fun _ _ _ => ccM01) (ccEc3 ⟨by decide, by decide, 13, 3, rfl, fun _ _ => rfl⟩ ⟨by decide, by decide, 16, 3, rfl, fun _ _ => rfl⟩ ⟨by decide, by decide, 19, 3, rfl, fun _ _ => rfl⟩) (ccOk_159 hB h₁)
theorem ccAr_347 {B : Nat} {m : mMi} {x₁ x₂ : Int32} (hB : B ≤ 900000000) (h₁ : ccTop B m) : ccArm B (F347 x₁ x₂) (F295 x₁ x₂) Int32.toInt64 m := ccWrap (ec := [(1, 1), (2, 2), (3, 3)]) (tab := mHnd 347 5) (fun _ _ => rfl) (fun _ _ _ => ccM01) (ccEc3 ⟨by decide, by decide, 15, 4, rfl, fun _ _ => rfl⟩ ⟨by decide, by decide, 19, 4, rfl, fun _ _ => rfl⟩ ⟨by decide, by decide, 23, 4, rfl, fun _ _ => rfl⟩) (ccOk_160 hB h₁)
theorem ccAr_348 {B : Nat} {m : mMi} {x₁ x₂ : Int32} (hB : B ≤ 900000000) (h₁ : ccTop B m) : ccArm B (F348 x₁ x₂) (F296 x₁ x₂) Int32.toInt64 m := ccWrap (ec := [(1, 1), (2, 2), (3, 3)]) (tab := mHnd 348 5) (fun _ _ => rfl) (fun _ _ _ => ccM01) (ccEc3 ⟨by decide, by decide, 15, 4, rfl, fun _ _ => rfl⟩ ⟨by decide, by decide, 19, 4, rfl, fun _ _ => rfl⟩ ⟨by decide, by decide, 23, 4, rfl, fun _ _ => rfl⟩) (ccOk_161 hB h₁)
theorem ccAr_349 {B : Nat} {m : mMi} {x₁ : Int32} (hB : B ≤ 900000000) (h₁ : ccTop B m) : ccArm B (F349 x₁) (F297 x₁) Int32.toInt64 m := ccWrap (ec := [(1, 1), (2, 2), (3, 3)]) (tab := mHnd 349 4) (fun _ _ => rfl) (fun _ _ _ => ccM01) (ccEc3 ⟨by decide, by decide, 13, 3, rfl, fun _ _ => rfl⟩ ⟨by decide, by decide, 16, 3, rfl, fun _ _ => rfl⟩ ⟨by decide, by decide, 19, 3, rfl, fun _ _ => rfl⟩) (ccOk_162 hB h₁)
theorem ccAr_350 {B : Nat} {m : mMi} {x₁ x₂ : Int32} (hB : B ≤ 900000000) (h₁ : ccTop B m) : ccArm B (F350 x₁ x₂) (F298 x₁ x₂) Int32.toInt64 m := ccWrap (ec := [(1, 1), (3, 2)]) (tab := mHnd 350 5) (fun _ _ => rfl) (fun _ _ _ => ccM01) (ccEc2 ⟨by decide, by decide, 15, 4, rfl, fun _ _ => rfl⟩ ⟨by decide, by decide, 19, 4, rfl, fun _ _ => rfl⟩) (ccOk_163 hB h₁)
theorem ccAr_351 {B : Nat} {m : mMi} {x₁ : Int32} (hB : B ≤ 900000000) (h₁ : ccTop B m) : ccArm B (F351 x₁) (F299 x₁) Int32.toInt64 m := ccWrap (ec := [(1, 1), (3, 2)]) (tab := mHnd 351 4) (fun _ _ => rfl) (fun _ _ _ => ccM01) (ccEc2 ⟨by decide, by decide, 13, 3, rfl, fun _ _ => rfl⟩ ⟨by decide, by decide, 16, 3, rfl, fun _ _ => rfl⟩) (ccOk_164 hB h₁)
theorem ccAr_352 {B : Nat} {m : mMi} {x₁ x₂ x₃ : Int32} (hB : B ≤ 900000000) (h₁ : ccTop B m) : ccArm B (F352 x₁ x₂ x₃) (F302 x₁ x₂ x₃) Int32.toInt64 m := ccWrap (ec := [(1, 1), (2, 2), (3, 3)]) (tab := mHnd 352 7) (fun _ _ => rfl) (fun _ _ _ => ccM01) (ccEc3 ⟨by decide, by decide, 17, 5, rfl, fun _ _ => rfl⟩ ⟨by decide, by decide, 21, 5, rfl, fun _ _ => rfl⟩ ⟨by decide, by decide, 25, 5, rfl, fun _ _ => rfl⟩) (ccOk_165 hB h₁)
theorem ccAr_353 {B : Nat} {m : mMi} {x₁ : Int32} (hB : B ≤ 900000000) (h₁ : ccTop B m) : ccArm B (F353 x₁) (F303 x₁) Int32.toInt64 m := ccWrap (ec := [(1, 1), (2, 2), (3, 3)]) (tab := mHnd 353 4) (fun _ _ => rfl) (fun _ _ _ => ccM01) (ccEc3 ⟨by decide, by decide, 13, 3, rfl, fun _ _ => rfl⟩ ⟨by decide, by decide, 16, 3, rfl, fun _ _ => rfl⟩ ⟨by decide, by decide, 19, 3, rfl, fun _ _ => rfl⟩) (ccOk_166 hB h₁)
theorem ccAr_354 {B : Nat} {m : mMi} (h₁ : ccTop B m) : ccArm B F354 F304 Int32.toInt64 m := ccWrap (ec := [(1, 1)]) (tab := mHnd 354 3) (fun _ _ => rfl) (fun _ _ _ => ccM01) (ccEc1 ⟨by decide, by decide, 12, 2, rfl, fun _ _ => rfl⟩) (ccOk_167 h₁)
theorem ccAr_355 {B : Nat} {m : mMi} {x₁ : Int32} (h₁ : ccTop B m) : ccArm B (F355 x₁) (F307 x₁) Int32.toInt64 m := ccWrap (ec := [(1, 1), (2, 2)]) (tab := mHnd 355 4) (fun _ _ => rfl) (fun _ _ _ => ccM01) (ccEc2 ⟨by decide, by decide, 13, 3, rfl, fun _ _ => rfl⟩ ⟨by decide, by decide, 16, 3, rfl, fun _ _ => rfl⟩) (ccOk_168 h₁)
theorem ccAr_356 {B : Nat} {m : mMi} {x₁ : Int32} (h₁ : ccTop B m) : ccArm B (F356 x₁) (F308 x₁) Int32.toInt64 m := ccWrap (ec := [(2, 1), (1, 2)]) (tab := mHnd 356 4) (fun _ _ => rfl) (fun _ _ _ => ccM01) (ccEc2 ⟨by decide, by decide, 13, 3, rfl, fun _ _ => rfl⟩ ⟨by decide, by decide, 16, 3, rfl, fun _ _ => rfl⟩) (ccOk_169 h₁)
