/-! LOOKS: the table, the numbers at the end; looks as a whole. -/
theorem kwNanI {x : UInt64} (h₁ : isNaN64 x = false) : x.toNat % 9223372036854775808 ≤ 9218868437227405312 := by
  have e₁ : (x &&& 0x7fffffffffffffff).toNat = x.toNat % 9223372036854775808 := by
    rw [UInt64.toNat_and]
    exact Nat.and_two_pow_sub_one_eq_mod x.toNat 63
  have e₂ : (0x7ff0000000000000 : UInt64).toNat = 9218868437227405312 := rfl
  unfold isNaN64 at h₁
  have g₁ := of_decide_eq_false h₁
  rw [gt_iff_lt, UInt64.lt_iff_toNat_lt, e₁, e₂] at g₁
  omega
theorem kwNanJ {x : UInt32} (h₁ : isNaN32 x = false) : x.toNat % 2147483648 ≤ 2139095040 := by
  have e₁ : (x &&& 0x7fffffff).toNat = x.toNat % 2147483648 := by
    rw [UInt32.toNat_and]
    exact Nat.and_two_pow_sub_one_eq_mod x.toNat 31
  have e₂ : (0x7f800000 : UInt32).toNat = 2139095040 := rfl
  unfold isNaN32 at h₁
  have g₁ := of_decide_eq_false h₁
  rw [gt_iff_lt, UInt32.lt_iff_toNat_lt, e₁, e₂] at g₁
  omega
theorem kwCmpI {a : Int} : compare a a = Ordering.eq := by
  show compareOfLessAndEq a a = Ordering.eq
  unfold compareOfLessAndEq
  rw [if_neg (Int.lt_irrefl a), if_pos rfl]
theorem kwOrd {d : FP.Core.Datum} (h₁ : d ≠ .nan) : FP.Core.order d d = some Ordering.eq := by
  cases d with
  | nan => exact absurd rfl h₁
  | inf s => exact congrArg some kwCmpI
  | fin s c q => exact congrArg some kwCmpI
theorem kwDcmp {v : UInt64} (h₁ : isNaN64 v = false) : Op.cmpValue (FP.dcmp v v) .l = N 0 := by
  have e₁ : FP.dcmp v v = some Ordering.eq := kwOrd (ccDe64 (kwNanI h₁))
  rw [e₁]
  rfl
theorem kwFcmp {v : UInt32} (h₁ : isNaN32 v = false) : Op.cmpValue (FP.fcmp v v) .l = N 0 := by
  have e₁ : FP.fcmp v v = some Ordering.eq := kwOrd (ccDe32 (kwNanJ h₁))
  rw [e₁]
  rfl
theorem kwBd {v : UInt64} {m : mMi} {r : mRs} {k : UInt64 → mMi → mRs → mRz} : bD (some (.inl (some (mD v)), m, r)) k = k v m r := rfl
theorem kwBf {v : UInt32} {m : mMi} {r : mRs} {k : UInt32 → mMi → mRs → mRz} : bF (some (.inl (some (mF v)), m, r)) k = k v m r := rfl
/-- the cards on the table -/
theorem kwTab {B w l n lm dp cl bd : Nat} {β : Nat → Int32} {W : Nat → Nat} {T Z D : Nat} {x2 x3 x4 x5 x6 x7 x8 x9 x10 : Int32} : ∀ d c m r, c + d = w → kwI m r B w l n lm dp cl bd β W T Z D → ∃ M, ccFs m M ∧ ∀ f, H242_599 B (f + d + 1) x2 x3 x4 x5 x6 x7 x8 x9 x10 (N c) m r = H242_599 B (f + 1) x2 x3 x4 x5 x6 x7 x8 x9 x10 (N w) M r := by
  intro d
  induction d with
  | zero =>
    intro c m r y q
    have e₁ : c = w := by omega
    subst e₁
    exact ⟨m, fun _ _ _ _ _ => rfl, fun f => rfl⟩
  | succ d i₁ =>
    intro c m r y q
    have hB := q.2.2.2.2
    have qr := (kwI_0 q).2
    have b₁ : w ≤ 12 := qr.2.2.2.2.1
    have b₀ : 1 ≤ l := qr.2.2.2.2.2.1
    have b₂ : l ≤ 8 := qr.2.2.2.2.2.2.1
    have b₃ : n ≤ 40 := qr.2.2.2.2.2.2.2
    have n₁ : ¬ N 1 = N 0 := by decide
    obtain ⟨m₁, f₁, k₁⟩ := kwE135 q (by omega : c < w)
    have q₁ := kwI_sc q f₁
    have cm : m₁ 0 0 = m 0 0 := ccFs_0 f₁
    obtain ⟨M, f₂, k₂⟩ := i₁ (c + 1) m₁ r (by omega) q₁
    refine ⟨M, fun f a j p z => by rw [f₂ f a j p z, f₁ f a j p z], fun f => ?_⟩
    have e₀ : f + (d + 1) + 1 = f + d + 1 + 1 := by omega
    have e₁ : m 6 B 1 0 = N w := (kwI_S q).1
    have e₂ : ¬ N w ≤ N c := by rw [N_le (by omega) (by omega)]; omega
    obtain ⟨s, gg, kk, cd, _⟩ := kwI_U q₁
    obtain ⟨_, wk, ww⟩ := kwI_P q₁
    rw [e₀, kwG599, hB, ccMckT, ccMckIn (by omega : 0 < 6) (by omega), e₁, ccIte, if_neg e₂, k₁, ccBi, hB, ccMckT, kwE178 hB s gg cd (by omega) (by omega), cm, ccBi, hB, ccMckT]
    cases g : ccHP (m 0 0) w l 0 c
    · rw [ccT_f, ccIte, if_pos rfl, if_neg (by intro v; cases v), ccIte, if_pos rfl, N_add]
      exact k₂ f
    · obtain ⟨_, _, g₀⟩ := ccHP_t g
      have sq : 12 * 0 + c = c := by omega
      rw [sq] at g₀
      obtain ⟨a', b', uu, vv, k₄, k₅, ka, kb, _⟩ := kwI_p q (by omega : c < 96) g₀
      have h₈ : H189 B (N 0) (N c) m₁ r = rI (N (ccPL W (m 0 0) w l 7 0 c)) m₁ r := by
        have z := kwE189 (rs := r) hB s gg cd wk ww (by omega : 0 < 8) (by omega : c < 12)
        rw [cm] at z
        exact z
      obtain ⟨g₂₀, _, g₃⟩ := gg 0 c (by omega) (by omega)
      rw [sq, cm] at g₂₀ g₃
      have g₂₁ := (g₃ g₀).1
      rw [k₄] at g₂₀
      rw [k₅] at g₂₁
      have wp : ccWP W (m 0 0) c = W a' + W b' := by
        have z : ccP (m 0 0) c = true := by unfold ccP; rw [decide_eq_false g₀]; rfl
        unfold ccWP
        rw [z, if_pos rfl, k₄, k₅, mix_N (by omega), mix_N (by omega)]
      have sm : N (ccPL W (m 0 0) w l 7 0 c) + N (ccWP W (m 0 0) c) = N (ccPL W (m 0 0) w l 7 0 c) + N (W a') + N (W b') := by
        rw [wp, N_add, N_add, N_add, Nat.add_assoc]
      rw [ccT_t, ccIte, if_neg n₁, if_pos rfl, h₈, ccBi, hB, ccMckT, ccMckIn (by omega : 0 < 10) (by omega), ccMckIn (by omega : c < 14) (by omega), mix_N (by omega), g₂₀, ccMckIn (by omega : a' < 40) (by omega), ccMckIn (by omega : 0 < 10) (by omega), ccMckIn (by omega : c < 14) (by omega), g₂₁, ccMckIn (by omega : b' < 40) (by omega), mix_N (by omega), mix_N (by omega), ww a' ka, ww b' kb, sm, ccIte, if_pos rfl, N_add]
      exact k₂ f
/-- the numbers at the end -/
theorem kwNumE {m : mMi} {r : mRs} {B w l n lm dp cl bd T Z D : Nat} {β : Nat → Int32} {W : Nat → Nat} {x2 x3 x4 x5 x6 x7 x8 : Int32} (q : kwI m r B w l n lm dp cl bd β W T Z D) (k : kwLk W (m 0 0) w l 96 x2 x3 x4 x5 x6 x7 x8) : ∃ M, ccFs m M ∧ ∀ f, H242_599 B (f + 1) x2 x3 x4 x5 x6 x7 x8 (N (ccS (ccCol w l) 8)) (N (kwWs W (kwIn (m 0 0)) n)) (N w) m r = rI (N 1) M r := by
  have hB := q.2.2.2.2
  obtain ⟨h₀, qr⟩ := kwI_0 q
  have b₁ : w ≤ 12 := qr.2.2.2.2.1
  have b₂ : l ≤ 8 := qr.2.2.2.2.2.2.1
  have e₁ : m 6 B 1 0 = N w := (kwI_S q).1
  have e₂ : N w ≤ N w := by rw [N_le (by omega) (by omega)]; omega
  obtain ⟨t₁, ⟨t₂, _⟩, ⟨t₄, _⟩, t₆, t₇⟩ := k
  obtain ⟨s₁, s₂⟩ := ccS_pos (w := w) (l := l) qr.2.2.2.1 qr.2.2.2.2.2.1 b₁
  obtain ⟨d₁, _⟩ := ccDiv32 (x := N (ccCnt (ccP (m 0 0)) 96)) s₁ s₂
  have n₃ : (!(isNaN32 (FP.fdiv (FP.i2f (N (ccCnt (ccP (m 0 0)) 96))) (FP.i2f (N (ccS (ccCol w l) 8)))))) = true := by rw [d₁]; rfl
  have k₁ : F129 m r = rI x2 m r := by rw [kwE129 h₀, t₁]
  obtain ⟨m₁, f₁, k₂⟩ := kwE130 q
  rw [← t₂] at k₂
  have q₁ := kwI_sc q f₁
  have c₁ : m₁ 0 0 = m 0 0 := ccFs_0 f₁
  obtain ⟨h₁, qr₁⟩ := kwI_0 q₁
  have k₃ : F132 m₁ r = rI x4 m₁ r := by rw [kwE132 h₁, c₁, t₄]
  have k₄ : F136 m₁ r = rI (N (kwWs W (kwIn (m 0 0)) n)) m₁ r := by rw [kwE136 q₁, kwI_sum q₁, c₁]
  have ne : ∀ {x y : Int32} {A X : mRz}, x = y → mifO (decide (x ≠ y)) A X = X := fun {x y A X} e => by
    rw [ccIte, if_neg (fun z => z e)]
  rcases Nat.eq_zero_or_pos (ccCnt (ccP (m 0 0)) 96) with g | g
  · have z₁ : F137 m₁ r = some (.inl (some (mD 0)), m₁, r) := kwE137z h₁ (by rw [c₁]; exact g)
    have z₂ : F138 m₁ r = some (.inl (some (mF (FP.fdiv (FP.i2f (N (ccCnt (ccP (m 0 0)) 96))) (FP.i2f (N (ccS (ccCol w l) 8)))))), m₁, r) := by rw [kwE138 h₁ qr₁, c₁]
    refine ⟨m₁, f₁, fun f => ?_⟩
    have x₈ : x8 = N 0 := by rw [t₇, g]
    rw [kwG599, hB, ccMckT, ccMckIn (by omega : 0 < 6) (by omega), e₁, ccIte, if_pos e₂, ne x₈, k₁, ccBi, hB, ccMckT, ne rfl, k₂, ccBi, hB, ccMckT, ne rfl, k₃, ccBi, hB, ccMckT, ne rfl, k₄, ccBi, hB, ccMckT, ne rfl, z₁, kwBd, hB, ccMckT, kwDcmp ccZ64, ne rfl, z₂, kwBf, hB, ccMckT, t₇, ccMck n₃, kwFcmp d₁, ne rfl]
    rfl
  · obtain ⟨m₂, f₂, z₁⟩ := kwE137 q₁ (by rw [c₁]; exact g)
    have q₂ := kwI_sc q₁ f₂
    have c₂ : m₂ 0 0 = m 0 0 := Eq.trans (ccFs_0 f₂) c₁
    obtain ⟨h₂, qr₂⟩ := kwI_0 q₂
    rw [c₁, ← t₆] at z₁
    have z₂ : F138 m₂ r = some (.inl (some (mF (FP.fdiv (FP.i2f (N (ccCnt (ccP (m 0 0)) 96))) (FP.i2f (N (ccS (ccCol w l) 8)))))), m₂, r) := by rw [kwE138 h₂ qr₂, c₂]
    have d₂ := ccDiv64 (x := x7) g (ccCnt_le 96)
    have n₄ : (!(isNaN64 (FP.ddiv (FP.i2d x7) (FP.i2d (N (ccCnt (ccP (m 0 0)) 96)))))) = true := by rw [d₂]; rfl
    have n₅ : N (ccCnt (ccP (m 0 0)) 96) ≠ N 0 := by
      have y₁ := ccCnt_le (f := ccP (m 0 0)) 96
      rw [ne_eq, N_eq (by omega) (by omega)]
      omega
    refine ⟨m₂, fun f a j p z => by rw [f₂ f a j p z, f₁ f a j p z], fun f => ?_⟩
    rw [kwG599, hB, ccMckT, ccMckIn (by omega : 0 < 6) (by omega), e₁, ccIte, if_pos e₂, t₇, ccIte, if_pos n₅, ccMck n₄, k₁, ccBi, hB, ccMckT, ne rfl, k₂, ccBi, hB, ccMckT, ne rfl, k₃, ccBi, hB, ccMckT, ne rfl, k₄, ccBi, hB, ccMckT, ne rfl, z₁, kwBd, hB, ccMckT, kwDcmp d₂, ne rfl, z₂, kwBf, hB, ccMckT, ccMck n₃, kwFcmp d₁, ne rfl]
    rfl
/-- the weight of the castle, as the law sums it -/
theorem kwL28 {m : mMi} {r : mRs} {B w l n lm dp cl bd T Z D : Nat} {β : Nat → Int32} {W : Nat → Nat} {x2 x3 x4 x5 x6 x7 x8 x9 : Int32} (q : kwI m r B w l n lm dp cl bd β W T Z D) : ∀ d k f, k + d = n → H242_28 B (f + d + 1) x2 x3 x4 x5 x6 x7 x8 x9 (N (kwWs W (kwInW m B) k)) (N k) m r = H242_73 B 0 0 FU 73 x2 x3 x4 x5 x6 x7 x8 x9 (N (kwWs W (kwInW m B) n)) (N 0) (N 0) (N 0) (N 0) (N 0) m r := by
  have hB := q.2.2.2.2
  have qr := (kwI_0 q).2
  have b₃ : n ≤ 40 := qr.2.2.2.2.2.2.2
  have s₁₇ : m 6 B 0 17 = N n := (kwI_S q).2.2.2.2.2.2.1
  obtain ⟨_, wk, ww⟩ := kwI_P q
  intro d
  induction d with
  | zero =>
    intro k f y
    have e₁ : k = n := by omega
    subst e₁
    have e₂ : N k ≤ N k := by rw [N_le (by omega) (by omega)]; omega
    rw [kwG28, hB, ccMckT, s₁₇, ccIte, if_pos e₂]
  | succ d i₁ =>
    intro k f y
    have e₀ : f + (d + 1) + 1 = f + d + 1 + 1 := by omega
    have e₂ : ¬ N n ≤ N k := by rw [N_le (by omega) (by omega)]; omega
    have i₂ := i₁ (k + 1) f (by omega)
    have s₂ : kwWs W (kwInW m B) (k + 1) = kwWs W (kwInW m B) k + (if kwInW m B k = true then W k else 0) := rfl
    rw [e₀, kwG28, hB, ccMckT, s₁₇, ccIte, if_neg e₂, ccMckIn (by omega : k < 40) (by omega), mix_N (by omega)]
    by_cases g₁ : m 6 B 4 k ≤ N 1
    · have v₁ : kwInW m B k = false := by unfold kwInW; rw [decide_eq_true g₁]; rfl
      rw [v₁, if_neg (by intro v; cases v)] at s₂
      rw [s₂] at i₂
      rw [ccIte, if_pos g₁, N_add, N_add]
      exact i₂
    · have v₁ : kwInW m B k = true := by unfold kwInW; rw [decide_eq_false g₁]; rfl
      rw [v₁, if_pos rfl] at s₂
      rw [s₂] at i₂
      rw [ccIte, if_neg g₁, ccMckIn (by omega : k < 40) (by omega), ww k (by omega), N_add, N_add]
      exact i₂
/-- looks -/
theorem kwLooks {m : mMi} {r : mRs} {B w l n lm dp cl bd T Z D : Nat} {β : Nat → Int32} {W : Nat → Nat} (q : kwI m r B w l n lm dp cl bd β W T Z D) (ro : kwRo B r) (bT : T ≤ 900000000) (nm : kwNms m n) (dg : kwDg m) : ∃ M R, kwI M R B w l n lm dp cl bd β W T Z D ∧ kwRo B R ∧ kwFk r.2.2.1 m M ∧ kwRu r.2.2.1 11192 224432 r R ∧ H242 B m r = rI (N 1) M R := by
  have hB := q.2.2.2.2
  have qr := (kwI_0 q).2
  have b₁ : w ≤ 12 := qr.2.2.2.2.1
  have b₂ : l ≤ 8 := qr.2.2.2.2.2.2.1
  have b₃ : n ≤ 40 := qr.2.2.2.2.2.2.2
  have h10 := ro.2.2
  obtain ⟨e, z2, z3, z4, z5, z6, z7, z8, m₁, r₁, he, q₁, ro₁, f₁, u₁, k₁, c₁⟩ := kwLayers (x2 := I (-1)) (x3 := I (-1)) (x4 := I (-1)) (x5 := N 0) (x6 := N 0) (x7 := N 0) (x8 := N 0) bT l 0 m r (by omega) q ro nm dg kwLk_0
  have cm : m₁ 0 0 = m 0 0 := kwFk_0 f₁ (by omega)
  obtain ⟨m₂, f₂, c₂⟩ := kwTab (x2 := z2) (x3 := z3) (x4 := z4) (x5 := z5) (x6 := z6) (x7 := z7) (x8 := z8) (x9 := N (ccS (ccCol w l) 8)) (x10 := N (kwWs W (kwIn (m 0 0)) n)) w 0 m₁ r₁ (by omega) q₁
  have q₂ := kwI_sc q₁ f₂
  have cm₂ : m₂ 0 0 = m 0 0 := Eq.trans (ccFs_0 f₂) cm
  have k₉ : kwLk W (m 0 0) w l 96 z2 z3 z4 z5 z6 z7 z8 := by
    have e₅ : 96 = 12 * l + (96 - 12 * l) := by omega
    rw [e₅]
    refine kwLk_f (96 - 12 * l) (fun i y => ?_) k₁
    unfold ccP
    rcases Classical.em (m 0 0 2 (12 * l + i) = I (-1)) with u | u
    · rw [decide_eq_true u]; rfl
    · have v := ((kwI_P q).1 (12 * l + i) (by omega)).1 u
      omega
  obtain ⟨M, f₃, c₃⟩ := kwNumE q₂ (by rw [cm₂]; exact k₉)
  rw [cm₂] at c₃
  have u₃ : ccS (ccCol w l) 8 = ccS (ccCol w l) l := by
    have z := kwCol_e (w := w) (l := l) (8 - l)
    have z₂ : l + (8 - l) = 8 := by omega
    rw [z₂] at z
    exact z
  refine ⟨M, r₁, kwI_sc q₂ f₃, ro₁, kwFk_trans f₁ (kwFk_v (kwFv_s (fun f a j p z => by rw [f₃ f a j p z, f₂ f a j p z]))), kwRu_le u₁ (Nat.le_refl _) (by omega) (by omega), ?_⟩
  obtain ⟨g₁, hg₁⟩ := ccFU (k := n) (by omega)
  obtain ⟨g₂, hg₂⟩ := ccFU (k := 560 * l) (by omega)
  obtain ⟨g₃, hg₃⟩ := ccFU (k := w) (by omega)
  have y₁ := kwL28 (x2 := I (-1)) (x3 := I (-1)) (x4 := I (-1)) (x5 := N 0) (x6 := N 0) (x7 := N 0) (x8 := N 0) (x9 := N 0) q n 0 g₁ (by omega)
  have eg : kwWs W (kwInW m B) n = kwWs W (kwIn (m 0 0)) n := kwWs_c n (fun i y => kwInW_e (kwI_U q).2.2.1 y)
  have y₂ := c₁ g₂ (N (kwWs W (kwIn (m 0 0)) n))
  have y₃ := c₂ g₃
  rw [← hg₁] at y₁
  rw [← hg₂, ← u₃] at y₂
  rw [← hg₃] at y₃
  rw [eg] at y₁
  unfold H242
  rw [hB, ccMckT]
  refine Eq.trans y₁ (Eq.trans y₂ (Eq.trans y₃ (c₃ _)))
