/-! LOAD: a line of a card, both sides. -/
theorem ccBld_card {mc mm m₁ m₂ : mMi} {w l n bd lm dp cl z y c : Nat} {β : Nat → Int32} {W g : Nat → Nat} (q : ccBld mc mm w l n bd lm dp cl β W) (hn : n < 40) (hz : 1 ≤ z ∧ z ≤ 9) (hy : 1 ≤ y ∧ y ≤ 9) (hc : 1 ≤ c ∧ c ≤ 6) (hg : ∀ i, i < c → 97 ≤ g i ∧ g i ≤ 122)
    (x₁ : m₁ 1 1 0 4 = N (n + 1)) (x₂ : ∀ p, m₁ 1 1 1 p = mc 1 1 1 p) (x₃ : ∀ p, m₁ 1 1 2 p = if p = n then N (ccNum g c) else mc 1 1 2 p) (x₄ : ∀ p, m₁ 1 1 3 p = if p = n then N z else mc 1 1 3 p) (x₅ : ∀ p, m₁ 1 1 4 p = if p = n then N y else mc 1 1 4 p) (x₆ : m₁ 0 2 11 n = N z) (x₇ : ∀ j p, ¬ (j = 11 ∧ p = n) → m₁ 0 2 j p = mc 0 2 j p)
    (u₁ : m₂ 4 0 0 8 = N (n + 1)) (u₂ : ∀ p, p ≤ 7 → m₂ 4 0 0 p = mm 4 0 0 p) (u₃ : ∀ i, i < 6 → m₂ 4 0 1 (6 * n + i) = if i < c then N (g i) else N 0) (u₄ : ∀ p, ¬ (6 * n ≤ p ∧ p < 6 * n + 6) → m₂ 4 0 1 p = mm 4 0 1 p) (u₅ : ∀ p, m₂ 4 0 2 p = if p = n then N y else mm 4 0 2 p) (u₆ : m₂ 4 0 3 (8 + 6 * n) = N z) (u₇ : ∀ p, p ≠ 8 + 6 * n → m₂ 4 0 3 p = mm 4 0 3 p) :
    ccBld m₁ m₂ w l (n + 1) bd lm dp cl (fun k => if k = n then N z else β k) (fun k => if k = n then y else W k) := by
  obtain ⟨⟨a₁, a₂, a₃, a₄, a₅, a₆, a₇, a₈⟩, ⟨b₁, b₂, b₃, b₄⟩, ⟨c₁, c₂, c₃⟩, ⟨d₁, d₂, d₃⟩, ⟨d₄, d₅, d₆⟩, ⟨d₇, d₈, d₉⟩, e₁, ⟨e₂, e₃⟩, ⟨f₁, f₂, f₃⟩, g₁, g₂, g₃, g₄⟩ := q
  obtain ⟨h₁, h₂, h₃, h₄, h₅⟩ := g₄ n (Nat.le_refl n) hn
  refine ⟨⟨by rw [x₂]; exact a₁, by rw [x₂]; exact a₂, x₁, a₄, a₅, a₆, a₇, by omega⟩, ⟨by rw [u₂ 2 (by omega)]; exact b₁, by rw [u₂ 3 (by omega)]; exact b₂, u₁, a₄, a₅, a₆, a₇, by omega⟩, ⟨by rw [x₂]; exact c₁, by rw [u₂ 7 (by omega)]; exact c₂, c₃⟩, ⟨by rw [x₂]; exact d₁, by rw [u₂ 4 (by omega)]; exact d₂, d₃⟩, ⟨by rw [x₂]; exact d₄, by rw [u₂ 5 (by omega)]; exact d₅, d₆⟩, ⟨by rw [x₂]; exact d₇, by rw [u₂ 6 (by omega)]; exact d₈, d₉⟩, ?_, ⟨fun p y₁ => ?_, fun p y₁ y₂ => ?_⟩, ⟨fun k y₁ => ?_, fun k y₁ => ?_, fun k y₁ => ?_⟩, fun k y₁ => ?_, fun k y₁ => ?_, fun p y₁ y₂ => ?_, fun k y₁ y₂ => ?_⟩
  · exact ccR_card e₁ hn hz h₁ h₂ h₃ h₄ h₅ x₆ x₇ u₆ u₇ (fun k y₁ => by rw [if_neg (by omega)]) (by rw [if_pos rfl]) (fun k y₁ => by show N (if k = n then y else W k) = N (W k); rw [if_neg (by omega)])
  · rw [x₇ 2 p (by omega), x₇ 6 p (by omega)]
    exact e₂ p y₁
  · have z₁ := e₃ p y₁ y₂
    unfold ccVf ccVp at z₁ ⊢
    rw [x₇ 2 p (by omega), x₇ 6 p (by omega), x₇ 2 (p - 12) (by omega), x₇ 2 (p - 11) (by omega)]
    exact z₁
  · show _ = N (if k = n then y else W k)
    rw [x₅]
    by_cases z₁ : k = n
    · rw [if_pos z₁, if_pos z₁]
    · rw [if_neg z₁, if_neg z₁]
      exact f₁ k (by omega)
  · show _ = N (if k = n then y else W k)
    rw [u₅]
    by_cases z₁ : k = n
    · rw [if_pos z₁, if_pos z₁]
    · rw [if_neg z₁, if_neg z₁]
      exact f₂ k (by omega)
  · show 1 ≤ (if k = n then y else W k) ∧ (if k = n then y else W k) ≤ 9
    by_cases z₁ : k = n
    · rw [if_pos z₁]
      exact hy
    · rw [if_neg z₁]
      exact f₃ k (by omega)
  · show _ = if k = n then N z else β k
    rw [x₄]
    by_cases z₁ : k = n
    · rw [if_pos z₁, if_pos z₁]
    · rw [if_neg z₁, if_neg z₁]
      exact g₁ k (by omega)
  · by_cases z₁ : k = n
    · subst z₁
      refine ⟨g, c, hc.1, hc.2, fun i z₂ => ⟨(hg i z₂).1, (hg i z₂).2, ?_⟩, fun i z₂ z₃ => ?_, by rw [x₃, if_pos rfl]⟩
      · rw [u₃ i (by omega), if_pos z₂]
      · rw [u₃ i z₃, if_neg (by omega)]
    · obtain ⟨u, a, y₃, y₄, y₅, y₆, y₇⟩ := g₂ k (by omega)
      exact ⟨u, a, y₃, y₄, fun i z₂ => ⟨(y₅ i z₂).1, (y₅ i z₂).2.1, by rw [u₄ _ (by omega)]; exact (y₅ i z₂).2.2⟩, fun i z₂ z₃ => by rw [u₄ _ (by omega)]; exact y₆ i z₂ z₃, by rw [x₃, if_neg z₁]; exact y₇⟩
  · rw [x₇ 2 p (by omega)] at y₂
    rw [x₇ 4 p (by omega), x₇ 5 p (by omega)]
    exact g₃ p y₁ y₂
  · rw [x₇ 13 k (by omega), x₇ 12 k (by omega), u₇ _ (by omega), u₇ _ (by omega), u₇ _ (by omega)]
    exact g₄ k (by omega) y₂
/-- what a line does on both sides -/
def ccLn (b : Nat → Nat) (L e p₀ w l bd lm dp cl : Nat) (Fc Fm : mRs → mRz) (mc mm : mMi) : Prop :=
  (∃ n β W mc₁ mm₁ p s r kd, (∀ rs, Fc rs = rI (N 1) mc₁ rs) ∧ (∀ rs, Fm rs = rV mm₁ rs) ∧ ccCx mc₁ b L e p ∧ ccMx mm₁ b L e s r kd ∧ ccTok b L p s r kd ∧ ccBld mc₁ mm₁ w l n bd lm dp cl β W ∧ ccFrc mc mc₁ ∧ ccFrm mm mm₁ ∧ p₀ ≤ p) ∨
  (∃ mc₁ mm₁, (∀ rs, Fc rs = rI (N 0) mc₁ rs) ∧ (∀ rs, Fm rs = rV mm₁ rs) ∧ ccErd mc₁ mm₁ ∧ ccFrc mc mc₁ ∧ ccFrm mm mm₁)
theorem ccFrc_s1 {m m₁ : mMi} {j p : Nat} {v : Int32} (h : ccFrc m m₁) : ccFrc m (mset m₁ 1 1 j p v) := fun f a u q y₁ y₂ y₃ y₄ => by rw [ccRd, if_neg (by omega), h f a u q y₁ y₂ y₃ y₄]
theorem ccFrc_s2 {m m₁ : mMi} {j p : Nat} {v : Int32} (h : ccFrc m m₁) : ccFrc m (mset m₁ 0 2 j p v) := fun f a u q y₁ y₂ y₃ y₄ => by rw [ccRd, if_neg (by omega), h f a u q y₁ y₂ y₃ y₄]
def ccCdc (m : mMi) (r : mRs) : mRz := mifO (decide ((N 40) ≤ (m 1 1 0 4))) (bI (F69 (N 4) m r) (fun v8 m8 r8 => mckO (mZ v8 || false) (some (.inl (some (mI v8)), m8, r8)))) (bI (F72 m r) (fun v9 m9 r9 => mckO (mZ v9 || false) (some (.inl (some (mI v9)), m9, r9))))
def ccC3 (t : Int32) (m : mMi) (r : mRs) : mRz := mifO (decide ((m 4 0 0 25) ≠ (N 0))) (bV (F187 (N 0) (N 3) m r) (fun m r => F193_94 FU t (N 0) m r)) (bI (F194 (m 4 0 0 22) (m 4 0 0 21) m r) (fun v m r => mifO (decide (v = (I (-1)))) (bV (F187 (N 0) (N 3) m r) (fun m r => F193_94 FU t (N 0) m r)) (bV (F187 (N 1) (N 3) m r) (fun m r => F193_94 FU t (N 0) m r))))
def ccC2 (t : Int32) (m : mMi) (r : mRs) : mRz := mifO (decide ((m 4 0 0 23) = (N 1))) (bV (F187 (N 0) (N 1) m r) (ccC3 t)) (bV (F187 (N 1) (N 1) m r) (ccC3 t))
def ccC1 (m : mMi) (r : mRs) : mRz := bV (F189 m r) (fun m r => mifO (decide ((N 40) ≤ (m 4 0 0 8))) (ccC2 (N 0) m r) (ccC2 (m 4 0 0 8) m r))
theorem ccE193w {m : mMi} {rs : mRs} : F193 m rs = mifO (decide ((m 4 0 0 8) ≠ (N 40))) (bV (F187 (N 0) (N 4) m rs) ccC1) (bV (F187 (N 1) (N 4) m rs) ccC1) := rfl
theorem ccC3e {m : mMi} {rs : mRs} {t : Int32} (h : m 4 0 0 25 ≠ N 0) : ccC3 t m rs = rV m rs := by
  unfold ccC3
  rw [ccIte, if_pos h, ccE187z, ccBv, ccE193e h]
theorem ccC2e {m : mMi} {rs : mRs} {t : Int32} (h : m 4 0 0 25 ≠ N 0) : ccC2 t m rs = rV m rs := by
  unfold ccC2
  rw [ccE187e h, ccE187e h, ccBv, ccC3e h, ccIte]
  by_cases g : m 4 0 0 23 = N 1
  · rw [if_pos g]
  · rw [if_neg g]
theorem ccC1e {m : mMi} {rs : mRs} (h : m 4 0 0 25 ≠ N 0) : ccC1 m rs = rV m rs := by
  unfold ccC1
  rw [ccE189e h, ccBv, ccC2e h, ccC2e h, ccIte]
  by_cases g : N 40 ≤ m 4 0 0 8
  · rw [if_pos g]
  · rw [if_neg g]
theorem ccLine_card {mc mm : mMi} {b : Nat → Nat} {L e p s r kd w l n bd lm dp cl : Nat} {β : Nat → Int32} {W : Nat → Nat} (c : ccCx mc b L e r) (cs : mc 2 4 0 3 = N s) (m : ccMx mm b L e s r kd) (t : ccTok b L p s r kd) (q : ccBld mc mm w l n bd lm dp cl β W) : ccLn b L e r w l bd lm dp cl (fun rs => ccCdc mc rs) (fun rs => F193 mm rs) mc mm := by
  obtain ⟨w₁, w₂, w₃, w₄, w₅, w₆, w₇⟩ := ccTok_b t
  have q₀ := m.2.1.1
  have q₁ := m.1
  have m₈ := m.2.2.2.2.2.2.2.1
  have m₅ := m.2.2.2.2.1
  have b₃ : n ≤ 40 := q.1.2.2.2.2.2.2.2
  have nc : mc 1 1 0 4 = N n := q.1.2.2.1
  have nm : mm 4 0 0 8 = N n := q.2.1.2.2.1
  have zr : ∀ k M rs, bI (rI (N k) M rs) (fun v m r => mckO (mZ v || false) (some (.inl (some (mI v)), m, r))) = mckO (mZ (N k) || false) (rI (N k) M rs) := fun k M rs => rfl
  have z0 : (mZ (N 0) || false) = true := rfl
  have z1 : (mZ (N 1) || false) = true := rfl
  by_cases g : n = 40
  · have y₁ : N 40 ≤ N n := by rw [g, N_le (by omega) (by omega)]; omega
    have er := ccErd_mk (mc := mc) (mm := mm) (k := 4) (s := s) (by omega) (by omega) (by omega)
    refine Or.inr ⟨ccEc mc 4 s, ccEm mm 4 s, fun rs => ?_, fun rs => ?_, er, ccFrc_0 ccEc_fr, ccFrm_0 ccEm_fr⟩
    · show ccCdc mc rs = _
      unfold ccCdc
      rw [nc, ccIte, if_pos y₁, ccE69 cs, zr, ccMck z0]
    · show F193 mm rs = _
      rw [ccE193w, nm, g, ccIte, if_neg (fun z => z rfl), ccE187 m₈ m₅, ccBv, ccC1e (ccErd_e er)]
  have gn : n < 40 := by omega
  have y₁ : ¬ N 40 ≤ N n := by rw [N_le (by omega) (by omega)]; omega
  have y₂ : N n ≠ N 40 := by rw [ne_eq, N_eq (by omega) (by omega)]; exact g
  obtain ⟨mm₁, s₁, r₁, kd₁, h₁, h₂, h₃, h₄⟩ := ccE189x m w₃
  obtain ⟨m₁, k₁, k₂, k₃, k₄⟩ := ccE94x c h₂
  obtain ⟨v₁, v₂, v₃, v₄, v₅, v₆, v₇⟩ := ccTok_b h₂
  have m₈' := h₃.2.2.2.2.2.2.2.1
  have m₅' := h₃.2.2.2.2.1
  have m₄' := h₃.2.2.2.1
  have m₆' := h₃.2.2.2.2.2.1
  have nm₁ : mm₁ 4 0 0 8 = N n := by rw [h₄ 4 0 0 8 (by omega)]; exact nm
  have nc₁ : m₁ 1 1 0 4 = N n := by rw [k₄ 1 1 0 4 (by omega) (by omega)]; exact nc
  have qb := ccBld_fr q k₄ h₄
  have A : ∀ rs, ccCdc mc rs = bI (F72 mc rs) (fun v m r => mckO (mZ v || false) (some (.inl (some (mI v)), m, r))) := fun rs => by
    unfold ccCdc
    rw [nc, ccIte, if_neg y₁]
  have B : ∀ rs, F193 mm rs = ccC2 (N n) mm₁ rs := fun rs => by
    rw [ccE193w, nm, ccIte, if_pos y₂, ccE187z, ccBv]
    unfold ccC1
    rw [h₁, ccBv, nm₁, ccIte, if_neg y₁]
  by_cases g₁ : kd₁ = 1
  rotate_left
  · have y₃ : ¬ N kd₁ = N 1 := by rw [N_eq (by omega) (by omega)]; exact g₁
    have er := ccErd_mk (mc := m₁) (mm := mm₁) (k := 1) (s := s₁) (by omega) (by omega) (by omega)
    refine Or.inr ⟨ccEc m₁ 1 s₁, ccEm mm₁ 1 s₁, fun rs => ?_, fun rs => ?_, er, ccFrc_0 (ccFc0_tr k₄ ccEc_fr), ccFrm_0 (ccFm0_tr h₄ ccEm_fr)⟩
    · show ccCdc mc rs = _
      rw [A]
      unfold F72
      rw [k₁, ccBv, k₂.2.2.1, ccIte, if_neg y₃, ccE69 k₂.2.1, zr, ccMck z0, zr, ccMck z0]
    · show F193 mm rs = _
      rw [B]
      unfold ccC2
      rw [m₆', ccIte, if_neg y₃, ccE187 m₈' m₅', ccBv, ccC3e (ccErd_e er)]
  subst g₁
  obtain ⟨v, nv₁, nv₂, nv₃⟩ := ccNames h₃ h₂ nc₁ nm₁ b₃ qb.2.2.2.2.2.2.2.2.2.2.1
  have val := k₂.2.2.2.1 rfl
  have A₂ : ∀ rs, F72 mc rs = mifO (decide (v = (I (-1)))) (mckO (mIn (N n) 40) (bI (F70 (N 1) (N 9) (mset m₁ 1 1 2 n (N (ccNum (fun i => b (s₁ + i)) (r₁ - s₁)))) rs) (fun v3 m3 r3 => mifO (decide (v3 ≠ (N 0))) (mckO (mIn (N n) 40) (mckO (mIn (N n) 40) (bI (F70 (N 1) (N 9) (mset (mset m3 1 1 3 n (m3 2 4 0 5)) 0 2 11 n (m3 2 4 0 5)) r3) (fun v4 m4 r4 => mifO (decide (v4 ≠ (N 0))) (mckO (mIn (N n) 40) (some (.inl (some (mI (N 1))), (mset (mset m4 1 1 4 n (m4 2 4 0 5)) 1 1 0 4 ((m4 1 1 0 4) + (N 1))), r4))) (some (.inl (some (mI (N 0))), m4, r4)))))) (some (.inl (some (mI (N 0))), m3, r3))))) (rI (N 0) (ccEc m₁ 3 s₁) rs) := fun rs => by
    unfold F72
    rw [k₁, ccBv, k₂.2.2.1, ccIte, if_pos rfl, val, nv₁, ccBi, ccE69 k₂.2.1, zr, ccMck z0, nc, mix_N (by omega), val]
  rcases nv₃ with nv₃ | ⟨qn, nv₃, nv₄⟩
  rotate_left
  · have y₃ : ¬ v = I (-1) := by rw [nv₃]; exact ccNI1 (by omega)
    have er := ccErd_mk (mc := m₁) (mm := mm₁) (k := 3) (s := s₁) (by omega) (by omega) (by omega)
    refine Or.inr ⟨ccEc m₁ 3 s₁, ccEm mm₁ 3 s₁, fun rs => ?_, fun rs => ?_, er, ccFrc_0 (ccFc0_tr k₄ ccEc_fr), ccFrm_0 (ccFm0_tr h₄ ccEm_fr)⟩
    · show ccCdc mc rs = _
      rw [A, A₂, ccIte, if_neg y₃, zr, ccMck z0]
    · show F193 mm rs = _
      rw [B]
      unfold ccC2
      rw [m₆', ccIte, if_pos rfl, ccE187z, ccBv]
      unfold ccC3
      rw [m₈', ccIf0, m₅', m₄', nv₂, ccBi, ccIte, if_neg y₃, ccE187 m₈' m₅', ccBv, ccE193e (ccErd_e er)]
  subst nv₃
  obtain ⟨f, hf⟩ := ccFU (k := 6) (by omega)
  obtain ⟨mm₂, l₁, l₂, l₃⟩ := ccL193 gn h₂ 6 0 mm₁ (by omega) h₃
  have h₃' : ccMx mm₂ b L e s₁ r₁ 1 := ccMx_fr h₃ (fun q => l₃ 4 0 7 q (by omega)) (fun q y₃ y₄ => l₃ 4 0 0 q (by omega))
  obtain ⟨mm₃, s₂, r₂, kd₂, h₅, h₆, h₇, h₈⟩ := ccE189x h₃' v₃
  have B₂ : ∀ rs, F193 mm rs = bI (F190 (N 1) (N 9) mm₃ rs) (fun v2 m2 r2 => bI (F190 (N 1) (N 9) m2 r2) (fun v3 m3 r3 => mifO (decide ((m3 4 0 0 25) ≠ (N 0))) (some (.inl none, m3, r3)) (bV (F195 (N n) (N 0) v2 m3 r3) (fun m4 r4 => mckO (mIn (N n) 40) (some (.inl none, (mset (mset m4 4 0 2 (mix (N n)) v3) 4 0 0 8 ((m4 4 0 0 8) + (N 1))), r4)))))) := fun rs => by
    have y₃ : N 6 ≤ N 6 := by rw [N_le (by omega) (by omega)]; omega
    rw [B]
    unfold ccC2
    rw [m₆', ccIte, if_pos rfl, ccE187z, ccBv]
    unfold ccC3
    rw [m₈', ccIf0, m₅', m₄', nv₂, ccBi, ccIte, if_pos rfl, ccE187z, ccBv, hf, l₁, ccL193_94, ccIte, if_pos y₃, h₅, ccBv]
  have cM : ccCx (mset m₁ 1 1 2 n (N (ccNum (fun i => b (s₁ + i)) (r₁ - s₁)))) b L e r₁ := ccCx_fr k₃ (fun j q _ => by rw [ccRd, if_neg (by omega)]) (fun q _ => by rw [ccRd, if_neg (by omega)]) (fun q _ => by rw [ccRd, if_neg (by omega)])
  have fc₁ : ccFrc mc (mset m₁ 1 1 2 n (N (ccNum (fun i => b (s₁ + i)) (r₁ - s₁)))) := ccFrc_s1 (ccFrc_0 k₄)
  have fm₁ : ccFrm mm mm₃ := ccFrm_tr (ccFrm_0 h₄) (ccFrm_tr (fun f a j q y₃ => l₃ f a j q (by omega)) (ccFrm_0 h₈))
  rcases ccNumbN (lo := 1) (h := 10) cM h₇ h₆ (by omega) (ccHi (k := 9) (by omega)).1 (ccHi (k := 9) (by omega)).2 with ⟨z, M₁, mm₄, s₃, r₃, kd₃, a₁, a₂, a₃, a₄, a₅, a₆, a₇, a₈, a₉, a₁₀, a₁₁, a₁₂⟩ | ⟨M₁, mm₄, a₁, a₂, a₃, a₄, a₅⟩
  rotate_left
  · refine Or.inr ⟨M₁, mm₄, fun rs => ?_, fun rs => ?_, a₃, ccFrc_tr fc₁ (ccFrc_0 a₄), ccFrm_tr fm₁ (ccFrm_0 a₅)⟩
    · show ccCdc mc rs = _
      rw [A, A₂, ccIte, if_pos rfl, ccMckIn gn (by omega), a₁, ccBi, ccIf0, zr, ccMck z0]
    · show F193 mm rs = _
      rw [B₂, a₂, ccBi, ccE190e (ccErd_e a₃), ccBi, ccIte, if_pos (ccErd_e a₃)]
  have cM₂ : ccCx (mset (mset M₁ 1 1 3 n (N z)) 0 2 11 n (N z)) b L e r₂ := ccCx_fr a₇ (fun j q _ => by rw [ccRd, if_neg (by omega), ccRd, if_neg (by omega)]) (fun q _ => by rw [ccRd, if_neg (by omega), ccRd, if_neg (by omega)]) (fun q _ => by rw [ccRd, if_neg (by omega), ccRd, if_neg (by omega)])
  have fc₂ : ccFrc mc (mset (mset M₁ 1 1 3 n (N z)) 0 2 11 n (N z)) := ccFrc_s2 (ccFrc_s1 (ccFrc_tr fc₁ (ccFrc_0 a₁₀)))
  have fm₂ : ccFrm mm mm₄ := ccFrm_tr fm₁ (ccFrm_0 a₁₁)
  rcases ccNumbN (lo := 1) (h := 10) cM₂ a₈ a₉ (by omega) (ccHi (k := 9) (by omega)).1 (ccHi (k := 9) (by omega)).2 with ⟨y, M₂, mm₅, s₄, r₄, kd₄, d₁, d₂, d₃, d₄, d₅, d₆, d₇, d₈, d₉, d₁₀, d₁₁, d₁₂⟩ | ⟨M₂, mm₅, d₁, d₂, d₃, d₄, d₅⟩
  rotate_left
  · refine Or.inr ⟨M₂, mm₅, fun rs => ?_, fun rs => ?_, d₃, ccFrc_tr fc₂ (ccFrc_0 d₄), ccFrm_tr fm₂ (ccFrm_0 d₅)⟩
    · show ccCdc mc rs = _
      rw [A, A₂, ccIte, if_pos rfl, ccMckIn gn (by omega), a₄, ccBi, ccIf1, ccMckIn gn (by omega), ccMckIn gn (by omega), a₆, d₁, ccBi, ccIf0, zr, ccMck z0]
    · show F193 mm rs = _
      rw [B₂, a₅, ccBi, d₂, ccBi, ccIte, if_pos (ccErd_e d₃)]
  have M4 : M₂ 1 1 0 4 = N n := by
    rw [d₁₀ 1 1 0 4 (by omega) (by omega), ccRd, if_neg (by omega), ccRd, if_neg (by omega), a₁₀ 1 1 0 4 (by omega) (by omega), ccRd, if_neg (by omega), nc₁]
  have m8 : mset mm₅ 4 0 3 (8 + 6 * n) (N z) 4 0 0 8 = N n := by
    rw [ccRd, if_neg (by omega), d₁₁ 4 0 0 8 (by omega), a₁₁ 4 0 0 8 (by omega), h₈ 4 0 0 8 (by omega), l₃ 4 0 0 8 (by omega), nm₁]
  have x8 := d₈.2.2.2.2.2.2.2.1
  have e₁ : N 8 + N 6 * N n + N 0 = N (8 + 6 * n) := by rw [N_mul, N_add, N_add]; rfl
  obtain ⟨gl₁, gl₂⟩ := v₆ rfl
  have gl₃ := v₅ (by omega)
  have fcE : ccFrc mc (mset (mset M₂ 1 1 4 n (N y)) 1 1 0 4 (N (n + 1))) := ccFrc_s1 (ccFrc_s1 (ccFrc_tr fc₂ (ccFrc_0 d₁₀)))
  have fmE : ccFrm mm (mset (mset (mset mm₅ 4 0 3 (8 + 6 * n) (N z)) 4 0 2 n (N y)) 4 0 0 8 (N (n + 1))) := ccFrm_tr (ccFrm_tr fm₂ (ccFrm_0 d₁₁)) (fun f a j q y₃ => by rw [ccRd, if_neg (by omega), ccRd, if_neg (by omega), ccRd, if_neg (by omega)])
  have cls : ∀ j q, m₁ 1 1 j q = mc 1 1 j q := fun j q => k₄ 1 1 j q (by omega) (by omega)
  have cl0 : ∀ j q, m₁ 0 2 j q = mc 0 2 j q := fun j q => k₄ 0 2 j q (by omega) (by omega)
  have ca : ∀ j q, M₁ 1 1 j q = mset m₁ 1 1 2 n (N (ccNum (fun i => b (s₁ + i)) (r₁ - s₁))) 1 1 j q := fun j q => a₁₀ 1 1 j q (by omega) (by omega)
  have cd : ∀ j q, M₂ 1 1 j q = mset (mset M₁ 1 1 3 n (N z)) 0 2 11 n (N z) 1 1 j q := fun j q => d₁₀ 1 1 j q (by omega) (by omega)
  have mr : ∀ j q, j ≠ 0 → j ≠ 1 → mm₅ 4 0 j q = mm 4 0 j q := fun j q y₃ y₄ => by rw [d₁₁ 4 0 j q (by omega), a₁₁ 4 0 j q (by omega), h₈ 4 0 j q (by omega), l₃ 4 0 j q (by omega), h₄ 4 0 j q (by omega)]
  have bld : ccBld (mset (mset M₂ 1 1 4 n (N y)) 1 1 0 4 (N (n + 1))) (mset (mset (mset mm₅ 4 0 3 (8 + 6 * n) (N z)) 4 0 2 n (N y)) 4 0 0 8 (N (n + 1))) w l (n + 1) bd lm dp cl (fun k => if k = n then N z else β k) (fun k => if k = n then y else W k) := by
    refine ccBld_card (c := r₁ - s₁) (g := fun i => b (s₁ + i)) q gn ⟨a₁, by omega⟩ ⟨d₁, by omega⟩ ⟨by omega, gl₁⟩ (fun i y₃ => gl₂ (s₁ + i) (by omega) (by omega)) ?_ (fun p => ?_) (fun p => ?_) (fun p => ?_) (fun p => ?_) ?_ (fun j p y₃ => ?_) ?_ (fun p y₃ => ?_) (fun i y₃ => ?_) (fun p y₃ => ?_) (fun p => ?_) ?_ (fun p y₃ => ?_)
    · rw [ccRd, if_pos ⟨rfl, rfl, rfl, rfl⟩]
    · rw [ccRd, if_neg (by omega), ccRd, if_neg (by omega), cd, ccRd, if_neg (by omega), ccRd, if_neg (by omega), ca, ccRd, if_neg (by omega), cls]
    · rw [ccRd, if_neg (by omega), ccRd, if_neg (by omega), cd, ccRd, if_neg (by omega), ccRd, if_neg (by omega), ca, ccRd]
      by_cases y₄ : p = n
      · rw [if_pos ⟨rfl, rfl, rfl, y₄⟩, if_pos y₄]
      · rw [if_neg (by omega), if_neg y₄, cls]
    · rw [ccRd, if_neg (by omega), ccRd, if_neg (by omega), cd, ccRd, if_neg (by omega), ccRd]
      by_cases y₄ : p = n
      · rw [if_pos ⟨rfl, rfl, rfl, y₄⟩, if_pos y₄]
      · rw [if_neg (by omega), if_neg y₄, ca, ccRd, if_neg (by omega), cls]
    · rw [ccRd, if_neg (by omega), ccRd]
      by_cases y₄ : p = n
      · rw [if_pos ⟨rfl, rfl, rfl, y₄⟩, if_pos y₄]
      · rw [if_neg (by omega), if_neg y₄, cd, ccRd, if_neg (by omega), ccRd, if_neg (by omega), ca, ccRd, if_neg (by omega), cls]
    · rw [ccRd, if_neg (by omega), ccRd, if_neg (by omega), d₁₀ 0 2 11 n (by omega) (by omega), ccRd, if_pos ⟨rfl, rfl, rfl, rfl⟩]
    · rw [ccRd, if_neg (by omega), ccRd, if_neg (by omega), d₁₀ 0 2 j p (by omega) (by omega), ccRd, if_neg (by omega), ccRd, if_neg (by omega), a₁₀ 0 2 j p (by omega) (by omega), ccRd, if_neg (by omega), cl0]
    · rw [ccRd, if_pos ⟨rfl, rfl, rfl, rfl⟩]
    · rw [ccRd, if_neg (by omega), ccRd, if_neg (by omega), ccRd, if_neg (by omega), d₁₁ 4 0 0 p (by omega), a₁₁ 4 0 0 p (by omega), h₈ 4 0 0 p (by omega), l₃ 4 0 0 p (by omega), h₄ 4 0 0 p (by omega)]
    · rw [ccRd, if_neg (by omega), ccRd, if_neg (by omega), ccRd, if_neg (by omega), d₁₁ 4 0 1 _ (by omega), a₁₁ 4 0 1 _ (by omega), h₈ 4 0 1 _ (by omega), l₂ i (by omega) y₃]
      by_cases y₄ : i < r₁ - s₁
      · rw [if_pos y₄, if_pos (by omega)]
      · rw [if_neg y₄, if_neg (by omega)]
    · rw [ccRd, if_neg (by omega), ccRd, if_neg (by omega), ccRd, if_neg (by omega), d₁₁ 4 0 1 _ (by omega), a₁₁ 4 0 1 _ (by omega), h₈ 4 0 1 _ (by omega), l₃ 4 0 1 p (by omega), h₄ 4 0 1 p (by omega)]
    · rw [ccRd, if_neg (by omega), ccRd]
      by_cases y₄ : p = n
      · rw [if_pos ⟨rfl, rfl, rfl, y₄⟩, if_pos y₄]
      · rw [if_neg (by omega), if_neg y₄, ccRd, if_neg (by omega), mr 2 p (by omega) (by omega)]
    · rw [ccRd, if_neg (by omega), ccRd, if_neg (by omega), ccRd, if_pos ⟨rfl, rfl, rfl, rfl⟩]
    · rw [ccRd, if_neg (by omega), ccRd, if_neg (by omega), ccRd, if_neg (by omega), mr 3 p (by omega) (by omega)]
  refine Or.inl ⟨n + 1, _, _, mset (mset M₂ 1 1 4 n (N y)) 1 1 0 4 (N (n + 1)), mset (mset (mset mm₅ 4 0 3 (8 + 6 * n) (N z)) 4 0 2 n (N y)) 4 0 0 8 (N (n + 1)), r₃, s₄, r₄, kd₄, fun rs => ?_, fun rs => ?_, ccCx_fr d₇ (fun j q _ => by rw [ccRd, if_neg (by omega), ccRd, if_neg (by omega)]) (fun q _ => by rw [ccRd, if_neg (by omega), ccRd, if_neg (by omega)]) (fun q _ => by rw [ccRd, if_neg (by omega), ccRd, if_neg (by omega)]), ccMx_fr d₈ (fun q => by rw [ccRd, if_neg (by omega), ccRd, if_neg (by omega), ccRd, if_neg (by omega)]) (fun q y₃ y₄ => by rw [ccRd, if_neg (by omega), ccRd, if_neg (by omega), ccRd, if_neg (by omega)]), d₉, bld, fcE, fmE, by omega⟩
  · show ccCdc mc rs = _
    rw [A, A₂, ccIte, if_pos rfl, ccMckIn gn (by omega), a₄, ccBi, ccIf1, ccMckIn gn (by omega), ccMckIn gn (by omega), a₆, d₄, ccBi, ccIf1, ccMckIn gn (by omega), d₆, M4, N_add, zr, ccMck z1]
  · show F193 mm rs = _
    rw [B₂, a₅, ccBi, d₅, ccBi, x8, ccIf0]
    unfold F195
    rw [e₁, ccMckIn (by omega) (by omega), mix_N (by omega), ccBv, ccMckIn gn (by omega), mix_N (by omega), m8, N_add]
