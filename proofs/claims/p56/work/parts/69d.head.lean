/-! LOAD: the head of the text. -/
theorem ccNumbN {mc mm : mMi} {b : Nat → Nat} {L e p s r kd lo h : Nat} {hC hM : Int32} (c : ccCx mc b L e p) (d : ccMx mm b L e s r kd) (t : ccTok b L p s r kd) (bl : lo < 1000) (qC : ∀ v, v < 1000 → (N v ≤ hC ↔ v < h)) (qM : ∀ v, v < 1000 → (hM < N v ↔ h ≤ v)) :
    (∃ v mc₁ mm₁ s' r' kd', lo ≤ v ∧ v < h ∧ v < 1000 ∧ (∀ rs, F70 (N lo) hC mc rs = rI (N 1) mc₁ rs) ∧ (∀ rs, F190 (N lo) hM mm rs = rI (N v) mm₁ rs) ∧ mc₁ 2 4 0 5 = N v ∧ ccCx mc₁ b L e r ∧ ccMx mm₁ b L e s' r' kd' ∧ ccTok b L r s' r' kd' ∧ ccFc0 mc mc₁ ∧ ccFm0 mm mm₁ ∧ p < r) ∨
    (∃ mc₁ mm₁, (∀ rs, F70 (N lo) hC mc rs = rI (N 0) mc₁ rs) ∧ (∀ rs, F190 (N lo) hM mm rs = rI (N lo) mm₁ rs) ∧ ccErd mc₁ mm₁ ∧ ccFc0 mc mc₁ ∧ ccFm0 mm mm₁) := by
  have tb := ccTok_b t
  rcases ccNumb c d t bl qC qM with ⟨v, mc₁, a₁, a₂, a₃, a₄, a₅, a₆, a₇, a₈, a₉, a₁₀⟩ | ⟨mc₁, mm₁, a₁, a₂, a₃, a₄, a₅⟩
  · obtain ⟨mm₁, s', r', kd', b₁, b₂, b₃, b₄⟩ := ccE189x d tb.2.2.1
    refine Or.inl ⟨v, mc₁, mm₁, s', r', kd', a₁, a₂, a₃, a₄, fun rs => ?_, a₆, a₇, b₃, b₂, a₉, b₄, by omega⟩
    unfold F190
    rw [a₅, ccBi, b₁, ccBv]
  · refine Or.inr ⟨mc₁, mm₁, a₁, fun rs => ?_, a₃, a₄, a₅⟩
    unfold F190
    rw [a₂, ccBi, ccE189e (ccErd_e a₃), ccBv]
theorem ccHi {k : Nat} (h₁ : k < 1000) : (∀ v, v < 1000 → (N v ≤ N k ↔ v < k + 1)) ∧ ∀ v, v < 1000 → (N k < N v ↔ k + 1 ≤ v) :=
  ⟨fun v y₁ => by rw [N_le (by omega) (by omega)]; omega, fun v y₁ => by rw [N_lt (by omega) (by omega)]; omega⟩
def ccLo (i : Nat) : Nat := if i = 0 then 2 else if i = 1 then 1 else if i = 2 then 1 else 0
def ccUp (i : Nat) : Nat := if i = 0 then 12 else if i = 1 then 8 else if i = 2 then 99 else if i = 3 then 9 else if i = 4 then 20 else 8
theorem ccLo_b {i : Nat} : ccLo i < 1000 := by
  unfold ccLo
  repeat' split
  all_goals omega
theorem ccUp_b {i : Nat} : ccUp i < 1000 := by
  unfold ccUp
  repeat' split
  all_goals omega
/-- the bounds of the class's numbers -/
def ccLim (m : mMi) : Prop := ∀ i, i < 6 → m 3 1 0 i = N (ccLo i) ∧ m 3 2 0 i = N (ccUp i)
def ccHdm (K : mMi → mRs → mRz) : Nat → Nat → mMi → mRs → mRz
  | 0, _ => K
  | d + 1, i => fun m r => bI (F190 (N (ccLo i)) (N (ccUp i)) m r) (fun v m r => ccHdm K d (i + 1) (mset m 4 0 0 (2 + i) v) r)
def ccFcH (m m₁ : mMi) : Prop := ∀ f a j q, ¬ (f = 2 ∧ a = 4 ∧ j = 0 ∧ 2 ≤ q ∧ q ≤ 5) → ¬ (f = 2 ∧ a = 3 ∧ j = 0 ∧ (q = 3 ∨ q = 4)) → ¬ (f = 1 ∧ a = 1 ∧ j = 1) → m₁ f a j q = m f a j q
def ccFmH (m m₁ : mMi) : Prop := ∀ f a j q, ¬ (f = 4 ∧ a = 0 ∧ j = 0 ∧ ((2 ≤ q ∧ q ≤ 7) ∨ (21 ≤ q ∧ q ≤ 26))) → m₁ f a j q = m f a j q
theorem ccHdm_e : ∀ d i m, i + d ≤ 6 → m 4 0 0 25 ≠ N 0 → ∃ m₁, (∀ K rs, ccHdm K d i m rs = K m₁ rs) ∧ ∀ f a j q, ¬ (f = 4 ∧ a = 0 ∧ j = 0 ∧ 2 ≤ q ∧ q ≤ 7) → m₁ f a j q = m f a j q := by
  intro d
  induction d with
  | zero => intro i m _ _; exact ⟨m, fun K rs => rfl, fun _ _ _ _ _ => rfl⟩
  | succ d i₁ =>
    intro i m h₁ h₂
    obtain ⟨m₁, a₁, a₂⟩ := i₁ (i + 1) (mset m 4 0 0 (2 + i) (N (ccLo i))) (by omega) (by rw [ccRd, if_neg (by omega)]; exact h₂)
    refine ⟨m₁, fun K rs => ?_, fun f a j q y₁ => by rw [a₂ f a j q y₁, ccRd, if_neg (by omega)]⟩
    show bI (F190 (N (ccLo i)) (N (ccUp i)) m rs) (fun v m r => ccHdm K d (i + 1) (mset m 4 0 0 (2 + i) v) r) = K m₁ rs
    rw [ccE190e h₂, ccBi, a₁]
def ccTie (mc mm : mMi) (u : Nat) : Prop := ∃ v, ccLo u ≤ v ∧ v ≤ ccUp u ∧ mc 1 1 1 u = N v ∧ mm 4 0 0 (2 + u) = N v
theorem ccHd {b : Nat → Nat} {L e : Nat} : ∀ d i mc mm p s r kd, i + d = 6 → ccCx mc b L e p → ccMx mm b L e s r kd → ccTok b L p s r kd → ccLim mc → (∀ u, u < i → ccTie mc mm u) →
    (∃ mc₁ mm₁ p' s' r' kd', (∀ f rs, F68_27 (f + d + 1) (N i) mc rs = rI (N 1) mc₁ rs) ∧ (∀ K rs, ccHdm K d i mm rs = K mm₁ rs) ∧ ccCx mc₁ b L e p' ∧ ccMx mm₁ b L e s' r' kd' ∧ ccTok b L p' s' r' kd' ∧ (∀ u, u < 6 → ccTie mc₁ mm₁ u) ∧ ccFcH mc mc₁ ∧ ccFmH mm mm₁ ∧ p ≤ p') ∨
    (∃ mc₁ mm₁, (∀ f rs, F68_27 (f + d + 1) (N i) mc rs = rI (N 0) mc₁ rs) ∧ (∀ K rs, ccHdm K d i mm rs = K mm₁ rs) ∧ ccErd mc₁ mm₁ ∧ ccFcH mc mc₁ ∧ ccFmH mm mm₁) := by
  intro d
  induction d with
  | zero =>
    intro i mc mm p s r kd g₁ c m t _ ti
    have e₁ : i = 6 := by omega
    subst e₁
    have e₂ : N 6 ≤ N 6 := by rw [N_le (by omega) (by omega)]; omega
    exact Or.inl ⟨mc, mm, p, s, r, kd, fun f rs => by rw [ccL68_27, ccIte, if_pos e₂], fun K rs => rfl, c, m, t, ti, fun _ _ _ _ _ _ _ => rfl, fun _ _ _ _ _ => rfl, Nat.le_refl p⟩
  | succ d i₁ =>
    intro i mc mm p s r kd g₁ c m t lim ti
    have e₂ : ¬ N 6 ≤ N i := by rw [N_le (by omega) (by omega)]; omega
    have lb := ccLo_b (i := i)
    have ub := ccUp_b (i := i)
    obtain ⟨l₁, l₂⟩ := lim i (by omega)
    rcases ccNumbN (h := ccUp i + 1) c m t lb (ccHi ub).1 (ccHi ub).2 with ⟨v, mc₁, mm₁, s', r', kd', a₁, a₂, a₃, a₄, a₅, a₆, a₇, a₈, a₉, a₁₀, a₁₁, a₁₂⟩ | ⟨mc₁, mm₁, a₁, a₂, a₃, a₄, a₅⟩
    · have k₁ : ccCx (mset mc₁ 1 1 1 i (N v)) b L e r := ⟨a₇.1, ccBt_fr a₇.2.1 (fun j p => by rw [ccRd, if_neg (by omega)]), by rw [ccRd, if_neg (by omega)]; exact a₇.2.2.1, by rw [ccRd, if_neg (by omega)]; exact a₇.2.2.2.1, by rw [ccRd, if_neg (by omega)]; exact a₇.2.2.2.2.1, by rw [ccRd, if_neg (by omega)]; exact a₇.2.2.2.2.2⟩
      obtain ⟨x₁, x₂, x₃, x₄, x₅, x₆, x₇, x₈, x₉⟩ := a₈
      have k₂ : ccMx (mset mm₁ 4 0 0 (2 + i) (N v)) b L e s' r' kd' := ⟨x₁, ccBm_fr x₂ (fun p => by rw [ccRd, if_neg (by omega)]), by rw [ccRd, if_neg (by omega)]; exact x₃, by rw [ccRd, if_neg (by omega)]; exact x₄, by rw [ccRd, if_neg (by omega)]; exact x₅, by rw [ccRd, if_neg (by omega)]; exact x₆, fun z => by rw [ccRd, if_neg (by omega)]; exact x₇ z, by rw [ccRd, if_neg (by omega)]; exact x₈, by rw [ccRd, if_neg (by omega)]; exact x₉⟩
      have k₃ : ccLim (mset mc₁ 1 1 1 i (N v)) := fun u y₁ => by
        rw [ccRd, if_neg (by omega), ccRd, if_neg (by omega), a₁₀ 3 1 0 u (by omega) (by omega), a₁₀ 3 2 0 u (by omega) (by omega)]
        exact lim u y₁
      have k₄ : ∀ u, u < i + 1 → ccTie (mset mc₁ 1 1 1 i (N v)) (mset mm₁ 4 0 0 (2 + i) (N v)) u := fun u y₁ => by
        by_cases y₂ : u = i
        · rw [y₂]
          exact ⟨v, a₁, by omega, by rw [ccRd, if_pos ⟨rfl, rfl, rfl, rfl⟩], by rw [ccRd, if_pos ⟨rfl, rfl, rfl, rfl⟩]⟩
        · obtain ⟨v', z₁, z₂, z₃, z₄⟩ := ti u (by omega)
          exact ⟨v', z₁, z₂, by rw [ccRd, if_neg (by omega), a₁₀ 1 1 1 u (by omega) (by omega)]; exact z₃, by rw [ccRd, if_neg (by omega), a₁₁ 4 0 0 (2 + u) (by omega)]; exact z₄⟩
      have k₅ : ∀ f rs, F68_27 (f + (d + 1) + 1) (N i) mc rs = F68_27 (f + d + 1) (N (i + 1)) (mset mc₁ 1 1 1 i (N v)) rs := fun f rs => by
        have e₃ : f + (d + 1) + 1 = f + d + 1 + 1 := by omega
        rw [e₃, ccL68_27, ccIte, if_neg e₂, ccMckIn (by omega) (by omega), ccMckIn (by omega) (by omega), mix_N (by omega), l₁, l₂, a₄, ccBi, ccIf1, ccMckIn (by omega) (by omega), a₆, N_add]
      have k₆ : ∀ K rs, ccHdm K (d + 1) i mm rs = ccHdm K d (i + 1) (mset mm₁ 4 0 0 (2 + i) (N v)) rs := fun K rs => by
        show bI (F190 (N (ccLo i)) (N (ccUp i)) mm rs) (fun v m r => ccHdm K d (i + 1) (mset m 4 0 0 (2 + i) v) r) = _
        rw [a₅, ccBi]
      rcases i₁ (i + 1) _ _ r s' r' kd' (by omega) k₁ k₂ a₉ k₃ k₄ with ⟨mc₂, mm₂, p', s₂, r₂, kd₂, b₁, b₂, b₃, b₄, b₅, b₆, b₇, b₈, b₉⟩ | ⟨mc₂, mm₂, b₁, b₂, b₃, b₄, b₅⟩
      · refine Or.inl ⟨mc₂, mm₂, p', s₂, r₂, kd₂, fun f rs => by rw [k₅, b₁], fun K rs => by rw [k₆, b₂], b₃, b₄, b₅, b₆, fun f a j q y₁ y₂ y₃ => ?_, fun f a j q y₁ => ?_, by omega⟩
        · rw [b₇ f a j q y₁ y₂ y₃, ccRd, if_neg (by omega), a₁₀ f a j q y₁ y₂]
        · rw [b₈ f a j q y₁, ccRd, if_neg (by omega), a₁₁ f a j q (by omega)]
      · refine Or.inr ⟨mc₂, mm₂, fun f rs => by rw [k₅, b₁], fun K rs => by rw [k₆, b₂], b₃, fun f a j q y₁ y₂ y₃ => ?_, fun f a j q y₁ => ?_⟩
        · rw [b₄ f a j q y₁ y₂ y₃, ccRd, if_neg (by omega), a₁₀ f a j q y₁ y₂]
        · rw [b₅ f a j q y₁, ccRd, if_neg (by omega), a₁₁ f a j q (by omega)]
    · obtain ⟨mm₂, b₁, b₂⟩ := ccHdm_e d (i + 1) (mset mm₁ 4 0 0 (2 + i) (N (ccLo i))) (by omega) (by rw [ccRd, if_neg (by omega)]; exact ccErd_e a₃)
      refine Or.inr ⟨mc₁, mm₂, fun f rs => ?_, fun K rs => ?_, ?_, fun f a j q y₁ y₂ _ => a₄ f a j q y₁ y₂, fun f a j q y₁ => ?_⟩
      · have e₃ : f + (d + 1) + 1 = f + d + 1 + 1 := by omega
        rw [e₃, ccL68_27, ccIte, if_neg e₂, ccMckIn (by omega) (by omega), ccMckIn (by omega) (by omega), mix_N (by omega), l₁, l₂, a₁, ccBi, ccIf0]
      · show bI (F190 (N (ccLo i)) (N (ccUp i)) mm rs) (fun v m r => ccHdm K d (i + 1) (mset m 4 0 0 (2 + i) v) r) = _
        rw [a₂, ccBi, b₁]
      · obtain ⟨k, z, z₁, z₂, z₃, z₄, z₅, z₆, z₇⟩ := a₃
        exact ⟨k, z, z₁, z₂, z₃, z₄, z₅, by rw [b₂ 4 0 0 25 (by omega), ccRd, if_neg (by omega)]; exact z₆, by rw [b₂ 4 0 0 26 (by omega), ccRd, if_neg (by omega)]; exact z₇⟩
      · rw [b₂ f a j q (by omega), ccRd, if_neg (by omega), a₅ f a j q (by omega)]
/-- the word and the six numbers, as the reference reads them -/
def ccHw (K : mMi → mRs → mRz) : mMi → mRs → mRz := fun m r => bI (F186 8 m r) (fun v m r => mifO (decide (v ≠ (N 0))) (bV (F187 (N 0) (N 1) m r) (fun m r => bV (F189 m r) (fun m r => ccHdm K 6 0 m r))) (bV (F187 (N 1) (N 1) m r) (fun m r => bV (F189 m r) (fun m r => ccHdm K 6 0 m r))))
theorem ccE180w {x1 : Int32} {m : mMi} {rs : mRs} : F180 x1 m rs = bV (F181 (mset (mset (mset (mset m 4 0 0 20 x1) 4 0 0 21 (N 0)) 4 0 0 25 (N 0)) 4 0 0 26 (I (-1))) rs) (fun m r => bV (F182 m r) (fun m r => ccHw (fun m r => F180_117 FU x1 m r) m r)) := rfl
theorem ccHead {b : Nat → Nat} {L e : Nat} {mc mm : mMi} {p s r kd : Nat} (c : ccCx mc b L e p) (m : ccMx mm b L e s r kd) (t : ccTok b L p s r kd) (lim : ccLim mc) :
    (∃ mc₁ mm₁ p' s' r' kd', (∀ rs, F68 mc rs = rI (N 1) mc₁ rs) ∧ (∀ K rs, ccHw K mm rs = K mm₁ rs) ∧ ccCx mc₁ b L e p' ∧ ccMx mm₁ b L e s' r' kd' ∧ ccTok b L p' s' r' kd' ∧ (∀ u, u < 6 → ccTie mc₁ mm₁ u) ∧ ccFcH mc mc₁ ∧ ccFmH mm mm₁ ∧ 1 ≤ p') ∨
    (∃ mc₁ mm₁, (∀ rs, F68 mc rs = rI (N 0) mc₁ rs) ∧ (∀ K rs, ccHw K mm rs = K mm₁ rs) ∧ ccErd mc₁ mm₁ ∧ ccFcH mc mc₁ ∧ ccFmH mm mm₁) := by
  obtain ⟨w₁, w₂, w₃, w₄, w₅, w₆, w₇⟩ := ccTok_b t
  have q₀ := m.2.1.1
  have q₁ := m.1
  have c₈ := m.2.2.2.2.2.2.2.1
  have c₅ := m.2.2.2.2.1
  obtain ⟨m₁, a₁, a₂, a₃, a₄⟩ := ccE94x c t
  obtain ⟨f, hf⟩ := ccFU (k := 6) (by omega)
  have w8 : ∀ rs, F186 8 mm rs = rI (ccT (ccWrd b s r kd 1)) mm rs := fun rs => ccE186 (k := 1) (by omega) m t
  have w9 : ∀ rs, F97 1 m₁ rs = rI (ccT (ccWrd b s r kd 1)) m₁ rs := fun rs => ccE97 (k := 1) (by omega) a₃ a₂ t
  cases g : ccWrd b s r kd 1
  · obtain ⟨mm₁, b₁, b₂⟩ := ccHdm_e 6 0 (ccEm mm 1 s) (by omega) (ccErd_e (ccErd_mk (mc := m₁) (k := 1) (s := s) (by omega) (by omega) (by omega)))
    have er := ccErd_mk (mc := m₁) (mm := mm) (k := 1) (s := s) (by omega) (by omega) (by omega)
    have fe := ccEm_fr (m := mm) (k := 1) (s := s)
    have fc := ccEc_fr (m := m₁) (k := 1) (s := s)
    refine Or.inr ⟨ccEc m₁ 1 s, mm₁, fun rs => ?_, fun K rs => ?_, ?_, fun f a j q y₁ y₂ _ => ?_, fun f a j q y₁ => ?_⟩
    · unfold F68
      rw [a₁, ccBv, w9, g, ccBi, ccT_f, ccIf0, ccE69 a₂.2.1]
      rfl
    · unfold ccHw
      rw [w8, g, ccBi, ccT_f, ccIf0, ccE187 c₈ c₅, ccBv, ccE189e (ccErd_e er), ccBv, b₁]
    · obtain ⟨k, z, z₁, z₂, z₃, z₄, z₅, z₆, z₇⟩ := er
      exact ⟨k, z, z₁, z₂, z₃, z₄, z₅, by rw [b₂ 4 0 0 25 (by omega)]; exact z₆, by rw [b₂ 4 0 0 26 (by omega)]; exact z₇⟩
    · rw [fc f a j q y₁ y₂, a₄ f a j q y₁ y₂]
    · rw [b₂ f a j q (by omega), fe f a j q (by omega)]
  · obtain ⟨mm₁, s', r', kd', b₁, b₂, b₃, b₄⟩ := ccE189x m w₃
    have kd1 : kd = 1 := by
      unfold ccWrd at g
      rw [Bool.and_eq_true] at g
      exact of_decide_eq_true g.1
    have sr := w₅ (by omega)
    have lim₂ : ccLim m₁ := fun u y₁ => by
      rw [a₄ 3 1 0 u (by omega) (by omega), a₄ 3 2 0 u (by omega) (by omega)]
      exact lim u y₁
    have k₁ : ∀ rs, F68 mc rs = F68_27 (f + 6 + 1) (N 0) m₁ rs := fun rs => by
      unfold F68
      rw [a₁, ccBv, w9, g, ccBi, ccT_t, ccIf1, hf]
    have k₂ : ∀ K rs, ccHw K mm rs = ccHdm K 6 0 mm₁ rs := fun K rs => by
      unfold ccHw
      rw [w8, g, ccBi, ccT_t, ccIf1, ccE187z, ccBv, b₁, ccBv]
    rcases ccHd 6 0 m₁ mm₁ r s' r' kd' (by omega) a₃ b₃ b₂ lim₂ (fun u y₁ => by omega) with ⟨mc₂, mm₂, p', s₂, r₂, kd₂, d₁, d₂, d₃, d₄, d₅, d₆, d₇, d₈, d₉⟩ | ⟨mc₂, mm₂, d₁, d₂, d₃, d₄, d₅⟩
    · refine Or.inl ⟨mc₂, mm₂, p', s₂, r₂, kd₂, fun rs => by rw [k₁, d₁], fun K rs => by rw [k₂, d₂], d₃, d₄, d₅, d₆, fun f a j q y₁ y₂ y₃ => ?_, fun f a j q y₁ => ?_, by omega⟩
      · rw [d₇ f a j q y₁ y₂ y₃, a₄ f a j q y₁ y₂]
      · rw [d₈ f a j q y₁, b₄ f a j q (by omega)]
    · refine Or.inr ⟨mc₂, mm₂, fun rs => by rw [k₁, d₁], fun K rs => by rw [k₂, d₂], d₃, fun f a j q y₁ y₂ y₃ => ?_, fun f a j q y₁ => ?_⟩
      · rw [d₄ f a j q y₁ y₂ y₃, a₄ f a j q y₁ y₂]
      · rw [d₅ f a j q y₁, b₄ f a j q (by omega)]
