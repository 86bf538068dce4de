/-! MORE OF IT: taken down, lifted, smoothed; time. -/
theorem kwHdC {n B : Nat} {m : mMi} {C : Nat → Nat → Int32} (q : kwK ccX0 n m B C) : ccCnt (ccHeld C) n = ccCnt (fun k => decide (m 6 B 4 k = N 0)) n := ccCnt_congr n fun k h => by
  rcases kwHd q h with ⟨e₁, e₂, _⟩ | ⟨e₁, e₂, _⟩
  · rw [e₂, decide_eq_true e₁]
  · rw [e₂, decide_eq_false e₁]
def kwCn (n B : Nat) (Om : mMi → mMi → Prop) : mMi → Int32 → mMi → Prop := fun mw v m₂ => Om mw m₂ ∧ v = N (ccCnt (fun k => decide (m₂ 6 B 4 k = N 0)) n)
theorem kwHop160 {m : mMi} {B w l n lm dp cl bd T Z L c a b : Nat} {β : Nat → Int32} {W : Nat → Nat} (q : kwT m B w l n lm dp cl bd β W T) (z : kwZ m Z) (bT : T ≤ 800000000) (h₁ : L < l) (h₂ : L + c < w) (h₃ : a < n) (h₃' : b < n) (h₄ : m 0 0 2 (12 * L + c) = N a) (h₅ : m 0 0 3 (12 * L + c) = N b) (h₆ : ccFree (m 0 0) w l L c = true) : kwHop m B w l n lm dp cl bd β W (T + 192) Z (fun m r => bI (F81 0 (N L) (N c) m r) (fun v m r => bV (F41 0 v m r) (fun m r => bI (F6 0 m r) (fun v m r => rI v m r)))) (kwCn n B (fun mw m₂ => m₂ = kwMd mw B L c a b)) (fun v C => v = N (ccCnt (ccHeld C) n)) := by
  intro mc mw g₁ g₂ g₃
  obtain ⟨h, t, j₀, t₀, qt, qn, e₂, e₃, e₄⟩ := kwHop0 q g₁ g₂ g₃
  have s₀ := j₀.2.1
  have b₁ : w ≤ 12 := s₀.2.2.2.2.2.2.2.2.1
  have b₂ : l ≤ 8 := s₀.2.2.2.2.2.2.2.2.2.2.1
  have b₃ : n ≤ 40 := s₀.2.2.2.2.2.2.2.2.2.2.2.1
  have sp : ccSp w l L c = N (12 * L + c) := if_pos ⟨h₁, h₂⟩
  have c₂ : mc 0 0 2 (12 * L + c) = N a := by rw [g₁]; exact h₄
  have c₃ : mc 0 0 3 (12 * L + c) = N b := by rw [g₁]; exact h₅
  have j₉ := j₀
  obtain ⟨⟨mm, jj⟩, _⟩ := j₀
  have ru := jj.1.1
  obtain ⟨f₁, f₂⟩ := ccFree_t (L := L) (c := c) jj.1.2.2.2.2.2.2.1 b₁ h₂ (by rw [g₁]; exact h₆)
  obtain ⟨h', j₁⟩ := kwJ_down (L := L) (c := c) (a := a) (b := b) j₉ (by omega) h₁ h₂ h₃ h₃' c₂ c₃ f₁ f₂
  obtain ⟨h'', d₁, d₂, d₃⟩ := ccDown1 (p := 12 * L + c) (a := a) (b := b) jj (by omega) (by omega) c₂ c₃ h₃ h₃' f₁ f₂
  obtain ⟨cm, hcm⟩ : ∃ x, x = mset (mset (mset mc 0 0 13 a (I (-1))) 0 0 13 b (I (-1))) 0 0 2 (12 * L + c) (I (-1)) := ⟨_, rfl⟩
  rw [← hcm] at j₁ d₁ d₂ d₃
  have d₅ : ∀ p, p < 96 → cm 0 0 2 p ≠ I (-1) → ccStf (cm 0 0) p = ccStf (mc 0 0) p := fun p y₁ y₂ => by
    have y₃ : cm 0 0 2 p = mc 0 0 2 p := by
      rcases d₃ p with y | y
      · exact y
      · exact absurd y y₂
    unfold ccStf
    rw [y₃, d₂ 3 p (by omega) (by omega), d₂ 11 _ (by omega) (by omega), d₂ 11 _ (by omega) (by omega)]
  have qt' := ccQt_less (D := cm 0 0) jj.1.2.2.2.2.2.1 qn.2 jj.2.2.2.2 b₁ b₂ b₃ d₃ (fun q => Or.inl (d₂ 6 q (by omega) (by omega))) (fun q => d₂ 3 q (by omega) (by omega)) (fun q => d₂ 4 q (by omega) (by omega)) d₅ qt
  have nn := ccQn_less (D := cm 0 0) d₃ (fun q => d₂ 4 q (by omega) (by omega)) (fun q => d₂ 5 q (by omega) (by omega)) qn
  have fr : ccFr 0 mc cm := by rw [hcm]; exact ccFr_set (ccFr_set (ccFr_set ccFr_rfl))
  have ru' : ccRu cm (RO 0) w l n := ccRu_fr fr ru
  have x₀ : cm 0 0 0 5 = mc 0 0 0 5 := d₂ 0 5 (by omega) (by omega)
  refine ⟨cm, kwMd mw B L c a b, N (ccCnt (ccHeld (cm 0 0)) n), h', t, fun rs => ?_, ⟨rfl, by rw [kwHdC j₁.2.2.1.2.1]⟩, j₁, fr, kwMd_fr.1, qt', nn, by omega, kwZ_cg (Eq.trans x₀ (by rw [g₁])) z, rfl⟩
  show bI (F81 0 (N L) (N c) mc rs) _ = _
  rw [ccE81 (r := 0) ru (by omega) (by omega), ccBi, sp, ccE41 (by omega) (by omega) (by omega) c₂ c₃, ccBv, ← hcm, ccE6 (i := 0) ru', ccBi]
theorem kwHop161 {m : mMi} {B w l n lm dp cl bd T Z L c a : Nat} {β : Nat → Int32} {W : Nat → Nat} (q : kwT m B w l n lm dp cl bd β W T) (z : kwZ m Z) (bT : T ≤ 800000000) (h₁ : L < l) (h₂ : L + c < w) (h₃ : a < n) (h₄ : m 0 0 6 (12 * L + c) = N a) (h₅ : m 0 0 2 (12 * L + c) = I (-1)) : kwHop m B w l n lm dp cl bd β W (T + 192) Z (fun m r => bI (F81 0 (N L) (N c) m r) (fun v m r => bV (F39 0 v m r) (fun m r => bI (F6 0 m r) (fun v m r => rI v m r)))) (kwCn n B (fun mw m₂ => m₂ = kwMf mw B L c a)) (fun v C => v = N (ccCnt (ccHeld C) n)) := by
  intro mc mw g₁ g₂ g₃
  obtain ⟨h, t, j₀, t₀, qt, qn, e₂, e₃, e₄⟩ := kwHop0 q g₁ g₂ g₃
  have s₀ := j₀.2.1
  have b₁ : w ≤ 12 := s₀.2.2.2.2.2.2.2.2.1
  have b₂ : l ≤ 8 := s₀.2.2.2.2.2.2.2.2.2.2.1
  have b₃ : n ≤ 40 := s₀.2.2.2.2.2.2.2.2.2.2.2.1
  have sp : ccSp w l L c = N (12 * L + c) := if_pos ⟨h₁, h₂⟩
  have c₂ : mc 0 0 6 (12 * L + c) = N a := by rw [g₁]; exact h₄
  have c₃ : mc 0 0 2 (12 * L + c) = I (-1) := by rw [g₁]; exact h₅
  have j₉ := j₀
  obtain ⟨⟨mm, jj⟩, _⟩ := j₀
  have ru := jj.1.1
  obtain ⟨h', j₁⟩ := kwJ_lift (L := L) (c := c) (a := a) j₉ (by omega) h₁ h₂ h₃ c₂ c₃
  obtain ⟨h'', d₁, d₂, d₃⟩ := ccLift1 (p := 12 * L + c) (a := a) jj (by omega) (by omega) c₂ h₃ c₃
  obtain ⟨cm, hcm⟩ : ∃ x, x = mset (mset mc 0 0 13 a (I (-1))) 0 0 6 (12 * L + c) (I (-1)) := ⟨_, rfl⟩
  rw [← hcm] at j₁ d₁ d₂ d₃
  have d₄ : ∀ q, cm 0 0 2 q = mc 0 0 2 q := fun q => d₂ 2 q (by omega) (by omega)
  have qt' := ccQt_less (D := cm 0 0) jj.1.2.2.2.2.2.1 qn.2 jj.2.2.2.2 b₁ b₂ b₃ (fun q => Or.inl (d₄ q)) d₃ (fun q => d₂ 3 q (by omega) (by omega)) (fun q => d₂ 4 q (by omega) (by omega)) (fun p _ _ => by unfold ccStf; rw [d₄, d₂ 3 p (by omega) (by omega), d₂ 11 _ (by omega) (by omega), d₂ 11 _ (by omega) (by omega)]) qt
  have nn := ccQn_less (D := cm 0 0) (fun q => Or.inl (d₄ q)) (fun q => d₂ 4 q (by omega) (by omega)) (fun q => d₂ 5 q (by omega) (by omega)) qn
  have fr : ccFr 0 mc cm := by rw [hcm]; exact ccFr_set (ccFr_set ccFr_rfl)
  have ru' : ccRu cm (RO 0) w l n := ccRu_fr fr ru
  have x₀ : cm 0 0 0 5 = mc 0 0 0 5 := d₂ 0 5 (by omega) (by omega)
  refine ⟨cm, kwMf mw B L c a, N (ccCnt (ccHeld (cm 0 0)) n), h', t, fun rs => ?_, ⟨rfl, by rw [kwHdC j₁.2.2.1.2.1]⟩, j₁, fr, kwMf_fr.1, qt', nn, by omega, kwZ_cg (Eq.trans x₀ (by rw [g₁])) z, rfl⟩
  show bI (F81 0 (N L) (N c) mc rs) _ = _
  rw [ccE81 (r := 0) ru (by omega) (by omega), ccBi, sp, ccE39 (by omega) (by omega) c₂, ccBv, ← hcm, ccE6 (i := 0) ru', ccBi]
theorem kwHop164 {m : mMi} {B w l n lm dp cl bd T Z a : Nat} {β : Nat → Int32} {W : Nat → Nat} (q : kwT m B w l n lm dp cl bd β W T) (z : kwZ m Z) (h₁ : a ≤ 100) (h₂ : Z + a ≤ 9999) : kwHop m B w l n lm dp cl bd β W (T + 192) (Z + a) (fun m r => bI (F58 0 (N a * m 1 0 1 4) (mset m 0 0 0 5 (m 0 0 0 5 + N a)) r) (fun v m r => rI v m r)) (fun mw v m₂ => ∀ rs : mRs, rs.2.1.1 B = true → H195 B (N a) mw rs = rI v m₂ rs) (fun _ _ => True) := by
  intro mc mw g₁ g₂ g₃
  obtain ⟨h, t, j₀, t₀, qt, qn, e₂, e₃, e₄⟩ := kwHop0 q g₁ g₂ g₃
  have s₀ := j₀.2.1
  have b₄ : lm ≤ 99 := s₀.2.2.2.2.2.2.2.2.2.2.2.2.1
  have b₆ : cl ≤ 20 := s₀.2.2.2.2.2.2.2.2.2.2.2.2.2.2.1
  obtain ⟨z₁, z₂, z₃⟩ := z
  obtain ⟨m₁, m₂, v, k₁, k₂, k₃, k₄, k₅, k₆, oC, w₅, k₉⟩ := kwTick (a := a) (z := z₁) j₀ h₁ (by rw [g₁]; exact z₂) (by omega) e₄
  have bX : a * cl ≤ 2000 := by
    have y₁ := Nat.mul_le_mul h₁ b₆
    omega
  have o₂ : ∀ p, m₁ 0 0 2 p = mc 0 0 2 p := fun p => oC 2 p (by omega) (by omega)
  have qt' : ccQt W (m₁ 0 0) w l := ccQt_congr o₂ (fun p => oC 3 p (by omega) (by omega)) (fun p => oC 6 p (by omega) (by omega)) (fun p => oC 4 p (by omega) (by omega)) (fun p => oC 11 p (by omega) (by omega)) qt
  have vw : ∀ p, p < 96 → mc 0 0 2 p ≠ I (-1) → ∃ y, m₁ 0 0 5 p = N y ∧ y ≤ lm := fun p y₁ y₂ => by
    obtain ⟨y, y₃, y₄⟩ := ccWbl qn b₄ y₁ y₂
    have y₅ : ccP (mc 0 0) p = true := by unfold ccP; rw [decide_eq_false y₂]; rfl
    exact ⟨y - a * cl, by rw [w₅ p y₁, if_pos y₅, y₃, ccDec_n (by omega) (by omega)], by omega⟩
  have nn : ccQn (N lm) (m₁ 0 0) := ⟨fun p y₁ => by
    unfold ccBdw ccP
    rw [o₂]
    by_cases y₂ : mc 0 0 2 p = I (-1)
    · rw [y₂]
      rfl
    · obtain ⟨y, y₃, y₄⟩ := vw p y₁ y₂
      have y₅ : ¬ N lm < N y := by rw [N_lt (by omega) (by omega)]; omega
      rw [y₃, decide_eq_false y₅, Bool.and_false], fun p y₁ y₂ => by
    rw [o₂] at y₂
    obtain ⟨y, y₃, y₄⟩ := vw p y₁ y₂
    rw [oC 4 p (by omega) (by omega)]
    exact ⟨(qn.2 p y₁ y₂).1, y, y₃, by omega⟩⟩
  exact ⟨m₁, m₂, v, h, t, fun rs => by show bI (F58 0 (N a * mc 1 0 1 4) (mset mc 0 0 0 5 (mc 0 0 0 5 + N a)) rs) _ = _; rw [k₁, ccBi], k₂, k₃, k₄, k₅, qt', nn, by omega, ⟨z₁ + a, k₉, by omega⟩, trivial⟩
