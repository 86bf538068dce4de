/-! picked up: the ties -/
theorem kwU_pick {m M₁ : mMi} {B n t a h : Nat} {β : Nat → Int32} {C D : Nat → Nat → Int32} (u : kwU n t β true m B C) (h₃ : a < n) (b₃ : n ≤ 40) (hh : C 10 5 = N h) (bh : h ≤ 40)
    (k₁ : ∀ f a j q, ¬ (f = 6 ∧ a = B ∧ j = 9) → M₁ f a j q = m f a j q) (k₂ : ∀ v, v < h → ccNo a (C 14) v = true → M₁ 6 B 9 (ccCnt (ccNo a (C 14)) v) = C 14 v)
    (a₃ : ∀ q, D 13 q = if q = a then I (-1) else C 13 q) (a₄ : D 10 5 = N (ccCnt (ccNo a (C 14)) h)) (a₅ : ∀ j q, j ≠ 13 → j ≠ 14 → ¬ (j = 10 ∧ q = 5) → D j q = C j q) (a₆ : ∀ v, v < h → ccNo a (C 14) v = true → D 14 (ccCnt (ccNo a (C 14)) v) = C 14 v) : kwU n t β true (mset (mset M₁ 6 B 0 18 (N (ccCnt (ccNo a (C 14)) h))) 6 B 4 a (N 0)) B D := by
  obtain ⟨u₁, u₂, ⟨u₃, x, y, u₄, u₅, u₆⟩, u₇, u₈⟩ := u
  obtain ⟨mx, hmx⟩ : ∃ M, M = mset (mset M₁ 6 B 0 18 (N (ccCnt (ccNo a (C 14)) h))) 6 B 4 a (N 0) := ⟨_, rfl⟩
  have cl := ccCnt_le (f := ccNo a (C 14)) h
  have om : ∀ f j q, ¬ (f = 6 ∧ (j = 9 ∨ (j = 0 ∧ q = 18) ∨ (j = 4 ∧ q = a))) → mx f B j q = m f B j q := fun f j q g => by
    rw [hmx, ccRd, if_neg (by omega), ccRd, if_neg (by omega)]
    exact k₁ f B j q (by omega)
  have m₄ : mx 6 B 4 a = N 0 := by rw [hmx, ccRd, if_pos ⟨rfl, rfl, rfl, rfl⟩]
  have m₁₈ : mx 6 B 0 18 = N (ccCnt (ccNo a (C 14)) h) := by rw [hmx, ccRd, if_neg (by omega), ccRd, if_pos ⟨rfl, rfl, rfl, rfl⟩]
  have m₉ : ∀ q, mx 6 B 9 q = M₁ 6 B 9 q := fun q => by rw [hmx, ccRd, if_neg (by omega), ccRd, if_neg (by omega)]
  rw [← hmx]
  refine ⟨fun L₁ c₁ g₁ g₂ => ?_, fun k g₁ => ?_, ⟨?_, _, _, m₁₈, a₄, Nat.le_refl _, by omega⟩, ?_, fun _ => ?_⟩
  · rw [om 20 _ _ (by omega), om 24 _ _ (by omega), om 21 _ _ (by omega), om 22 _ _ (by omega), om 23 _ _ (by omega), a₅ 2 _ (by omega) (by omega) (by omega), a₅ 6 _ (by omega) (by omega) (by omega), a₅ 3 _ (by omega) (by omega) (by omega), a₅ 4 _ (by omega) (by omega) (by omega), a₅ 5 _ (by omega) (by omega) (by omega)]
    exact u₁ L₁ c₁ g₁ g₂
  · obtain ⟨e₁, e₂⟩ := u₂ k g₁
    refine ⟨by rw [om 6 2 k (by omega), a₅ 11 k (by omega) (by omega) (by omega)]; exact e₁, Or.inr ?_⟩
    by_cases y₁ : k = a
    · subst y₁
      exact Or.inl ⟨m₄, by rw [a₃, if_pos rfl]⟩
    · rcases e₂ with e₂ | e₂
      · cases e₂
      · have z₄ : mx 6 B 4 k = m 6 B 4 k := om 6 4 k (by omega)
        have z₅ : mx 6 B 5 k = m 6 B 5 k := om 6 5 k (by omega)
        have z₆ : mx 6 B 6 k = m 6 B 6 k := om 6 6 k (by omega)
        have c₂ : ∀ p, D 2 p = C 2 p := fun p => a₅ 2 p (by omega) (by omega) (by omega)
        have c₃ : ∀ p, D 3 p = C 3 p := fun p => a₅ 3 p (by omega) (by omega) (by omega)
        have c₆ : ∀ p, D 6 p = C 6 p := fun p => a₅ 6 p (by omega) (by omega) (by omega)
        have c₇ : D 13 k = C 13 k := by rw [a₃, if_neg y₁]
        unfold kwL at e₂ ⊢
        simp only [z₄, z₅, z₆, c₂, c₃, c₆, c₇]
        exact e₂
  · rw [om 6 0 20 (by omega), a₅ 7 2 (by omega) (by omega) (by omega)]
    exact u₃
  · rw [a₅ 7 2 (by omega) (by omega) (by omega)]
    exact u₇
  · obtain ⟨x₁, x₂, ⟨x₃, x₄⟩, x₅, x₆, x₇⟩ := u₈ rfl
    refine ⟨fun u e g₁ g₂ g₃ => ?_, fun u g₁ => ?_, ⟨by rw [m₁₈, a₄], fun h₁ g₁ g₂ u g₃ => ?_⟩, fun k g₁ => ?_, ?_, ?_⟩
    · rw [om 25 u e (by omega), a₅ 8 _ (by omega) (by omega) (by omega)]
      exact x₁ u e g₁ g₂ g₃
    · rw [om 6 16 u (by omega), a₅ 9 _ (by omega) (by omega) (by omega)]
      exact x₂ u g₁
    · rw [a₄] at g₁
      have e₀ : ccCnt (ccNo a (C 14)) h = h₁ := ccNinj g₁ (by omega) (by omega)
      obtain ⟨v, v₁, v₂, v₃⟩ := ccPos_sur (f := ccNo a (C 14)) h u (by omega)
      rw [m₉, ← v₃, k₂ v v₁ v₂, a₆ v v₁ v₂]
    · rw [om 6 7 k (by omega), om 6 8 k (by omega), a₅ 12 _ (by omega) (by omega) (by omega), a₅ 11 _ (by omega) (by omega) (by omega)]
      exact x₅ k g₁
    · rw [om 6 0 19 (by omega), a₅ 0 5 (by omega) (by omega) (by omega)]
      exact x₆
    · rw [om 6 0 21 (by omega), a₅ 0 6 (by omega) (by omega) (by omega)]
      exact x₇
/-- the picking arm behind its draw -/
theorem kwPi_well {m : mMi} {r : mRs} {L B w l n lm dp cl bd T Z D a : Nat} {β : Nat → Int32} {W : Nat → Nat} {v x y u : Int32} (q : kwI m r B w l n lm dp cl bd β W T Z D) (bT : T ≤ 800000000) (h₃ : a < n) : kwWell m r B w l n lm dp cl bd β W (T + 192) Z D (mckO (mIn (N a) 40) (mifO (decide ((m 6 B 4 (mix (N a))) = (N 1))) (H241_1258 L B FU v x y u (N a) (N 0) (N 0) m r) (bN 20 (N 1) m r (fun n42 m42 r42 => mckO (r42.2.1.1 B) (mckO (mIsArr (r42.2.1.2.1 n42) 20 (N 0)) (bI (H238 n42 (N 17) (mset m42 9 n42 0 0 (N a)) r42) (fun v44 m44 r44 => mckO (r44.2.1.1 B) (mifO (decide (v44 ≠ (N 3))) (mckO (mZ (N 0) || false) (some (.inl (some (mI (N 0))), m44, r44))) (mckO (mZ (N 1) || false) (some (.inl (some (mI (N 1))), m44, r44))))))))))) := by
  have hB := q.2.2.2.2
  obtain ⟨h₀, ru⟩ := kwI_0 q
  obtain ⟨s, g, k, cd, _⟩ := kwI_U q
  have b₃ : n ≤ 40 := ru.2.2.2.2.2.2.2
  have k₀ : a < 40 := by omega
  rw [ccMckIn k₀ (by omega), mix_N (by omega), ccIte]
  have no : ¬ m 0 0 13 a = I (-2) → kwWell m r B w l n lm dp cl bd β W (T + 192) Z D (bN 20 (N 1) m r (fun n42 m42 r42 => mckO (r42.2.1.1 B) (mckO (mIsArr (r42.2.1.2.1 n42) 20 (N 0)) (bI (H238 n42 (N 17) (mset m42 9 n42 0 0 (N a)) r42) (fun v44 m44 r44 => mckO (r44.2.1.1 B) (mifO (decide (v44 ≠ (N 3))) (mckO (mZ (N 0) || false) (some (.inl (some (mI (N 0))), m44, r44))) (mckO (mZ (N 1) || false) (some (.inl (some (mI (N 1))), m44, r44))))))))) := fun y₁ => by
    obtain ⟨M, R, k₁, k₂, k₃⟩ := kwK17 (B := B) (m := m) (r := r) (E := 3) (x₁ := N a) q.2.2.2.1 hB (by omega) (fun M R y => by
      obtain ⟨z₁, z₂, z₃⟩ := kwI_M q y
      rw [kwE162 z₁ z₂ h₃, z₃, if_neg y₁])
    have q₁ := kwI_9 q k₂ k₁
    refine ⟨M, R, ?_, kwI_T q₁ (by omega), kwRs_le k₁ (by omega) (by omega), kwFy_9 k₂⟩
    rw [k₃, q₁.2.2.2.2, ccMckT, kwEnd3]
  rcases kwWhere k h₃ with ⟨g₁, g₂⟩ | ⟨g₁, g₂⟩ | ⟨g₀, g₁, g₂⟩
  · rw [g₁, if_neg (by decide)]
    exact no (by rw [g₂]; decide)
  · rw [if_pos g₁]
    obtain ⟨hh, t, j₀, c₀⟩ := q.1
    obtain ⟨mm, jj⟩ := j₀.1
    have uu := j₀.2.2.1
    have r₀ := jj.1.2.2.2.2.2.1
    have hn := ccR_h r₀
    have h2 := ccR_hh r₀
    have xx := uu.2.2.2.2 rfl
    have e₁₈ : m 6 B 0 18 = N hh := by rw [xx.2.2.1.1]; exact h2.1
    have e₉ : ∀ p, p < hh → m 6 B 9 p = m 0 0 14 p := fun p g => xx.2.2.1.2 hh h2.1 (by omega) p g
    obtain ⟨M₁, f₁, f₂, f₃⟩ := kwL1258 (L := L) (x3 := v) (x4 := x) (x5 := y) (x6 := u) (a := a) (H := m 0 0 14) e₁₈ (by omega) k₀ hh 0 m (by omega) (fun _ _ _ _ _ => rfl) (fun w y₁ _ => by omega) (fun p _ y₁ => e₉ p y₁)
    have cl := ccCnt_le (f := ccNo a (m 0 0 14)) hh
    obtain ⟨m₁, hm₁⟩ : ∃ M, M = mset (mset M₁ 6 B 0 18 (N (ccCnt (ccNo a (m 0 0 14)) hh))) 6 B 4 a (N 0) := ⟨_, rfl⟩
    have fr : kwFr B m m₁ := fun f a₁ j p y₁ y₂ => by
      rw [hm₁, ccRd, if_neg (by omega), ccRd, if_neg (by omega)]
      exact f₁ f a₁ j p (by omega)
    have sw : kwSt B m m₁ := fun j p y₁ => by
      rw [hm₁, ccRd, if_neg (by omega), ccRd, if_neg (by omega)]
      exact f₁ 6 B j p (by omega)
    obtain ⟨m₂, k₂, k₃, k₄, k₅, k₆⟩ := kwStepX (T₁ := T + 192) (Z := Z) (oc := fun m r => bV (F9 0 (N a) m r) (fun m r => rI (m 0 0 10 5) m r)) (v := N (ccCnt (ccNo a (m 0 0 14)) hh)) q.1 fr (fun mc p₁ p₂ => by
      have j₃ := ccJ_cg jj p₁ p₂
      have r₃ := j₃.1.2.2.2.2.2.1
      have h3 := ccR_hh r₃
      have rd := r₃.2.2.2.1.2.2.2.1
      obtain ⟨mC, a₁, a₂, a₃, a₄, a₅, a₆⟩ := ccL9 (i := 0) (a := a) (C := mc 0 0) (m₀ := mc) h3.1 (by omega) k₀ hh 0 mc (by omega) ccFr_rfl (fun _ _ _ => rfl) (fun v y₁ _ => by omega) (fun _ _ => rfl)
      obtain ⟨mg, c₁, c₂, c₃, c₄, c₅, c₆⟩ := ccL297 (a := a) (H := mc 0 0 14) (s := mm 4 0 3) (m₀ := mm) h3.2 (by omega) k₀ hh 0 mm (by omega) ccFq_rfl (fun _ _ => rfl) (fun v y₁ _ => by omega) (fun q _ y₁ => rd q y₁)
      have r₁ := ccR_pick (a := a) (D := mC 0 0) (u := mg 4 0 3) r₃ b₃ h₃ (by rw [p₁]; exact g₂) a₃ a₄ a₅ a₆ c₃ c₄ c₅ c₆
      have co : ∀ j q, j ≠ 13 → j ≠ 14 → j ≠ 10 → mC 0 0 j q = mc 0 0 j q := fun j q y₁ y₂ y₃ => a₅ j q y₁ y₂ (by omega)
      have bt : t ≤ 900000000 := by
        have y₁ := c₀.2.2.2.2.2.1
        omega
      have d₁ : ccJ mC mg 0 w l n bd β (fun k => N (W k)) W (ccCnt (ccNo a (mc 0 0 14)) hh) t := by
        refine ccJ_new (h' := ccCnt (ccNo a (mc 0 0 14)) hh) j₃ a₂ c₂ r₁ (fun p y₁ => ?_) (fun p y₁ y₂ => ?_) bt
        · rw [co 2 p (by omega) (by omega) (by omega), co 6 p (by omega) (by omega) (by omega)]
          exact j₃.1.2.2.2.2.2.2.1 p y₁
        · have y₃ := j₃.2.1 p y₁ y₂
          unfold ccVf ccVp at y₃ ⊢
          rw [co 2 p (by omega) (by omega) (by omega), co 2 (p - 12) (by omega) (by omega) (by omega), co 2 (p - 11) (by omega) (by omega) (by omega), co 6 p (by omega) (by omega) (by omega)]
          exact y₃
      have qt : ccQt W (mC 0 0) w l := ccQt_congr (fun p => co 2 p (by omega) (by omega) (by omega)) (fun p => co 3 p (by omega) (by omega) (by omega)) (fun p => co 6 p (by omega) (by omega) (by omega)) (fun p => co 4 p (by omega) (by omega) (by omega)) (fun p => co 11 p (by omega) (by omega) (by omega)) (by rw [p₁]; exact c₀.2.2.2.1)
      have nn : ccQn (N lm) (mC 0 0) := ccQn_less (C := mc 0 0) (fun q => Or.inl (co 2 q (by omega) (by omega) (by omega))) (fun q => co 4 q (by omega) (by omega) (by omega)) (fun q => co 5 q (by omega) (by omega) (by omega)) (by rw [p₁]; exact c₀.2.2.2.2.1)
      rw [p₁] at a₃ a₄ a₅ a₆ d₁
      refine ⟨mC, _, t, fun rs => ?_, ⟨⟨mg, d₁⟩, kwS_st sw s, ?_, kwW_st sw j₀.2.2.2⟩, a₂, qt, nn, ?_, kwZ_cg ?_ q.2.1⟩
      · obtain ⟨g, hg⟩ := ccFU (k := hh) (by omega)
        have y₁ := a₁ g rs
        show bV (F9 0 (N a) mc rs) _ = _
        unfold F9
        rw [hg]
        show bV (F9_4 0 (g + hh + 1) (N a) (N (ccCnt (ccNo a (mc 0 0 14)) 0)) (N 0) mc rs) _ = _
        rw [y₁, ccBv, a₄]
      · rw [hm₁]
        exact kwU_pick uu h₃ b₃ h2.1 (by omega) f₁ f₂ a₃ a₄ a₅ a₆
      · have y₁ := c₀.2.2.2.2.2.1
        omega
      · exact a₅ 0 5 (by omega) (by omega) (by omega))
    obtain ⟨o₀, o₁, o₂⟩ := kwFr_k fr h₀ ru
    have e₃ : F162 (N a) m₁ r = rI (N (ccCnt (ccNo a (m 0 0 14)) hh)) m₂ r := by
      rw [kwE162 o₁ o₂ h₃, o₀, if_pos g₂]
      exact k₂ r
    obtain ⟨g, hg⟩ := ccFU (k := hh) (by omega)
    refine ⟨m₂, r, ?_, kwI_s q k₃ k₄ k₅, kwRs_le kwRs_rfl (by omega) (by omega), kwFy_x k₅⟩
    have e₄ := f₃ g r hB
    have e₅ : ccCnt (ccNo a (m 0 0 14)) 0 = 0 := rfl
    rw [e₅, ← hm₁] at e₄
    rw [hg, e₄, e₃, ccBi, hB, ccMckT, kwEndV]
  · rw [if_neg g₁]
    exact no (by
      obtain ⟨p, p₁, p₂⟩ := g₂
      rw [p₂]
      exact fun y => (ccNm2 (by omega)).mp y)
