/-! THE ARMS of an act: a card is picked up off the heap. -/
theorem kwStepX {m m₁ : mMi} {B w l n lm dp cl bd T T₁ Z : Nat} {β : Nat → Int32} {W : Nat → Nat} {oc : mMi → mRs → mRz} {v : Int32} (q : kwT m B w l n lm dp cl bd β W T) (e₅ : kwFr B m m₁) (hop : ∀ mc : mMi, mc 0 0 = m 0 0 → (∀ j p, mc 1 0 j p = m 1 0 j p) → ∃ mC h t, (∀ rs, oc mc rs = rI v mC rs) ∧ kwJ mC m₁ 0 B w l n lm dp cl bd β (fun k => N (W k)) W true h t ∧ ccFr 0 mc mC ∧ ccQt W (mC 0 0) w l ∧ ccQn (N lm) (mC 0 0) ∧ t ≤ T₁ ∧ kwZ mC Z) : ∃ m₂, (∀ rs, bV (F60 0 m₁ rs) oc = rI v m₂ rs) ∧ kwT m₂ B w l n lm dp cl bd β W T₁ ∧ kwZ m₂ Z ∧ kwFx B m m₂ ∧ kwSame B m₁ m₂ := by
  obtain ⟨h₀, t₀, j₀, c₀⟩ := q
  have p₀ : m₁ 0 0 = m 0 0 := by
    funext j p
    exact e₅ 0 0 j p (by omega) (by omega)
  have p₁ : ∀ j p, m₁ 1 0 j p = m 1 0 j p := fun j p => e₅ 1 0 j p (by omega) (by omega)
  have p₂ : ∀ a j p, m₁ 2 a j p = m 2 a j p := fun a j p => e₅ 2 a j p (by omega) (by omega)
  have c₁ := kwC_cg c₀ p₀ p₁ (p₂ 0 0 10) (p₂ 5 0)
  obtain ⟨mk, k₁, k₂, k₃, k, x, k₄, k₅, k₆, k₇⟩ := kwKeep c₁
  obtain ⟨a₁, a₀, ⟨a₂, a₃, a₄, a₅⟩, _, _, _, _⟩ := c₁
  obtain ⟨mC, h, t, d₁, d₃, d₄, d₆, d₇, d₈, d₉⟩ := hop mk (Eq.trans k₂ p₀) (fun j p => by rw [k₃ 1 0 j p (by omega) (by omega), p₁])
  have s₁ : kwSame B m₁ mC := fun f j p g => by
    rw [d₄ f B j p (by omega) (by omega), k₃ f B j p (by omega) (by omega)]
  have o₁ : ∀ j p, mC 1 0 j p = m₁ 1 0 j p := fun j p => by rw [d₄ 1 0 j p (by omega) (by omega), k₃ 1 0 j p (by omega) (by omega)]
  have o₂ : ∀ a j p, a ≠ 2 → mC 2 a j p = mk 2 a j p := fun a j p g => by rw [d₄ 2 a j p (by omega) (by omega)]
  refine ⟨mC, fun rs => by rw [k₁, ccBv]; exact d₁ rs, ⟨h, t, kwJ_cg d₃ rfl (fun _ _ => rfl) s₁, ?_, fun k y => by rw [o₁]; exact a₀ k y, ⟨by rw [o₁]; exact a₂, by rw [o₁]; exact a₃, by rw [o₁]; exact a₄, by rw [o₁]; exact a₅⟩, d₆, d₇, d₈, k, x, k₄, k₅, by rw [o₂ 5 0 1 (by omega)]; exact k₆, by rw [o₂ 5 0 2 (by omega)]; exact k₇⟩, d₉, kwFx_trans (kwFx_w e₅) (kwFx_trans (fun f a j p g₁ g₂ _ _ => k₃ f a j p g₁ (by omega)) (kwFx_c d₄)), s₁⟩
  rw [o₂ 0 0 10 (by omega), k₃ 2 0 0 10 (by omega) (by omega)]
  exact a₁
theorem kwH1258 {f L B : Nat} {x3 x4 x5 x6 x7 x8 x9 : Int32} {mi : mMi} {rs : mRs} : H241_1258 L B (f + 1) x3 x4 x5 x6 x7 x8 x9 mi rs = mckO (rs.2.1.1 B) (mifO (decide ((mi 6 B 0 18) ≤ x9)) (mckO (mIn x7 40) (bI (F162 x7 (mset (mset mi 6 B 0 18 x8) 6 B 4 (mix x7) (N 0)) rs) (fun v12 m12 r12 => mckO (r12.2.1.1 B) (mifO (decide (v12 ≠ x8)) (mckO (mZ (N 0) || false) (some (.inl (some (mI (N 0))), m12, r12))) (mckO (mZ (N 1) || false) (some (.inl (some (mI (N 1))), m12, r12))))))) (mckO (mIn x9 40) (mifO (decide ((mi 6 B 9 (mix x9)) = x7)) (H241_1258 L B f x3 x4 x5 x6 x7 x8 (x9 + (N 1)) mi rs) (mckO (mIn x9 40) (mckO (mIn x8 40) (H241_1258 L B f x3 x4 x5 x6 x7 (x8 + (N 1)) (x9 + (N 1)) (mset mi 6 B 9 (mix x8) (mi 6 B 9 (mix x9))) rs)))))) := rfl
theorem kwL1258 {m : mMi} {L B a h : Nat} {x3 x4 x5 x6 : Int32} {H : Nat → Int32} (h₁ : m 6 B 0 18 = N h) (h₂ : h ≤ 40) (h₃ : a < 40) : ∀ d p M, p + d = h → (∀ f a j q, ¬ (f = 6 ∧ a = B ∧ j = 9) → M f a j q = m f a j q) → (∀ v, v < p → ccNo a H v = true → M 6 B 9 (ccCnt (ccNo a H) v) = H v) → (∀ q, p ≤ q → q < h → M 6 B 9 q = H q) →
    ∃ M₁, (∀ f a j q, ¬ (f = 6 ∧ a = B ∧ j = 9) → M₁ f a j q = m f a j q) ∧ (∀ v, v < h → ccNo a H v = true → M₁ 6 B 9 (ccCnt (ccNo a H) v) = H v) ∧ ∀ f (rs : mRs), rs.2.1.1 B = true → H241_1258 L B (f + d + 1) x3 x4 x5 x6 (N a) (N (ccCnt (ccNo a H) p)) (N p) M rs = bI (F162 (N a) (mset (mset M₁ 6 B 0 18 (N (ccCnt (ccNo a H) h))) 6 B 4 a (N 0)) rs) (fun v12 m12 r12 => mckO (r12.2.1.1 B) (mifO (decide (v12 ≠ N (ccCnt (ccNo a H) h))) (mckO (mZ (N 0) || false) (some (.inl (some (mI (N 0))), m12, r12))) (mckO (mZ (N 1) || false) (some (.inl (some (mI (N 1))), m12, r12))))) := by
  intro d
  induction d with
  | zero =>
    intro p M g₁ g₂ g₃ g₄
    have e₁ : p = h := by omega
    subst e₁
    have e₂ : M 6 B 0 18 = N p := by rw [g₂ 6 B 0 18 (by omega)]; exact h₁
    have e₃ : N p ≤ N p := by rw [N_le (by omega) (by omega)]; omega
    refine ⟨M, g₂, g₃, fun f rs hB => ?_⟩
    rw [kwH1258, hB, ccMckT, e₂, ccIte, if_pos e₃, ccMckIn h₃ (by omega), mix_N (by omega)]
  | succ d i₁ =>
    intro p M g₁ g₂ g₃ g₄
    have e₂ : M 6 B 0 18 = N h := by rw [g₂ 6 B 0 18 (by omega)]; exact h₁
    have e₃ : ¬ N h ≤ N p := by rw [N_le (by omega) (by omega)]; omega
    have e₄ := g₄ p (by omega) (by omega)
    have cl := ccCnt_le (f := ccNo a H) p
    have e₅ : ccCnt (ccNo a H) (p + 1) = ccCnt (ccNo a H) p + if ccNo a H p = true then 1 else 0 := ccCnt_s
    by_cases g₅ : H p = N a
    · have e₆ : ccNo a H p = false := by unfold ccNo; rw [decide_eq_true g₅]; rfl
      rw [e₆, if_neg (by decide), Nat.add_zero] at e₅
      obtain ⟨M₁, k₁, k₂, k₃⟩ := i₁ (p + 1) M (by omega) g₂ (fun v y₁ y₂ => by
        by_cases y₃ : v = p
        · rw [y₃, e₆] at y₂
          cases y₂
        · exact g₃ v (by omega) y₂) (fun q y₁ y₂ => g₄ q (by omega) y₂)
      refine ⟨M₁, k₁, k₂, fun f rs hB => ?_⟩
      have e₀ : f + (d + 1) + 1 = f + d + 1 + 1 := by omega
      have e₇ := k₃ f rs hB
      rw [e₅] at e₇
      rw [e₀, kwH1258, hB, ccMckT, e₂, ccIte, if_neg e₃, ccMckIn (by omega : p < 40) (by omega), mix_N (by omega), e₄, ccIte, if_pos g₅, N_add]
      exact e₇
    · have e₆ : ccNo a H p = true := by unfold ccNo; rw [decide_eq_false g₅]; rfl
      rw [e₆, if_pos rfl] at e₅
      obtain ⟨M₁, k₁, k₂, k₃⟩ := i₁ (p + 1) (mset M 6 B 9 (ccCnt (ccNo a H) p) (H p)) (by omega) (fun f a j q y₁ => by
        rw [ccRd, if_neg (by omega)]
        exact g₂ f a j q y₁) (fun v y₁ y₂ => by
        by_cases y₃ : v = p
        · rw [y₃, ccRd, if_pos ⟨rfl, rfl, rfl, rfl⟩]
        · have y₄ := ccCnt_mo y₂ p (by omega)
          rw [ccRd, if_neg (by omega)]
          exact g₃ v (by omega) y₂) (fun q y₁ y₂ => by
        rw [ccRd, if_neg (by omega)]
        exact g₄ q (by omega) y₂)
      refine ⟨M₁, k₁, k₂, fun f rs hB => ?_⟩
      have e₀ : f + (d + 1) + 1 = f + d + 1 + 1 := by omega
      have e₇ := k₃ f rs hB
      rw [e₅] at e₇
      rw [e₀, kwH1258, hB, ccMckT, e₂, ccIte, if_neg e₃, ccMckIn (by omega : p < 40) (by omega), mix_N (by omega), e₄, ccIte, if_neg g₅, ccMckIn (by omega : p < 40) (by omega), ccMckIn (by omega : ccCnt (ccNo a H) p < 40) (by omega), mix_N (by omega), N_add, N_add]
      exact e₇
