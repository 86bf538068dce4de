/-! THE ARMS of an act: a card pulled out, smoothed. -/
theorem kwArm21 {m : mMi} {r : mRs} {L B w l n lm dp cl bd T Z D a z b : Nat} {β : Nat → Int32} {W : Nat → Nat} {v x y u : Int32} (q : kwI m r B w l n lm dp cl bd β W T Z D) (h₃ : a < n) (h₄ : m 0 0 11 a = N z) (h₅ : m 1 0 3 a = N b) (h₆ : z < 1000) (h₇ : b < 1000) (h₈ : ¬ (ccHeld (m 0 0) a = true ∧ z < b)) : kwWell m r B w l n lm dp cl bd β W T Z D (H241_1362 L B v x y u (N a) m r) := by
  have hB := q.2.2.2.2
  obtain ⟨M, R, k₁, k₂, k₃⟩ := kwK21 (B := B) (m := m) (r := r) (E := 3) (x₁ := N a) q.2.2.2.1 hB (by omega) (fun M R y => by
    obtain ⟨y₁, y₂, y₃⟩ := kwI_M q y
    rw [kwE166 y₁ y₂ h₃ (by rw [y₃]; exact h₄) (by rw [y 1 0 3 a (by omega)]; exact h₅) h₆ h₇, y₃, if_neg h₈])
  have q₁ := kwI_9 q k₂ k₁
  refine ⟨M, R, ?_, q₁, kwRs_le k₁ (by omega) (by omega), kwFy_9 k₂⟩
  unfold H241_1362
  rw [hB, ccMckT, k₃, q₁.2.2.2.2, ccMckT, kwEnd3]
/-- the numbers of a card, on both sides -/
theorem kwCard {m : mMi} {r : mRs} {B w l n lm dp cl bd T Z D a : Nat} {β : Nat → Int32} {W : Nat → Nat} (q : kwI m r B w l n lm dp cl bd β W T Z D) (h₃ : a < n) : ∃ z y, m 0 0 11 a = N z ∧ m 6 B 2 a = N z ∧ m 6 B 8 a = N y ∧ β a = N (z + y) ∧ m 1 0 3 a = N (z + y) ∧ 1 ≤ z ∧ z + y ≤ 9 := by
  obtain ⟨hh, t, j₀, c₀⟩ := q.1
  obtain ⟨z₀, z, y, e₁, e₂, e₃, e₄, e₅⟩ := (j₀.2.2.1.2.2.2.2 rfl).2.2.2.1 a h₃
  have e₆ := (j₀.2.2.1.2.1 a h₃).1
  exact ⟨z, y, e₁, by rw [e₆]; exact e₁, e₂, e₃, by rw [c₀.2.1 a h₃]; exact e₃, e₄, e₅⟩
/-- the smoothing arm behind its draws -/
theorem kwSm_well {m : mMi} {r : mRs} {L B w l n lm dp cl bd T Z D a : Nat} {β : Nat → Int32} {W : Nat → Nat} {v x y u : Int32} (q : kwI m r B w l n lm dp cl bd β W T Z D) (bT : T ≤ 800000000) (h₃ : a < n) : kwWell m r B w l n lm dp cl bd β W (T + 192) Z D (mckO (mIn (N a) 40) (mifO (decide ((m 6 B 4 (mix (N a))) ≠ (N 0))) (H241_1362 L B v x y u (N a) m r) (mckO (mIn (N a) 40) (mifO (decide ((m 6 B 8 (mix (N a))) ≠ (N 0))) (mckO (mIn (N a) 40) (mckO (mIn (N a) 40) (mckO (mIn (N a) 40) (mckO (mIn (N a) 40) (bI (F166 (N a) (mset (mset m 6 B 8 (mix (N a)) ((m 6 B 8 (mix (N a))) - (N 1))) 6 B 2 (mix (N a)) (((mset m 6 B 8 (mix (N a)) ((m 6 B 8 (mix (N a))) - (N 1))) 6 B 2 (mix (N a))) + (N 1))) r) (fun v40 m40 r40 => mckO (r40.2.1.1 B) (mckO (mIn (N a) 40) (mifO (decide (v40 ≠ (m40 6 B 2 (mix (N a))))) (mckO (mZ (N 0) || false) (some (.inl (some (mI (N 0))), m40, r40))) (mckO (mZ (N 1) || false) (some (.inl (some (mI (N 1))), m40, r40))))))))))) (H241_1362 L B v x y u (N a) m r))))) := by
  have hB := q.2.2.2.2
  obtain ⟨h₀, ru⟩ := kwI_0 q
  obtain ⟨s, g, k, cd, _⟩ := kwI_U q
  have b₃ : n ≤ 40 := ru.2.2.2.2.2.2.2
  have k₀ : a < 40 := by omega
  obtain ⟨z, y, z₁, z₂, z₃, z₄, z₅, z₆, z₇⟩ := kwCard q h₃
  rw [ccMckIn k₀ (by omega), mix_N (by omega), ccIte]
  rcases kwHd k h₃ with ⟨g₁, g₂, g₃⟩ | ⟨g₁, g₂, g₃⟩
  · rw [if_neg (by intro w; exact w g₁), ccMckIn k₀ (by omega), z₃, ccIte]
    cases y with
    | zero =>
      rw [if_neg (by intro w; exact w rfl)]
      exact kwWell_T (kwArm21 q h₃ z₁ z₅ (by omega) (by omega) (fun w => by omega)) (by omega)
    | succ y =>
      have y₀ : N (y + 1) ≠ N 0 := by rw [ne_eq, N_eq (by omega) (by omega)]; omega
      have y₁ : N (y + 1) - N 1 = N y := by rw [N_sub (by omega), Nat.add_sub_cancel]
      have y₂ : (mset m 6 B 8 a (N y)) 6 B 2 a = N z := by rw [ccRd, if_neg (by omega)]; exact z₂
      obtain ⟨m₁, m₂, v₁, ⟨x₁, x₂⟩, k₂, k₃, k₄, k₅, k₆, k₇, _⟩ := kwStepW q.1 (fun mw v m₂ u m₃ p₁ p₂ => ⟨by rw [p₁.2, p₂.2], by rw [p₁.1, p₂.1]⟩) (kwHop166 (a := a) (z := z) (y := y) q.1 q.2.1 bT h₃ g₃ z₁ z₄ z₆ z₇)
      obtain ⟨o₀, o₁, o₂⟩ := kwFr_k k₆ h₀ ru
      have o₃ : m₁ 1 0 3 a = N (z + (y + 1)) := by rw [k₆ 1 0 3 a (by omega) (by omega)]; exact z₅
      have e₃ : F166 (N a) m₁ r = rI v₁ m₂ r := by
        rw [kwE166 o₁ o₂ h₃ (by rw [o₀]; exact z₁) o₃ (by omega) (by omega), o₀, if_pos ⟨g₂, by omega⟩]
        exact k₂ r
      have o₄ : m₂ 6 B 2 a = v₁ := by
        rw [k₇ 6 2 a (Or.inl rfl), x₁, x₂]
        unfold kwMs
        rw [ccRd, if_pos ⟨rfl, rfl, rfl, rfl⟩]
      have x₁' : mset (mset m 6 B 8 a (N y)) 6 B 2 a (N (z + 1)) = m₁ := by rw [x₁]; rfl
      refine ⟨m₂, r, ?_, kwI_s q k₃ k₄ k₅, kwRs_le kwRs_rfl (by omega) (by omega), kwFy_x k₅⟩
      rw [if_pos y₀, ccMckIn k₀ (by omega), ccMckIn k₀ (by omega), ccMckIn k₀ (by omega), ccMckIn k₀ (by omega), y₁, y₂, N_add, x₁', e₃, ccBi, hB, ccMckT, ccMckIn k₀ (by omega), o₄, kwEndV]
  · rw [if_pos g₁]
    exact kwWell_T (kwArm21 q h₃ z₁ z₅ (by omega) (by omega) (fun w => by
      rw [g₂] at w
      exact absurd w.1 (by decide))) (by omega)
theorem kwWhere {n B k : Nat} {m : mMi} {C : Nat → Nat → Int32} (q : kwK ccX0 n m B C) (h₁ : k < n) : (m 6 B 4 k = N 0 ∧ C 13 k = I (-1)) ∨ (m 6 B 4 k = N 1 ∧ C 13 k = I (-2)) ∨ (N 2 ≤ m 6 B 4 k ∧ ¬ m 6 B 4 k = N 1 ∧ ccLaid C k) := by
  rcases (q k h₁).2 with h | h | h | ⟨L, c, g₁, g₂, e₂, _, _, e₁⟩
  · cases h
  · exact Or.inl h
  · exact Or.inr (Or.inl h)
  · refine Or.inr (Or.inr ⟨?_, ?_, 12 * L + c, by omega, e₂⟩)
    · rcases e₁ with ⟨e₁, _⟩ | ⟨e₁, _⟩
      · rw [e₁]; decide
      · rw [e₁]; decide
    · rcases e₁ with ⟨e₁, _⟩ | ⟨e₁, _⟩
      · rw [e₁]; decide
      · rw [e₁]; decide
theorem kwLaid_n {C : Nat → Nat → Int32} {k : Nat} (h : ccLaid C k) : ¬ C 13 k < N 0 := by
  obtain ⟨p, p₁, p₂⟩ := h
  rw [p₂, N_lt (by omega) (by omega)]
  omega
/-- the pulling arm behind its draws -/
theorem kwPu_well {m : mMi} {r : mRs} {B w l n lm dp cl bd T Z D a : Nat} {β : Nat → Int32} {W : Nat → Nat} (q : kwI m r B w l n lm dp cl bd β W T Z D) (h₃ : a < n) : kwWell m r B w l n lm dp cl bd β W (T + 192) Z D (mckO (mIn (N a) 40) (mifO (decide ((N 2) ≤ (m 6 B 4 (mix (N a))))) (bI (F159 (N a) m r) (fun v32 m32 r32 => mckO (r32.2.1.1 B) (bI (H197 B (N a) m32 r32) (fun v34 m34 r34 => mckO (r34.2.1.1 B) (mifO (decide (v32 ≠ v34)) (mckO (mZ (N 0) || false) (some (.inl (some (mI (N 0))), m34, r34))) (mckO (mZ (N 1) || false) (some (.inl (some (mI (N 1))), m34, r34)))))))) (bN 20 (N 1) m r (fun n36 m36 r36 => mckO (r36.2.1.1 B) (mckO (mIsArr (r36.2.1.2.1 n36) 20 (N 0)) (bI (H238 n36 (N 14) (mset m36 9 n36 0 0 (N a)) r36) (fun v38 m38 r38 => mckO (r38.2.1.1 B) (mifO (decide (v38 ≠ (N 3))) (mckO (mZ (N 0) || false) (some (.inl (some (mI (N 0))), m38, r38))) (mckO (mZ (N 1) || false) (some (.inl (some (mI (N 1))), m38, r38))))))))))) := by
  have hB := q.2.2.2.2
  obtain ⟨h₀, ru⟩ := kwI_0 q
  obtain ⟨s, g, k, cd, _⟩ := kwI_U q
  have b₃ : n ≤ 40 := ru.2.2.2.2.2.2.2
  have k₀ : a < 40 := by omega
  rw [ccMckIn k₀ (by omega), mix_N (by omega), ccIte]
  have no : m 0 0 13 a < N 0 → kwWell m r B w l n lm dp cl bd β W (T + 192) Z D (bN 20 (N 1) m r (fun n36 m36 r36 => mckO (r36.2.1.1 B) (mckO (mIsArr (r36.2.1.2.1 n36) 20 (N 0)) (bI (H238 n36 (N 14) (mset m36 9 n36 0 0 (N a)) r36) (fun v38 m38 r38 => mckO (r38.2.1.1 B) (mifO (decide (v38 ≠ (N 3))) (mckO (mZ (N 0) || false) (some (.inl (some (mI (N 0))), m38, r38))) (mckO (mZ (N 1) || false) (some (.inl (some (mI (N 1))), m38, r38))))))))) := fun y₁ => by
    obtain ⟨M, R, k₁, k₂, k₃⟩ := kwK14 (B := B) (m := m) (r := r) (E := 3) (x₁ := N a) q.2.2.2.1 hB (by omega) (fun M R y => by
      obtain ⟨z₁, z₂, z₃⟩ := kwI_M q y
      rw [kwE159 z₁ z₂ h₃, z₃, if_neg (by intro w; exact w y₁)])
    have q₁ := kwI_9 q k₂ k₁
    refine ⟨M, R, ?_, kwI_T q₁ (by omega), kwRs_le k₁ (by omega) (by omega), kwFy_9 k₂⟩
    rw [k₃, q₁.2.2.2.2, ccMckT, kwEnd3]
  rcases kwWhere k h₃ with ⟨g₁, g₂⟩ | ⟨g₁, g₂⟩ | ⟨g₁, _, g₂⟩
  · rw [g₁, if_neg (by decide)]
    exact no (by rw [g₂]; decide)
  · rw [g₁, if_neg (by decide)]
    exact no (by rw [g₂]; decide)
  · obtain ⟨m₂, m₃, v₁, k₁, k₂, k₃, k₄, k₅, _, _⟩ := kwStepC q.1 (kwHop159 (k := a) q.1 q.2.1 h₃ g₂)
    have e₁ : F159 (N a) m r = rI v₁ m₂ r := by
      rw [kwE159 h₀ ru h₃, if_pos (kwLaid_n g₂)]
      exact k₁ r
    refine ⟨m₃, r, ?_, kwI_s q k₃ k₄ k₅, kwRs_le kwRs_rfl (by omega) (by omega), kwFy_x k₅⟩
    rw [if_pos g₁, e₁, ccBi, hB, ccMckT, k₂ r hB, ccBi, hB, ccMckT, kwEndV]
