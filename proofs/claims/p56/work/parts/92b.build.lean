/-! THE WORLD IS MADE: where it builds. -/
theorem kwHe {B n k : Nat} {m : mMi} {C : Nat → Nat → Int32} (h : kwK ccX0 n m B C) (hk : k < n) : (m 6 B 4 k = N 0 ∧ ccHeld C k = true) ∨ (m 6 B 4 k ≠ N 0 ∧ ccHeld C k = false) := by
  unfold ccHeld
  rcases (h k hk).2 with y | y
  · exact absurd y kwXno
  · rcases y with ⟨y₁, y₂⟩ | ⟨y₁, y₂⟩ | ⟨L, c, y₀, y₀', y₂, _, _, y₄⟩
    · exact Or.inl ⟨y₁, decide_eq_true y₂⟩
    · refine Or.inr ⟨by rw [y₁]; decide, decide_eq_false ?_⟩
      rw [y₂, ccM2M]
      exact fun h => h
    · refine Or.inr ⟨?_, decide_eq_false ?_⟩
      · rcases y₄ with ⟨y₅, _⟩ | ⟨y₅, _⟩
        · rw [y₅]; decide
        · rw [y₅]; decide
      · rw [y₂, ccNm (by omega)]
        exact fun h => h
/-- the other card of a pair -/
theorem kwL106 {L B n a : Nat} {m : mMi} {r : mRs} {C : Nat → Nat → Int32} {x2 x3 x4 x5 x6 : Int32} (hB : r.2.1.1 B = true) (h17 : m 6 B 0 17 = N n) (kk : kwK ccX0 n m B C) (bn : n ≤ 40) (ha : a < n) : ∀ d k, k + d = n → (∃ q, k ≤ q ∧ q < n ∧ ccHeld C q = true ∧ q ≠ a) → ∃ b, b < n ∧ b ≠ a ∧ m 6 B 4 b = N 0 ∧ ∀ f, H174_106 L B (f + d + 1) x2 x3 x4 x5 x6 (N a) (I (-1)) (N k) m r = H174_151 L B x2 x3 x4 x5 x6 (N a) (N b) (N (b + 1)) m r := by
  intro d
  induction d with
  | zero =>
    intro k y ⟨q, h₁, h₂, _⟩
    omega
  | succ d i₁ =>
    intro k y ⟨q, h₁, h₂, h₃, h₄⟩
    have e₁ : ¬ N n ≤ N k := by rw [N_le (by omega) (by omega)]; omega
    have e₂ : ¬ N 0 ≤ I (-1) := by decide
    have go : (m 6 B 4 k ≠ N 0 ∨ k = a) → ∃ b, b < n ∧ b ≠ a ∧ m 6 B 4 b = N 0 ∧ ∀ f, H174_106 L B (f + (d + 1) + 1) x2 x3 x4 x5 x6 (N a) (I (-1)) (N k) m r = H174_151 L B x2 x3 x4 x5 x6 (N a) (N b) (N (b + 1)) m r := fun g => by
      have nq : k ≠ q := fun e => by
        subst e
        rcases g with g | g
        · rcases kwHe kk h₂ with ⟨z, _⟩ | ⟨_, z⟩
          · exact g z
          · rw [z] at h₃
            cases h₃
        · exact h₄ g
      obtain ⟨b, b₁, b₂, b₃, b₄⟩ := i₁ (k + 1) (by omega) ⟨q, by omega, h₂, h₃, h₄⟩
      refine ⟨b, b₁, b₂, b₃, fun f => ?_⟩
      have e₀ : f + (d + 1) + 1 = f + d + 1 + 1 := by omega
      rw [e₀, kwG106, hB, ccMckT, h17, ccIte, if_neg e₁, ccIte, if_neg e₂, ccMckIn (by omega : k < 40) (by omega), mix_N (by omega)]
      by_cases g₁ : m 6 B 4 k ≠ N 0
      · rw [ccIte, if_pos g₁, N_add]
        exact b₄ f
      · have g₂ : k = a := by
          rcases g with g | g
          · exact absurd g g₁
          · exact g
        rw [ccIte, if_neg g₁, ccIte, if_pos (by rw [g₂]), N_add]
        exact b₄ f
    by_cases g₁ : m 6 B 4 k = N 0
    · by_cases g₂ : k = a
      · exact go (Or.inr g₂)
      · refine ⟨k, by omega, g₂, g₁, fun f => ?_⟩
        have e₀ : f + (d + 1) + 1 = (f + d) + 1 + 1 := by omega
        have n₂ : ¬ N k = N a := by rw [N_eq (by omega) (by omega)]; exact g₂
        rw [e₀, kwG106, hB, ccMckT, h17, ccIte, if_neg e₁, ccIte, if_neg e₂, ccMckIn (by omega : k < 40) (by omega), mix_N (by omega), ccIte, if_neg (fun z => z g₁), ccIte, if_neg n₂, kwG106, hB, ccMckT, h17, N_add]
        by_cases g₃ : n ≤ k + 1
        · rw [ccIte, if_pos (by rw [N_le (by omega) (by omega)]; exact g₃)]
        · rw [ccIte, if_neg (by rw [N_le (by omega) (by omega)]; exact g₃), ccIte, if_pos (by rw [N_le (by omega) (by omega)]; omega)]
    · exact go (Or.inl g₁)
/-- from the i-th place on -/
theorem kwL174 {L B w l n lm dp cl bd h k D at₀ kind : Nat} {β : Nat → Int32} {W : Nat → Nat} {r₀ r : mRs} {t : List Nat} {m G : mMi} (v : kwVv B k r₀ D t m r) (hB : 0 < B) (hL : L < 2147483648) (hD : D + 2 < 800000) (bn : n ≤ 20) (q : kwJ G m 2 B w l n lm dp cl bd β (fun i => N (W i)) W true h 0) (hl : t.length ≤ 480) (ha : at₀ ≤ 60) (hk : kind ≤ 2) : ∀ d i, i + d = 96 → (∀ f x5 x6, H174_18 L B (f + 2 * d + 1) 18 (N at₀) (N kind) (N i) x5 x6 m r = rV m r) ∨ ∃ M R, (∀ f x5 x6, H174_18 L B (f + 2 * d + 1) 18 (N at₀) (N kind) (N i) x5 x6 m r = rV M R) ∧ kwBd1 B w l n lm dp cl bd β W h k r₀ (D + 2) t m M R := by
  have al := kwVv_al v
  have b₁ : w ≤ 12 := q.2.1.2.2.2.2.2.2.2.2.1
  have b₂ : l ≤ 8 := q.2.1.2.2.2.2.2.2.2.2.2.2.1
  have ss := q.2.1
  have gg := q.2.2.1.1
  have kk := q.2.2.1.2.1
  have h17 : m 6 B 0 17 = N n := ss.2.2.2.2.2.2.1
  have cd : ccCd n (G 0 2) := by
    obtain ⟨mm, q₀⟩ := q.1
    exact ccCd_of q₀.1.2.2.2.2.2.1.2.1
  have n₁ : ¬ N 1 = N 0 := by decide
  intro d
  induction d with
  | zero =>
    intro i y
    have e : i = 96 := by omega
    subst e
    have e₁ : N 96 ≤ N 96 := by rw [N_le (by omega) (by omega)]; omega
    refine Or.inl (fun f x5 x6 => ?_)
    rw [kwG174_18, al, ccMckT, ccIte, if_pos e₁]
  | succ d i₁ =>
    intro i y
    obtain ⟨P, hP⟩ : ∃ P, P = (at₀ + i) % 96 / 12 := ⟨_, rfl⟩
    obtain ⟨c, hc⟩ : ∃ c, c = (at₀ + i) % 12 := ⟨_, rfl⟩
    have bP : P < 8 := by omega
    have bc : c < 12 := by omega
    have e₀ : ¬ N 96 ≤ N i := by rw [N_le (by omega) (by omega)]; omega
    have eP : (((N at₀ + N i) - (N at₀ + N i) / (N 96) * (N 96)) / (N 12)) = N P := by
      rw [N_add, N_rem (by omega) (by omega) (by omega), N_div (by omega) (by omega) (by omega), hP]
    have ec : ((N at₀ + N i) - (N at₀ + N i) / (N 12) * (N 12)) = N c := by
      rw [N_add, N_rem (by omega) (by omega) (by omega), hc]
    have ex : ∀ f, f + 2 * (d + 1) + 1 = (f + 2 * d + 1) + 1 + 1 := fun f => by omega
    have ei : N i + N 1 = N (i + 1) := N_add i 1
    -- the place is passed over
    have skip : (∀ f x5 x6, H174_18 L B (f + 2 * (d + 1) + 1) 18 (N at₀) (N kind) (N i) x5 x6 m r = H174_18 L B (f + 1 + 2 * d + 1) 18 (N at₀) (N kind) (N (i + 1)) (N 0) (N 0) m r) → (∀ f x5 x6, H174_18 L B (f + 2 * (d + 1) + 1) 18 (N at₀) (N kind) (N i) x5 x6 m r = rV m r) ∨ ∃ M R, (∀ f x5 x6, H174_18 L B (f + 2 * (d + 1) + 1) 18 (N at₀) (N kind) (N i) x5 x6 m r = rV M R) ∧ kwBd1 B w l n lm dp cl bd β W h k r₀ (D + 2) t m M R := fun u => by
      rcases i₁ (i + 1) (by omega) with z | ⟨M, R, z, z₂⟩
      · exact Or.inl (fun f x5 x6 => by rw [u, z])
      · exact Or.inr ⟨M, R, fun f x5 x6 => by rw [u, z], z₂⟩
    have skip2 : (∀ f x5 x6, H174_18 L B (f + 2 * (d + 1) + 1) 18 (N at₀) (N kind) (N i) x5 x6 m r = H174_18 L B (f + 2 * d + 1) 18 (N at₀) (N kind) (N (i + 1)) (N 0) (N 0) m r) → (∀ f x5 x6, H174_18 L B (f + 2 * (d + 1) + 1) 18 (N at₀) (N kind) (N i) x5 x6 m r = rV m r) ∨ ∃ M R, (∀ f x5 x6, H174_18 L B (f + 2 * (d + 1) + 1) 18 (N at₀) (N kind) (N i) x5 x6 m r = rV M R) ∧ kwBd1 B w l n lm dp cl bd β W h k r₀ (D + 2) t m M R := fun u => by
      rcases i₁ (i + 1) (by omega) with z | ⟨M, R, z, z₂⟩
      · exact Or.inl (fun f x5 x6 => by rw [u, z])
      · exact Or.inr ⟨M, R, fun f x5 x6 => by rw [u, z], z₂⟩
    have a₁ := kwE175 (rs := r) (L := P) (c := c) al ss (by omega) (by omega)
    have a₂ := kwE176 (rs := r) al ss kk
    obtain ⟨hc₀, hhc⟩ : ∃ x, x = ccCnt (ccHeld (G 0 2)) n := ⟨_, rfl⟩
    have bh : hc₀ ≤ n := by rw [hhc]; exact ccCnt_le n
    rw [← hhc] at a₂
    cases g₁ : ccPl w l P c
    · rw [g₁, ccT_f] at a₁
      refine skip (fun f x5 x6 => ?_)
      have e₃ : f + 2 * (d + 1) + 1 = (f + 1 + 2 * d + 1) + 1 := by omega
      rw [e₃, kwG174_18, al, ccMckT, ccIte, if_neg e₀, eP, ec, a₁, ccBi, al, ccMckT, ccIte, if_pos rfl, ei]
    · obtain ⟨h₁, h₂⟩ := ccPl_t g₁
      rw [g₁, ccT_t] at a₁
      by_cases g₂ : 2 ≤ hc₀
      · have p₂ : N 2 ≤ N hc₀ := by rw [N_le (by omega) (by omega)]; exact g₂
        obtain ⟨g₂₀, g₂₄, _⟩ := gg P c bP bc
        by_cases g₃ : kind = 0
        · have p₃ : N kind ≤ N 0 := by rw [g₃]; decide
          have a₃ := kwE183 (rs := r) al ss gg cd (by omega : P < 1000) (by omega : c < 100) g₁
          have hd : ∀ f x5 x6, H174_18 L B (f + 2 * (d + 1) + 1) 18 (N at₀) (N kind) (N i) x5 x6 m r = H174_18 L B ((f + 2 * d + 1) + 1) 239 (N at₀) (N 0) (N i) (N P) (N c) m r := fun f x5 x6 => by
            rw [ex, kwG174_18, al, ccMckT, ccIte, if_neg e₀, eP, ec, a₁, ccBi, al, ccMckT, ccIte, if_neg n₁, a₂, ccBi, al, ccMckT, ccIte, if_pos p₂, ccIte, if_pos p₃, g₃]
          cases g₄ : ccMayLay (G 0 2) w l P c
          · rw [g₄, ccT_f] at a₃
            refine skip2 (fun f x5 x6 => ?_)
            rw [hd, kwG174_239, al, ccMckT, ccIf0, a₃, ccBi, al, ccMckT, ccIf0e, ei, g₃]
          · rw [g₄, ccT_t] at a₃
            obtain ⟨y₁, y₂, y₃, y₄⟩ := ccMayLay_t g₄
            obtain ⟨a, ha₁, _, ha₂, ha₃⟩ := kwNth_ex (f := ccHeld (G 0 2)) n 0 0 (by rw [Nat.zero_add, ← hhc]; show 0 + 0 < hc₀; omega) (by omega)
            have a₄ : H180 B (N 0) m r = rI (N a) m r := by
              rw [kwE180 al ss kk (by omega), ha₁]
            have wa : m 6 B 4 a = N 0 := by
              rcases kwHe kk (by omega : a < n) with ⟨z, _⟩ | ⟨_, z⟩
              · exact z
              · rw [z] at ha₃
                cases ha₃
            obtain ⟨g₅, _, _⟩ := gg (P - 1) c (by omega) bc
            obtain ⟨g₆, _, _⟩ := gg (P - 1) (c + 1) (by omega) (by omega)
            have e₃ : 12 * (P - 1) + c = 12 * P + c - 12 := by omega
            have e₄ : 12 * (P - 1) + (c + 1) = 12 * P + c - 11 := by omega
            rw [e₃] at g₅
            rw [e₄] at g₆
            obtain ⟨M, R, z₁, z₂⟩ := kwE239 (L := L) (x2 := N at₀) (x4 := N i) v hB bn q h₁ h₂ (by omega : a < n) wa a₃ a₄ (by omega) (by rw [g₂₄]; exact y₂) (by rw [g₅]; exact y₃) (by rw [g₆]; exact y₄) hl
            obtain ⟨o, G', u₁, u₂, u₃, u₄, u₅⟩ := z₂
            refine Or.inr ⟨M, R, fun f x5 x6 => ?_, o, G', u₁, u₂, kwVv_le u₃ (Nat.le_refl _) (by omega), u₄, u₅⟩
            rw [hd, z₁]
        · have p₃ : ¬ N kind ≤ N 0 := by rw [N_le (by omega) (by omega)]; omega
          have a₃ := kwE177 (rs := r) al ss gg cd (by omega : P < 1000) (by omega : c < 1000)
          have nk : N kind ≠ N 0 := by rw [ne_eq, N_eq (by omega) (by omega)]; exact g₃
          cases g₄ : ccMayLean (G 0 2) w l P c
          · rw [g₄, ccT_f] at a₃
            refine skip2 (fun f x5 x6 => ?_)
            rw [ex, kwG174_18, al, ccMckT, ccIte, if_neg e₀, eP, ec, a₁, ccBi, al, ccMckT, ccIte, if_neg n₁, a₂, ccBi, al, ccMckT, ccIte, if_pos p₂, ccIte, if_neg p₃, a₃, ccBi, al, ccMckT, ccIte, if_pos rfl, kwG174_239, al, ccMckT, ccIte, if_pos nk, ei]
          · rw [g₄, ccT_t] at a₃
            obtain ⟨y₁, y₂⟩ := ccMayLean_t h₁ h₂ g₄
            obtain ⟨x, m₁, _, x₂, c₁, v₁, f₁⟩ := kwVv_d (lo := 0) (hi := hc₀ - 1) v hL (by omega) (by omega) (by omega)
            have r₁ := kwRw_7 (B := B) f₁
            have q₁ := kwJ_rw q r₁
            have kk₁ := q₁.2.2.1.2.1
            have ss₁ := q₁.2.1
            obtain ⟨a, ha₁, _, ha₂, ha₃⟩ := kwNth_ex (f := ccHeld (G 0 2)) n x 0 (by rw [Nat.zero_add, ← hhc]; show 0 + x < hc₀; omega) (by omega)
            have a₄ : H180 B (N x) m₁ r = rI (N a) m₁ r := by
              rw [kwE180 al ss₁ kk₁ (by omega), ha₁]
            obtain ⟨b', hb₁, _, hb₂, hb₃⟩ := kwNth_ex (f := ccHeld (G 0 2)) n 1 0 (by rw [Nat.zero_add, ← hhc]; show 0 + 1 < hc₀; omega) (by omega)
            obtain ⟨a', he₁, _, he₂, he₃⟩ := kwNth_2 n 0 hb₁ (by omega) (by omega)
            have hex : ∃ q', 0 ≤ q' ∧ q' < n ∧ ccHeld (G 0 2) q' = true ∧ q' ≠ a := by
              by_cases u : b' = a
              · exact ⟨a', Nat.zero_le _, by omega, he₃, by omega⟩
              · exact ⟨b', Nat.zero_le _, by omega, hb₃, u⟩
            obtain ⟨b, b₃, b₄, b₅, b₆⟩ := kwL106 (L := L) (x2 := N at₀) (x3 := N kind) (x4 := N i) (x5 := N P) (x6 := N c) al ss₁.2.2.2.2.2.2.1 kk₁ (by omega) (by omega : a < n) n 0 (by omega) hex
            have wa : m₁ 6 B 4 a = N 0 := by
              rcases kwHe kk₁ (by omega : a < n) with ⟨z, _⟩ | ⟨_, z⟩
              · exact z
              · rw [z] at ha₃
                cases ha₃
            obtain ⟨M, R, z₁, z₂⟩ := kwE151 (L := L) (x2 := N at₀) (x3 := N kind) (x4 := N i) (x9 := N (b + 1)) v₁ hB hL (by omega) bn q₁ h₁ h₂ (by omega : a < n) b₃ b₄ wa b₅ (by rw [r₁ 20 P c (by omega), g₂₀]; exact y₁) (fun u => by rw [r₁ 24 P c (by omega), g₂₄]; exact y₂ u) hl
            obtain ⟨o, G', u₁, u₂, u₃, u₄, u₅⟩ := z₂
            refine Or.inr ⟨M, R, fun f x5 x6 => ?_, o, G', kwOpOk_w r₁ u₁, kwRw_t (kwOpM_w r₁) u₂, kwVv_le u₃ (Nat.le_refl _) (by omega), kwFw_t (kwFw_7 f₁) u₄, u₅⟩
            obtain ⟨g, hg⟩ := ccFU (k := n) (by omega)
            have s₁ : N hc₀ - N 1 = N (hc₀ - 1) := N_sub (by omega)
            rw [ex, kwG174_18, al, ccMckT, ccIte, if_neg e₀, eP, ec, a₁, ccBi, al, ccMckT, ccIte, if_neg n₁, a₂, ccBi, al, ccMckT, ccIte, if_pos p₂, ccIte, if_neg p₃, a₃, ccBi, al, ccMckT, ccIte, if_neg n₁, a₂, ccBi, al, ccMckT, s₁, c₁, ccBi, al, ccMckT, a₄, ccBi, al, ccMckT, hg, b₆, z₁]
      · have p₂ : ¬ N 2 ≤ N hc₀ := by rw [N_le (by omega) (by omega)]; exact g₂
        refine skip (fun f x5 x6 => ?_)
        have e₃ : f + 2 * (d + 1) + 1 = (f + 1 + 2 * d + 1) + 1 := by omega
        rw [e₃, kwG174_18, al, ccMckT, ccIte, if_neg e₀, eP, ec, a₁, ccBi, al, ccMckT, ccIte, if_neg n₁, a₂, ccBi, al, ccMckT, ccIte, if_neg p₂, ei]
