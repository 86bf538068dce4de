/-! THE WORLD IS MADE. -/
theorem kwE174 {L B w l n lm dp cl bd h k D : Nat} {β : Nat → Int32} {W : Nat → Nat} {r₀ r : mRs} {t : List Nat} {m G : mMi} (v : kwVv B k r₀ D t m r) (hB : 0 < B) (hL : L < 2147483648) (hD : D + 10 < 800000) (bn : n ≤ 20) (q : kwJ G m 2 B w l n lm dp cl bd β (fun i => N (W i)) W true h 0) (hl : t.length ≤ 480) : (∃ M, H174 L B m r = rV M r ∧ kwVv B k r₀ (D + 4) t M r ∧ ∀ f i j p, f ≠ 7 → M f i j p = m f i j p) ∨ ∃ M R, H174 L B m r = rV M R ∧ kwBd1 B w l n lm dp cl bd β W h k r₀ (D + 4) t m M R := by
  have al := kwVv_al v
  obtain ⟨x, m₁, _, x₂, c₁, v₁, f₁⟩ := kwVv_d (lo := 0) (hi := 60) v hL (by omega) (by omega) (by omega)
  obtain ⟨y, m₂, _, y₂, c₂, v₂, f₂⟩ := kwVv_d (lo := 0) (hi := 2) v₁ hL (by omega) (by omega) (by omega)
  have f₃ : ∀ f i j p, f ≠ 7 → m₂ f i j p = m f i j p := fun f i j p g => by rw [f₂ f i j p g, f₁ f i j p g]
  have r₃ := kwRw_7 (B := B) f₃
  obtain ⟨g, hg⟩ := ccFU (k := 2 * 96) (by omega)
  have hd : H174 L B m r = H174_18 L B (g + 2 * 96 + 1) 18 (N x) (N y) (N 0) (N 0) (N 0) m₂ r := by
    unfold H174
    rw [al, ccMckT, c₁, ccBi, kwVv_al v₁, ccMckT, c₂, ccBi, kwVv_al v₂, ccMckT, hg]
  rcases kwL174 (L := L) v₂ hB hL (by omega) bn (kwJ_rw q r₃) hl x₂ y₂ 96 0 (by omega) with z | ⟨M, R, z, o, G', u₁, u₂, u₃, u₄, u₅⟩
  · exact Or.inl ⟨m₂, by rw [hd, z], kwVv_le v₂ (Nat.le_refl _) (by omega), f₃⟩
  · exact Or.inr ⟨M, R, by rw [hd, z], o, G', kwOpOk_w r₃ u₁, kwRw_t (kwOpM_w r₃) u₂, kwVv_le u₃ (Nat.le_refl _) (by omega), kwFw_t (kwFw_7 f₃) u₄, u₅⟩
theorem kwNl_2 {x : Nat} (h : x < 100) : (ccNl x).length ≤ 2 := by
  by_cases g : x < 10
  · rw [kwNl1 g]
    show 1 ≤ 2
    omega
  · rw [kwNl2 (by omega) h]
    exact Nat.le_refl 2
theorem kwOpT_l {B w l n : Nat} {o : Nat × Nat × Nat × Nat × Nat × Nat} {m : mMi} (ok : kwOpOk B w l n o m) (b₁ : w ≤ 12) (b₂ : l ≤ 8) : (kwOpT o).length ≤ 17 := by
  obtain ⟨⟨a₁, a₂, _, _⟩, b, _⟩ := ok
  have lP : (ccNl o.2.1).length = 1 := by rw [kwNl1 (by omega : o.2.1 < 10)]; rfl
  have lc := kwNl_2 (x := o.2.2.1) (by omega)
  unfold kwOpT
  by_cases g : o.1 = 0
  · obtain ⟨_, _, _, _, d, _⟩ := b g
    have lg := kwNl_2 (x := o.2.2.2.2.2) (by omega)
    rw [if_pos g]
    simp only [List.length_append, List.length_cons, List.length_nil]
    omega
  · rw [if_neg g]
    simp only [List.length_append, List.length_cons, List.length_nil]
    omega
/-- all builds -/
theorem kwL493 {L B w l n lm dp cl bd h : Nat} {β : Nat → Int32} {W : Nat → Nat} {r₀ : mRs} (hB : 0 < B) (hL : L < 2147483648) (bn : n ≤ 20) : ∀ d k D t m r G, kwVv B k r₀ D t m r → kwJ G m 2 B w l n lm dp cl bd β (fun i => N (W i)) W true h 0 → D + 4 * d + 10 < 800000 → t.length + 17 * d ≤ 490 → ∃ os M R G', kwVv B (k + 10 * d) r₀ (D + 4 * d) (t ++ kwOpsT os) M R ∧ kwOps B w l n os m M ∧ kwFw B m M ∧ kwJ G' M 2 B w l n lm dp cl bd β (fun i => N (W i)) W true h 0 ∧ os.length ≤ d ∧ (t ++ kwOpsT os).length ≤ t.length + 17 * d ∧ ∀ f, H172_493 L B (f + d + 1) (N d) m r = H172_493 L B (f + 1) (N 0) M R := by
  intro d
  induction d with
  | zero =>
    intro k D t m r G v q _ _
    refine ⟨[], m, r, G, ?_, fun _ _ _ _ => rfl, fun _ _ _ _ _ _ _ _ => rfl, q, Nat.le_refl 0, ?_, fun f => rfl⟩
    · show kwVv B k r₀ D (t ++ []) m r
      rw [List.append_nil]
      exact v
    · show (t ++ []).length ≤ t.length + 17 * 0
      rw [List.append_nil]
      omega
  | succ d i₁ =>
    intro k D t m r G v q hD hl
    have al := kwVv_al v
    have b₁ : w ≤ 12 := q.2.1.2.2.2.2.2.2.2.2.1
    have b₂ : l ≤ 8 := q.2.1.2.2.2.2.2.2.2.2.2.2.1
    have ed : N (d + 1) + I (-1) = N d := N_dec (by omega)
    by_cases hd : d < 100000
    · have e₁ : ¬ N (d + 1) ≤ N 0 := by rw [N_le (by omega) (by omega)]; omega
      rcases kwE174 (L := L) v hB hL (by omega) bn q (by omega) with ⟨m₁, c₁, v₁, f₁⟩ | ⟨m₁, r₁, c₁, o, G₁, u₁, u₂, u₃, u₄, u₅⟩
      · obtain ⟨os, M, R, G', v₂, o₂, f₂, q₂, l₂, l₃, c₂⟩ := i₁ k (D + 4) t m₁ r G v₁ (kwJ_rw q (kwRw_7 f₁)) (by omega) (by omega)
        refine ⟨os, M, R, G', kwVv_le v₂ (by omega) (by omega), kwOps_w (kwRw_7 f₁) o₂, kwFw_t (kwFw_7 f₁) f₂, q₂, by omega, by omega, fun f => ?_⟩
        have e₀ : f + (d + 1) + 1 = f + d + 1 + 1 := by omega
        rw [e₀, kwG493, al, ccMckT, ccIte, if_neg e₁, c₁, ccBv, al, ccMckT, ed]
        exact c₂ f
      · have lo := kwOpT_l u₁ b₁ b₂
        have la : (t ++ kwOpT o).length = t.length + (kwOpT o).length := List.length_append
        obtain ⟨os, M, R, G', v₂, o₂, f₂, q₂, l₂, l₃, c₂⟩ := i₁ (k + 10) (D + 4) (t ++ kwOpT o) m₁ r₁ G₁ u₃ u₅ (by omega) (by omega)
        have et : t ++ kwOpT o ++ kwOpsT os = t ++ kwOpsT (o :: os) := by
          show _ = t ++ (kwOpT o ++ kwOpsT os)
          rw [List.append_assoc]
        rw [et] at v₂ l₃
        refine ⟨o :: os, M, R, G', kwVv_le v₂ (by omega) (by omega), ⟨m₁, u₁, u₂, o₂⟩, kwFw_t u₄ f₂, q₂, by rw [List.length_cons]; omega, by omega, fun f => ?_⟩
        have e₀ : f + (d + 1) + 1 = f + d + 1 + 1 := by omega
        rw [e₀, kwG493, al, ccMckT, ccIte, if_neg e₁, c₁, ccBv, kwVv_al u₃, ccMckT, ed]
        exact c₂ f
    · omega
/-- the World's text -/
def kwText (σ z W : Nat → Nat) (n : Nat) (os : List (Nat × Nat × Nat × Nat × Nat × Nat)) : List Nat := [116, 97, 98, 108, 101, 32] ++ (kwSetT σ 6 ++ (kwCardT z W n ++ kwOpsT os))
/-- the World was made so -/
def kwWd (B w l n lm dp cl bd : Nat) (z W : Nat → Nat) (os : List (Nat × Nat × Nat × Nat × Nat × Nat)) (M : mMi) : Prop := ∃ mw₀ mwK, kwS mw₀ B w l n lm dp cl bd ∧ kwEw mw₀ B n z W ∧ kwOps B w l n os mw₀ mwK ∧ ∀ rs : mRs, rs.2.1.1 B = true → H185 B mwK rs = rV M rs
def kwSg (w l lm dp cl bd : Nat) : Nat → Nat
  | 0 => w
  | 1 => l
  | 2 => lm
  | 3 => dp
  | 4 => cl
  | _ => bd
theorem kwWorld {L B : Nat} {m : mMi} {r : mRs} (v : kwVv B 0 r 0 [116, 97, 98, 108, 101, 32] m r) (hB : 0 < B) (hL : L < 2147483648) (z₀ : m 6 B 0 17 = N 0 ∧ m 6 B 0 18 = N 0 ∧ m 6 B 0 19 = N 0 ∧ m 6 B 0 20 = N 0 ∧ m 6 B 0 21 = N 0) (z₁ : ∀ j k, (j = 4 ∨ j = 7 ∨ j = 8) → k < 40 → m 6 B j k = N 0) (z₂ : ∀ u, u < 4 → m 6 B 16 u = N 0) : ∃ w l n lm dp cl bd z W os M R, (2 ≤ w ∧ w ≤ 12 ∧ 1 ≤ l ∧ l ≤ 8 ∧ 1 ≤ lm ∧ lm ≤ 99 ∧ dp ≤ 9 ∧ cl ≤ 20 ∧ bd ≤ 8 ∧ n ≤ 20 ∧ os.length ≤ 14) ∧ (∀ k, k < n → 1 ≤ z k ∧ z k ≤ 9 ∧ 1 ≤ W k ∧ W k ≤ 9) ∧ H172 L B m r = rV M R ∧ kwVv B 300 r 200 (kwText (kwSg w l lm dp cl bd) z W n os) M R ∧ (kwText (kwSg w l lm dp cl bd) z W n os).length ≤ 490 ∧ kwWd B w l n lm dp cl bd z W os M ∧ kwFw B m M := by
  have al := kwVv_al v
  obtain ⟨m₁, a₁, a₂, a₃⟩ := kwE173 (m := m) al
  have v₁ : kwVv B 0 r 0 [116, 97, 98, 108, 101, 32] m₁ r := kwVv_w v (fun f i j p g => a₃ f i j p (by omega))
  obtain ⟨w, l, lm, dp, cl, bd, m₂, ⟨b₁, b₂, b₃, b₄, b₅, b₆, b₇, b₈, b₉⟩, c₂, v₂, ⟨s₀, s₁, s₂, s₃, s₄, s₅⟩, f₂⟩ := kwSets (L := L) v₁ hL (by omega)
  obtain ⟨σ, hσ⟩ : ∃ σ, σ = kwSg w l lm dp cl bd := ⟨_, rfl⟩
  have bσ : ∀ j, j < 6 → σ j < 1000 := fun j y => by
    have g : j = 0 ∨ j = 1 ∨ j = 2 ∨ j = 3 ∨ j = 4 ∨ j = 5 := by omega
    rw [hσ]
    rcases g with rfl | rfl | rfl | rfl | rfl | rfl
    · show w < 1000; omega
    · show l < 1000; omega
    · show lm < 1000; omega
    · show dp < 1000; omega
    · show cl < 1000; omega
    · show bd < 1000; omega
  have sσ : ∀ j, j < 6 → m₂ 6 B 1 j = N (σ j) := fun j y => by
    have g : j = 0 ∨ j = 1 ∨ j = 2 ∨ j = 3 ∨ j = 4 ∨ j = 5 := by omega
    rw [hσ]
    rcases g with rfl | rfl | rfl | rfl | rfl | rfl
    · exact s₀
    · exact s₁
    · exact s₂
    · exact s₃
    · exact s₄
    · exact s₅
  obtain ⟨m₃, r₃, v₃, f₃, l₃, c₃⟩ := kwL317 (L := L) (σ := σ) (t := [116, 97, 98, 108, 101, 32]) hB bσ (by show 6 ≤ 100; omega) 6 0 0 m₂ r (by omega) (by
    show kwVv B 0 r (0 + 11) ([116, 97, 98, 108, 101, 32] ++ []) m₂ r
    rw [List.append_nil]
    exact v₂) (Nat.zero_le _) sσ
  obtain ⟨n, m₄, _, n₂, c₄, v₄, f₄⟩ := kwVv_d (lo := 0) (hi := 20) v₃ hL (by omega) (by omega) (by omega)
  have q₁₇ : m₄ 6 B 0 17 = N 0 := by
    rw [f₄ 6 B 0 17 (by omega), f₃ 6 B 0 17 (by omega), f₂ 6 B 0 17 (by omega) (by omega), a₃ 6 B 0 17 (by omega)]
    exact z₀.1
  have lt₀ : ([116, 97, 98, 108, 101, 32] ++ kwSetT σ 6).length ≤ 30 := by
    rw [List.length_append]
    show 6 + (kwSetT σ 6).length ≤ 30
    omega
  obtain ⟨z, W, m₅, r₅, v₅, q₅, h₅, f₅, c₅⟩ := kwCards0 (L := L) (t := [116, 97, 98, 108, 101, 32] ++ kwSetT σ 6) hB hL (by omega) n 0 (0 + 2 * 6) (0 + 11 + 1) m₄ r₃ (fun _ => 1) (fun _ => 1) (by omega) (by omega) (by
    show kwVv B (0 + 2 * 6) r (0 + 11 + 1) ([116, 97, 98, 108, 101, 32] ++ kwSetT σ 6 ++ []) m₄ r₃
    rw [List.append_nil]
    exact v₄) q₁₇ (fun k y => by omega)
  have e₀ : 0 + n = n := Nat.zero_add n
  rw [e₀] at v₅ q₅ h₅
  obtain ⟨x, m₆, _, x₂, c₆, v₆, f₆⟩ := kwVv_d (lo := 0) (hi := 14) v₅ hL (by omega) (by omega) (by omega)
  have bz : ∀ k, k < n → 1 ≤ z k ∧ z k ≤ 9 ∧ 1 ≤ W k ∧ W k ≤ 9 := fun k y => (h₅ k y).2.2
  -- what stands before the builds
  have st : ∀ f i j p, f ≠ 7 → ¬ (f = 9 ∧ B + 1 ≤ i) → ¬ (f = 6 ∧ i = B ∧ (j = 1 ∨ j = 2 ∨ j = 3 ∨ j = 0 ∧ p = 17)) → m₆ f i j p = m₁ f i j p := fun f i j p g₁ g₂ g₃ => by
    rw [f₆ f i j p g₁, f₅ f i j p g₁ g₂ (by omega), f₄ f i j p g₁, f₃ f i j p g₂, f₂ f i j p g₁ (by omega)]
  have sS : ∀ j, j < 6 → m₆ 6 B 1 j = N (σ j) := fun j y => by
    rw [f₆ 6 B 1 j (by omega), f₅ 6 B 1 j (by omega) (by omega) (by omega), f₄ 6 B 1 j (by omega), f₃ 6 B 1 j (by omega)]
    exact sσ j y
  have s : kwS m₆ B w l n lm dp cl bd := by
    have y₀ := sS 0 (by omega)
    have y₁ := sS 1 (by omega)
    have y₂ := sS 2 (by omega)
    have y₃ := sS 3 (by omega)
    have y₄ := sS 4 (by omega)
    have y₅ := sS 5 (by omega)
    rw [hσ] at y₀ y₁ y₂ y₃ y₄ y₅
    exact ⟨y₀, y₁, y₂, y₃, y₄, y₅, by rw [f₆ 6 B 0 17 (by omega)]; exact q₅, b₁, b₂, b₃, b₄, by omega, b₆, b₇, b₈, b₉⟩
  have zr : ∀ j k, (j = 4 ∨ j = 7 ∨ j = 8) → k < 40 → m₆ 6 B j k = N 0 := fun j k g y => by
    rw [st 6 B j k (by omega) (by omega) (by omega), a₃ 6 B j k (by omega)]
    exact z₁ j k g y
  have zn : ∀ p, p = 18 ∨ p = 19 ∨ p = 20 ∨ p = 21 → m₆ 6 B 0 p = m 6 B 0 p := fun p g => by
    rw [st 6 B 0 p (by omega) (by omega) (by omega), a₃ 6 B 0 p (by omega)]
  have ew : kwEw m₆ B n z W := by
    refine ⟨fun P c g₁ g₂ => ?_, fun k y => ⟨?_, ?_, zr 4 k (by omega) (by omega), zr 7 k (by omega) (by omega), zr 8 k (by omega) (by omega)⟩, by rw [zn 18 (by omega)]; exact z₀.2.1, by rw [zn 19 (by omega)]; exact z₀.2.2.1, by rw [zn 20 (by omega)]; exact z₀.2.2.2.1, by rw [zn 21 (by omega)]; exact z₀.2.2.2.2, fun u y => ?_⟩
    · rw [st 20 B P c (by omega) (by omega) (by omega), st 24 B P c (by omega) (by omega) (by omega)]
      exact a₂ P c (by omega) (by omega)
    · rw [f₆ 6 B 2 k (by omega)]; exact (h₅ k y).1
    · rw [f₆ 6 B 3 k (by omega)]; exact (h₅ k y).2.1
    · rw [st 6 B 16 u (by omega) (by omega) (by omega), a₃ 6 B 16 u (by omega)]
      exact z₂ u y
  obtain ⟨G, qG⟩ := kwGst0 (fun k y => ⟨(bz k y).1, (bz k y).2.1⟩) (fun k y => ⟨(bz k y).2.2.1, (bz k y).2.2.2⟩) s ew
  have lc := kwCardT_l (z := z) (W := W) n bz
  have lt₁ : ([116, 97, 98, 108, 101, 32] ++ kwSetT σ 6 ++ kwCardT z W n).length ≤ 250 := by
    rw [List.length_append]
    omega
  obtain ⟨os, m₇, r₇, G', v₇, o₇, f₇, q₇, l₇, l₈, c₇⟩ := kwL493 (L := L) hB hL n₂ x _ _ _ m₆ r₅ G v₆ qG (by omega) (by omega)
  obtain ⟨m₈, m₉, u, u', _, k₂, _, _, _, k₆, _, _, _⟩ := kwE19 q₇
  have al₇ := kwVv_al v₇
  have et : [116, 97, 98, 108, 101, 32] ++ kwSetT σ 6 ++ kwCardT z W n ++ kwOpsT os = kwText σ z W n os := by
    unfold kwText
    simp only [List.append_assoc]
  rw [et] at l₈
  rw [et, hσ] at v₇
  obtain ⟨g₁, hg₁⟩ := ccFU (k := 6) (by omega)
  obtain ⟨g₂, hg₂⟩ := ccFU (k := n) (by omega)
  obtain ⟨g₃, hg₃⟩ := ccFU (k := x) (by omega)
  have n₀ : N 0 ≤ N 0 := by decide
  have n₆ : N 6 ≤ N 6 := by decide
  refine ⟨w, l, n, lm, dp, cl, bd, z, W, os, m₉, r₇, ⟨b₁, b₂, b₃, b₄, b₅, b₆, b₇, b₈, b₉, n₂, by omega⟩, bz, ?_, kwVv_le (kwVv_w v₇ (fun f i j p g => k₆ f i j p (by omega) (by omega))) (by omega) (by omega), by rw [← hσ]; omega, ⟨m₆, m₇, s, ew, o₇, k₂⟩, ?_⟩
  · rw [kwG172, al, ccMckT, a₁, ccBv, al, ccMckT]
    refine Eq.trans c₂ ?_
    rw [hg₁, c₃, kwG317, kwVv_al v₃, ccMckT, ccIte, if_pos n₆, c₄, ccBi, kwVv_al v₄, ccMckT, hg₂, c₅, kwG365, kwVv_al v₅, ccMckT, ccIte, if_pos n₀, c₆, ccBi, kwVv_al v₆, ccMckT, hg₃, c₇, kwG493, al₇, ccMckT, ccIte, if_pos n₀, k₂ _ al₇, ccBv, al₇, ccMckT]
  · refine kwFw_t (m₁ := m₆) (fun f i j p g₁ g₂ g₃ g₄ => ?_) (kwFw_t f₇ (fun f i j p _ _ g₃ g₄ => k₆ f i j p g₃ (by omega)))
    rw [st f i j p g₁ g₂ (by omega), a₃ f i j p (by omega)]
