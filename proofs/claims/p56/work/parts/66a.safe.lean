/-! safest, continued: one place, and all of them. -/
/-- the castle with the card laid, with its facts -/
theorem ccSafR {B : Nat} {m : mMi} {w l n bd lm dp cl p a : Nat} {β : Nat → Int32} {W : Nat → Nat} (hB : B ≤ 900000000) (h₂ : ccLd B m w l n bd lm dp cl β W) (h₃ : a < n) (h₄ : m 0 0 13 a = I (-1)) (h₁ : p < 96) (h₅ : ccMayLay (m 0 0) w l (p / 12) (p % 12) = true) :
    ∃ D, ccAg (ccLD (m 0 0) p a) D ∧ (∃ h t s, ccR ccX0 n β (fun k => N (W k)) h t D s) ∧ ccStd D ∧ ccPlc w l D ∧ ccNn D ∧
      ∀ mm, ccGd m mm → (ccQt W D w l → ∃ m₂, (∀ rs, F278 (N p) (N a) mm rs = rI (ccMnr (ccP D) (ccRv W D w l) 96 0 (N 2147483647)) m₂ rs) ∧ ccGd m m₂) ∧ (¬ ccQt W D w l → ∃ m₂, (∀ rs, F278 (N p) (N a) mm rs = rI (I (-1)) m₂ rs) ∧ ccGd m m₂) := by
  have qr : ccRu m 0 w l n := h₂.2.2.1.1
  have b₁ : w ≤ 12 := qr.2.2.2.2.1
  have b₂ : l ≤ 8 := qr.2.2.2.2.2.2.1
  have b₃ : n ≤ 40 := qr.2.2.2.2.2.2.2
  obtain ⟨l₁, l₂, l₃, l₄⟩ := ccMayLay_t h₅
  have e₀ : 12 * (p / 12) + p % 12 = p := by omega
  rw [e₀] at l₁ l₂ l₃ l₄
  have lp : p / 12 < l ∧ p / 12 + p % 12 < w := by
    obtain ⟨K, hK⟩ : ∃ K, p / 12 = K + 1 := ⟨p / 12 - 1, by omega⟩
    rw [hK] at h₅
    have y₁ : (ccPl w l (K + 1) (p % 12) && !(ccHF (m 0 0) w l (K + 1) (p % 12)) && ccHP (m 0 0) w l K (p % 12) && ccHP (m 0 0) w l K (p % 12 + 1)) = true := h₅
    simp only [Bool.and_eq_true, Bool.not_eq_true'] at y₁
    have y₂ := y₁.1.1.1
    unfold ccPl at y₂
    simp only [Bool.and_eq_true, decide_eq_true_eq] at y₂
    omega
  obtain ⟨mc, k₁, k₂, k₃, k₄, k₅⟩ := ccGd_18 (ccEq_rfl (m₁ := m))
  have cD : mset (mset mc 0 1 6 p (N a)) 0 1 13 a (N p) 0 1 = ccLD (mc 0 1) p a := by unfold ccLD; simp only [ccU_set]
  -- for any memory of the reference
  have gh : ∀ mm, ccEq m mm → ∃ h t, ccJ (mset (mset mc 0 1 6 p (N a)) 0 1 13 a (N p)) (mset (mset (mset (ccCp mm 4 0 3 0 918) 4 0 3 (632 + p) (N a)) 4 0 3 (9 + 6 * a) (N 3)) 4 0 3 (10 + 6 * a) (N p)) 1 w l n bd β (fun k => N (W k)) W h t ∧ ccCp mm 4 0 3 0 918 4 0 3 1 = N t ∧ t ≤ B ∧ ccNn (ccLD (mc 0 1) p a) := fun mm g₁ => by
    obtain ⟨y₁, y₂, y₃⟩ := ccGd_255 g₁
    obtain ⟨h, t, j₁, j₂, j₃, j₄, _⟩ := ccJ_tr' hB h₂ k₃ k₄ y₁ y₂ y₃
    obtain ⟨d₁, d₂⟩ := ccLay1 (p := p) (a := a) j₁ (by omega) l₁ h₁ h₃ (by rw [k₃.2.2.2.2.1 13 a (by omega) (by omega) (by omega)]; exact h₄) (by rw [k₃.1 6 p (by omega) (by omega) h₁]; exact l₂) (by rw [k₃.1 2 (p - 12) (by omega) (by omega) (by omega)]; exact l₃) (by rw [k₃.1 2 (p - 11) (by omega) (by omega) (by omega)]; exact l₄) lp
    refine ⟨h, t, d₁, (ccR_tt j₁.1.2.2.2.2.2.1).2, j₂, ?_⟩
    rw [← cD]
    exact ccNn_co j₄.2 (fun q => ⟨d₂ 2 q (by omega) (by omega), d₂ 4 q (by omega) (by omega), d₂ 5 q (by omega) (by omega)⟩)
  obtain ⟨h₀, t₀, j₀, _, _, n₀⟩ := gh m ccEq_rfl
  refine ⟨ccLD (mc 0 1) p a, ccAg_LD k₃, ⟨h₀, t₀, _, by rw [← cD]; exact j₀.1.2.2.2.2.2.1⟩, by rw [← cD]; exact j₀.2.1, by rw [← cD]; exact j₀.1.2.2.2.2.2.2.1, n₀, fun mm g₁ => ?_⟩
  obtain ⟨h, t, j₁, t₁, tB, _⟩ := gh mm g₁.1
  have fq : ccFq (ccCp mm 4 0 3 0 918) (mset (mset (mset (ccCp mm 4 0 3 0 918) 4 0 3 (632 + p) (N a)) 4 0 3 (9 + 6 * a) (N 3)) 4 0 3 (10 + 6 * a) (N p)) := ccFq_set (ccFq_set (ccFq_set ccFq_rfl (by omega)) (by omega)) (by omega)
  refine ⟨fun g₂ => ?_, fun g₂ => ?_⟩
  · rw [← cD] at g₂
    obtain ⟨m₂, c₁, c₂, c₃, c₄, c₅⟩ := ccE212q j₁ g₂
    rw [cD] at c₃ c₄ c₅
    have cd : ccCd n (ccLD (mc 0 1) p a) := by rw [← cD]; exact ccCd_of j₁.1.2.2.2.2.2.1.2.1
    have pl : ccPlc w l (ccLD (mc 0 1) p a) := by rw [← cD]; exact j₁.1.2.2.2.2.2.2.1
    have t₂ : m₂ 4 0 3 1 = N t := by
      rw [ccFt_3 c₂]
      exact (ccR_tt j₁.1.2.2.2.2.2.1).2
    have le : N t ≤ N t := by rw [N_le (by omega) (by omega)]; omega
    obtain ⟨f, hf⟩ := ccFU (k := 96) (by omega)
    refine ⟨ccCp m₂ 3 0 4 0 918, fun rs => ?_, ccGd_256 g₁ (ccFq_trans fq (ccFt_fq c₂))⟩
    have e₁ : F279 m₂ rs = rI (ccMnr (ccP (ccLD (mc 0 1) p a)) (ccRv W (ccLD (mc 0 1) p a) w l) 96 0 (N 2147483647)) m₂ rs := by
      unfold F279
      rw [hf]
      exact ccL279 c₄ cd c₅ c₃ pl 96 0 f _ rs (by omega)
    unfold F278
    rw [ccE255, ccBv, ccE210 h₁ (by omega), ccBv, c₁, ccBv, t₂, t₁, ccIte, if_pos le, e₁, ccBi, ccE256, ccBv]
  · obtain ⟨m₁, m₂, u, v, c₁, c₂, c₃, c₄, c₅, c₆, c₇, c₈, c₉⟩ := ccE19 j₁
    have tv : t < v := by
      refine c₉ ?_
      rcases Classical.em (∃ q, q < 96 ∧ ccBdl W (mset (mset mc 0 1 6 p (N a)) 0 1 13 a (N p) 0 1) w l q = true) with y₁ | y₁
      · exact y₁
      · refine absurd ?_ g₂
        rw [← cD]
        intro q y₂
        cases y₃ : ccBdl W (mset (mset mc 0 1 6 p (N a)) 0 1 13 a (N p) 0 1) w l q
        · rfl
        · exact absurd ⟨q, y₂, y₃⟩ y₁
    have p₂ := ccPcs_le (C := mset (mset mc 0 1 6 p (N a)) 0 1 13 a (N p) 0 1)
    have p₃ := c₄.2
    have t₂ : m₂ 4 0 3 1 = N v := (ccR_tt c₃.1.2.2.2.2.2.1).2
    have le : ¬ N v ≤ N t := by rw [N_le (by omega) (by omega)]; omega
    refine ⟨ccCp m₂ 3 0 4 0 918, fun rs => ?_, ccGd_256 g₁ (ccFq_trans fq c₆)⟩
    unfold F278
    rw [ccE255, ccBv, ccE210 h₁ (by omega), ccBv, c₂, ccBv, t₂, t₁, ccIte, if_neg le, ccE256, ccBv]
/-- the class's trial castle is a copy -/
def ccGc (m mc : mMi) : Prop := ccEq m mc ∧ ccMo4 m mc ∧ ccAg (m 0 0) (mc 0 1)
theorem ccSafC {B : Nat} {m : mMi} {w l n bd lm dp cl p a : Nat} {β : Nat → Int32} {W : Nat → Nat} {D : Nat → Nat → Int32} (h₂ : ccLd B m w l n bd lm dp cl β W) (h₃ : a < n) (h₄ : m 0 0 13 a = I (-1)) (h₁ : p < 96) (h₅ : ccMayLay (m 0 0) w l (p / 12) (p % 12) = true) (g₁ : ccAg (ccLD (m 0 0) p a) D) (g₂ : ∃ h t s, ccR ccX0 n β (fun k => N (W k)) h t D s) (g₃ : ccStd D) (g₄ : ccPlc w l D) :
    ∃ q, q < 96 ∧ ccP D q = true ∧ ccBst (ccP D) (ccLtR W D w l) 96 0 (I (-1)) = N q ∧ ∀ mc, ccGc m mc → ∃ m₁, (∀ rs, F150 (N p) (N a) mc rs = rI (ccRv W D w l q) m₁ rs) ∧ ccGc m m₁ := by
  have qr : ccRu m 0 w l n := h₂.2.2.1.1
  have b₁ : w ≤ 12 := qr.2.2.2.2.1
  have b₂ : l ≤ 8 := qr.2.2.2.2.2.2.1
  have b₃ : n ≤ 40 := qr.2.2.2.2.2.2.2
  have wt : ccWt m 0 n W := h₂.2.2.1.2.2.2.2.2.2.1
  have wk : ccWok n W := h₂.2.2.1.2.2.2.2.2.2.2.2.1
  obtain ⟨h, t, s, r⟩ := g₂
  have cd := ccCd_of r.2.1
  obtain ⟨l₁, l₂, l₃, l₄⟩ := ccMayLay_t h₅
  have e₀ : 12 * (p / 12) + p % 12 = p := by omega
  rw [e₀] at l₁ l₂ l₃ l₄
  have pr : ccP D (p - 12) = true := by
    have y₁ : D 2 (p - 12) = m 0 0 2 (p - 12) := by
      rw [g₁.1 2 (p - 12) (by omega) (by omega) (by omega)]
      unfold ccLD
      simp (disch := omega) only [ccU, if_neg, Nat.reduceEqDiff, eq_self, true_and, and_true, false_and, and_false, if_true, if_false]
    unfold ccP
    rw [y₁, decide_eq_false l₃]
    rfl
  obtain ⟨q, q₁, q₂, _⟩ := ccBst_min (P := ccP D) (r := ccRv W D w l) 96 0 (I (-1)) (by omega) (Or.inl rfl) (fun u y₁ _ => by omega) (p - 12) (by omega) pr
  have qq : ccBst (ccP D) (ccLtR W D w l) 96 0 (I (-1)) = N q := q₁
  have qp : ccP D q = true := by
    rcases ccBst_is (P := ccP D) (lt := ccLtR W D w l) 96 0 (I (-1)) (by omega) (Or.inl rfl) with y₁ | ⟨u, y₁, y₂, y₃⟩
    · rw [qq, ccNm (by omega)] at y₁
      exact y₁.elim
    · have y₄ : u = q := ccNinj (by rw [← y₂, qq]) (by omega) (by omega)
      rw [← y₄]
      exact y₃
  refine ⟨q, q₂, qp, qq, fun mc gc => ?_⟩
  obtain ⟨c₁, c₂, c₃⟩ := gc
  have mc₁ : ∀ j y, mc 1 0 j y = m 1 0 j y := fun j y => c₁ 1 0 j y (by unfold ccJk; omega)
  obtain ⟨E, hE⟩ : ∃ E, E = mset (mset mc 0 1 6 p (N a)) 0 1 13 a (N p) := ⟨_, rfl⟩
  have E₁ : E 0 1 = ccLD (mc 0 1) p a := by rw [hE]; unfold ccLD; simp only [ccU_set]
  have ag : ccAg D (E 0 1) := by rw [E₁]; exact ccAg_trans (ccAg_symm g₁) (ccAg_LD c₃)
  have Eo : ∀ f b j y, ¬ (f = 0 ∧ b = 1) → E f b j y = mc f b j y := fun f b j y y₁ => by rw [hE, ccRd, if_neg (by omega), ccRd, if_neg (by omega)]
  have rE := ccR_ag (s := s) r b₃ ag ccAr_rfl
  have cE := ccCd_of rE.2.1
  have wc : ccWc E 1 w l n W (E 0 1) := ⟨⟨by rw [Eo 1 (RO 1) 1 0 (by omega)]; exact Eq.trans (mc₁ 1 0) qr.1, by rw [Eo 1 (RO 1) 1 1 (by omega)]; exact Eq.trans (mc₁ 1 1) qr.2.1, by rw [Eo 1 (RO 1) 0 4 (by omega)]; exact Eq.trans (mc₁ 0 4) qr.2.2.1, qr.2.2.2⟩, fun k y₁ => by rw [Eo 1 (RO 1) 4 k (by omega)]; exact Eq.trans (mc₁ 4 k) (wt k y₁), rfl⟩
  obtain ⟨F, a₁, a₂, a₃⟩ := ccE85 (i := 1) (ccStd_sup (ccStd_ag g₃ ag) b₁ b₂) cE wk wc
  have F₁ : F 0 1 = E 0 1 := ccFs_0 a₂
  have plE := ccPlc_ag g₄ ag
  have cg : ccBst (ccP (E 0 1)) (ccLtR W (E 0 1) w l) 96 0 (I (-1)) = N q := by
    rw [← qq]
    refine ccBst_cg (fun y y₁ => ccP_ag ag y₁) (fun y z y₁ y₂ y₃ y₄ => ?_) 96 0 (I (-1)) (by omega) (Or.inl rfl)
    rw [ccP_ag ag y₁] at y₃
    rw [ccP_ag ag y₂] at y₄
    unfold ccLtR
    rw [ccRv_ag ag cd b₁ b₂ b₃ y₁ (ccP_t y₃), ccRv_ag ag cd b₁ b₂ b₃ y₂ (ccP_t y₄)]
  have vq : ccRv W (E 0 1) w l q = ccRv W D w l q := ccRv_ag ag cd b₁ b₂ b₃ q₂ (ccP_t qp)
  have qE : ccP (E 0 1) q = true := by rw [ccP_ag ag q₂]; exact qp
  have F₆ : F 0 1 6 p = N a := by
    rw [F₁, E₁]
    unfold ccLD
    simp (disch := omega) only [ccU, if_neg, Nat.reduceEqDiff, eq_self, true_and, and_true, false_and, and_false, if_true, if_false]
  obtain ⟨g, hg⟩ := ccFU (k := 96) (by omega)
  have f₃₁ : ∀ rs, F31 1 E rs = rI (N q) F rs := fun rs => by
    have y₁ := ccL31 F₁ cE b₃ a₃ plE 96 0 g (I (-1)) rs (by omega) (Or.inl rfl)
    rw [cg] at y₁
    unfold F31
    rw [a₁, ccBv, hg]
    exact y₁
  refine ⟨mset (mset F 0 1 13 a (I (-1))) 0 1 6 p (I (-1)), fun rs => ?_, fun f b j y y₁ => ?_, fun b j y => ?_, ?_⟩
  · have nq : N q ≠ I (-1) := fun y₁ => (ccNm (by omega)).mp y₁
    unfold F150
    rw [ccE17 h₁ (by omega), ccBv, ← hE, f₃₁, ccBi, ccIte, if_pos nq, ccE23 F₁ cE b₃ q₂ (ccP_t qE) a₃ plE, ccBi, ccE39 h₁ (by omega) F₆, ccBv, vq]
  · have y₂ := c₁ f b j y y₁
    unfold ccJk at y₁
    rw [ccRd, if_neg (by omega), ccRd, if_neg (by omega), a₂ f b j y (by omega), Eo f b j y (by omega)]
    exact y₂
  · rw [ccRd, if_neg (by omega), ccRd, if_neg (by omega), a₂ 4 b j y (by omega), Eo 4 b j y (by omega)]
    exact c₂ b j y
  · have y₁ : mset (mset F 0 1 13 a (I (-1))) 0 1 6 p (I (-1)) 0 1 = ccU (ccU (F 0 1) 13 a (I (-1))) 6 p (I (-1)) := by simp only [ccU_set]
    rw [y₁, F₁, E₁, ccLD_b (by rw [c₃.2.2.2.2.1 13 a (by omega) (by omega) (by omega)]; exact h₄) (by rw [c₃.1 6 p (by omega) (by omega) h₁]; exact l₂)]
    exact c₃
def ccX3 (x : Int32) : Prop := x = I (-1) ∨ ∃ k, x = N k ∧ k ≤ 1800
theorem ccX3_neg {x : Int32} {z : Int} (h₁ : ccX3 x) (h₂ : z < 0) (h₃ : -1000 ≤ z) : I z ≤ x := by
  rcases h₁ with e₁ | ⟨k, e₁, e₂⟩
  · rw [e₁, I_le (by omega) (by omega) (by omega) (by omega)]
    omega
  · rw [e₁, ← I_N, I_le (by omega) (by omega) (by omega) (by omega)]
    omega
theorem ccStep149 {B : Nat} {m : mMi} {w l n bd lm dp cl a : Nat} {β : Nat → Int32} {W : Nat → Nat} (hB : B ≤ 900000000) (h₂ : ccLd B m w l n bd lm dp cl β W) (h₃ : a < n) (h₄ : m 0 0 13 a = I (-1)) (p : Nat) :
    ∃ o : Bool × Nat, p < 96 → o.2 ≤ 1800 ∧
      (∀ mc, ccGc m mc → ∃ m₁, ccGc m m₁ ∧ ∀ f x2 x3 rs, ccX3 x3 → F149_39 (f + 1) (N a) x2 x3 (N p) mc rs = if o.1 = true ∧ ¬ N o.2 ≤ x3 then F149_39 f (N a) (N p) (N o.2) (N (p + 1)) m₁ rs else F149_39 f (N a) x2 x3 (N (p + 1)) m₁ rs) ∧
      (∀ mm, ccGd m mm → ∃ m₂, ccGd m m₂ ∧ ∀ f x2 x3 rs, ccX3 x3 → F277_17 (f + 1) (N a) x2 x3 (N p) mm rs = if o.1 = true ∧ ¬ N o.2 ≤ x3 then F277_17 f (N a) (N p) (N o.2) (N (p + 1)) m₂ rs else F277_17 f (N a) x2 x3 (N (p + 1)) m₂ rs) := by
  have qr : ccRu m 0 w l n := h₂.2.2.1.1
  have b₁ : w ≤ 12 := qr.2.2.2.2.1
  have b₂ : l ≤ 8 := qr.2.2.2.2.2.2.1
  have b₃ : n ≤ 40 := qr.2.2.2.2.2.2.2
  have wk : ccWok n W := h₂.2.2.1.2.2.2.2.2.2.2.2.1
  obtain ⟨h', t', q₁, q₂, _⟩ := ccLd_R h₂
  by_cases h₁ : p < 96
  rotate_left
  · exact ⟨(false, 0), fun y₁ => absurd y₁ h₁⟩
  have e₀ : ¬ N 96 ≤ N p := by rw [N_le (by omega) (by omega)]; omega
  have wm : ∀ mm, ccGd m mm → ccWm mm w l n W (m 0 0) := fun mm g => ⟨⟨by rw [g.1 4 0 0 2 (by unfold ccJk; omega)]; exact h₂.2.2.1.2.1.1, by rw [g.1 4 0 0 3 (by unfold ccJk; omega)]; exact h₂.2.2.1.2.1.2.1, by rw [g.1 4 0 0 8 (by unfold ccJk; omega)]; exact h₂.2.2.1.2.1.2.2.1, qr.2.2.2⟩, fun y y₁ => by
    have y₂ := q₁.1 y y₁
    have y₃ := ccEq_3 g.1
    rw [y₃ _ (by omega), y₃ _ (by omega), y₃ _ (by omega), y₃ _ (by omega), y₃ _ (by omega)]
    exact y₂, fun k y₁ => by rw [g.1 4 0 2 k (by unfold ccJk; omega)]; exact h₂.2.2.1.2.2.2.2.2.2.2.1 k y₁⟩
  have ru : ∀ mc, ccGc m mc → ccRu mc 0 w l n := fun mc g => ⟨by rw [g.1 1 0 1 0 (by unfold ccJk; omega)]; exact qr.1, by rw [g.1 1 0 1 1 (by unfold ccJk; omega)]; exact qr.2.1, by rw [g.1 1 0 0 4 (by unfold ccJk; omega)]; exact qr.2.2.1, qr.2.2.2⟩
  have cls : ∀ mc f x2 x3 rs, ccGc m mc → F149_39 (f + 1) (N a) x2 x3 (N p) mc rs = bI (rI (ccT (ccMayLay (m 0 0) w l (p / 12) (p % 12))) mc rs) (fun v4 m4 r4 => mifO (decide (v4 = (N 0))) (F149_39 f (N a) x2 x3 (N (p + 1)) m4 r4) (bI (F150 (N p) (N a) m4 r4) (fun v5 m5 r5 => mifO (decide (v5 ≤ x3)) (F149_39 f (N a) x2 x3 (N (p + 1)) m5 r5) (F149_39 f (N a) (N p) v5 (N (p + 1)) m5 r5)))) := fun mc f x2 x3 rs g => by
    rw [ccL149_39, ccIte, if_neg e₀, ccE111 (by omega), ccBi, ccE112 (by omega), ccBi, ccE16 (i := 1) (ru mc g) (by omega) (by omega), ccMayLay_ag g.2.2 b₁ b₂, N_add]
  have mdl : ∀ mm f x2 x3 rs, ccGd m mm → F277_17 (f + 1) (N a) x2 x3 (N p) mm rs = bI (rI (ccT (ccPl w l (p / 12) (p % 12))) mm rs) (fun v4 m4 r4 => mifO (decide (v4 = (N 0))) (F277_17 f (N a) x2 x3 (N (p + 1)) m4 r4) (bI (F209 (N (p / 12)) (N (p % 12)) m4 r4) (fun v5 m5 r5 => mifO (decide (v5 ≠ (N 0))) (bI (F278 (N p) (N a) m5 r5) (fun v6 m6 r6 => mifO (decide (v6 ≤ x3)) (F277_17 f (N a) x2 x3 (N (p + 1)) m6 r6) (F277_17 f (N a) (N p) v6 (N (p + 1)) m6 r6))) (F277_17 f (N a) x2 x3 (N (p + 1)) m5 r5)))) := fun mm f x2 x3 rs g => by
    have y₁ : mm 4 0 3 (9 + 6 * a) = N 0 := by
      rw [ccEq_3 g.1 _ (by omega)]
      exact ccRC_hand q₁.2.2.1 h₃ h₄
    have y₂ : N p / N 12 = N (p / 12) := N_div (by omega) (by omega) (by omega)
    have y₃ : N p - N (p / 12) * N 12 = N (p % 12) := by
      rw [N_mul, N_sub (by omega)]
      congr 1
      omega
    rw [ccL277_17, ccIte, if_neg e₀, ccE204b (by omega), ccBi, y₁, ccIf0, y₂, y₃, ccE199 (wm mm g).1 (by omega) (by omega), N_add]
  cases g₁ : ccMayLay (m 0 0) w l (p / 12) (p % 12)
  · refine ⟨(false, 0), fun _ => ⟨by omega, fun mc g => ⟨mc, g, fun f x2 x3 rs _ => ?_⟩, fun mm g => ⟨mm, g, fun f x2 x3 rs _ => ?_⟩⟩⟩
    · rw [cls mc f x2 x3 rs g, g₁, ccBi, ccT_f, ccIf0e, if_neg (fun y₁ => by cases y₁.1)]
    · rw [mdl mm f x2 x3 rs g, if_neg (fun y₁ => by cases y₁.1)]
      cases g₂ : ccPl w l (p / 12) (p % 12)
      · rw [ccBi, ccT_f, ccIf0e]
      · have y₁ : p / 12 < l := by
          unfold ccPl at g₂
          simp only [Bool.and_eq_true, decide_eq_true_eq] at g₂
          exact g₂.1
        rw [ccBi, ccT_t, ccIf1e, ccE209 (wm mm g) y₁ (by omega), g₁, ccBi, ccT_f, ccIf0]
  · obtain ⟨D, d₁, d₂, d₃, d₄, d₅, d₆⟩ := ccSafR hB h₂ h₃ h₄ h₁ g₁
    obtain ⟨q, q₃, q₄, q₅, q₆⟩ := ccSafC h₂ h₃ h₄ h₁ g₁ d₁ d₂ d₃ d₄
    obtain ⟨h, t, s, r⟩ := d₂
    obtain ⟨z, z₁, z₂, z₃⟩ := ccRv_b r d₅ wk b₁ b₂ b₃ q₃ (ccP_t q₄)
    have pl : ccPl w l (p / 12) (p % 12) = true := by
      cases g₂ : ccPl w l (p / 12) (p % 12)
      · cases y₁ : p / 12 with
        | zero => rw [y₁] at g₁; cases g₁
        | succ K =>
          rw [y₁] at g₁ g₂
          have y₂ : (ccPl w l (K + 1) (p % 12) && !(ccHF (m 0 0) w l (K + 1) (p % 12)) && ccHP (m 0 0) w l K (p % 12) && ccHP (m 0 0) w l K (p % 12 + 1)) = true := g₁
          rw [g₂] at y₂
          cases y₂
      · rfl
    have pl' : p / 12 < l := by
      unfold ccPl at pl
      simp only [Bool.and_eq_true, decide_eq_true_eq] at pl
      exact pl.1
    rcases Classical.em (ccQt W D w l) with qt | qt
    · have z₄ : 0 ≤ z := by
        have y₁ := qt q q₃
        unfold ccBdl at y₁
        rw [q₄, z₁] at y₁
        rcases Classical.em (0 ≤ z) with y₂ | y₂
        · exact y₂
        · rw [decide_eq_true (by rw [← I_N, I_lt (by omega) (by omega) (by omega) (by omega)]; omega : I z < N 0)] at y₁
          cases y₁
      have z₅ : I z = N z.toNat := by
        rw [← I_N]
        congr 1
        omega
      have mn : ccMnr (ccP D) (ccRv W D w l) 96 0 (N 2147483647) = N z.toNat := by
        have y₁ := ccMnr_b (P := ccP D) (r := ccRv W D w l) (fun y y₁ y₂ => by
          obtain ⟨x, x₁, x₂, x₃⟩ := ccRv_b r d₅ wk b₁ b₂ b₃ y₁ (ccP_t y₂)
          rw [x₁, ← I_N, I_lt (by omega) (by omega) (by omega) (by omega)]
          omega) 96 0 (I (-1)) (N 2147483647) (by omega) (Or.inl rfl) (by rw [if_pos rfl])
        have nq : ¬ N q = I (-1) := fun y₂ => (ccNm (by omega)).mp y₂
        have y₂ : ccBst (ccP D) (fun p q => decide (ccRv W D w l p < ccRv W D w l q)) 96 0 (I (-1)) = N q := q₅
        rw [y₁, y₂, if_neg nq, mix_N (by omega), z₁, z₅]
      refine ⟨(true, z.toNat), fun _ => ⟨by show z.toNat ≤ 1800; omega, fun mc g => ?_, fun mm g => ?_⟩⟩
      · obtain ⟨m₁, c₁, c₂⟩ := q₆ mc g
        refine ⟨m₁, c₂, fun f x2 x3 rs y₁ => ?_⟩
        rw [cls mc f x2 x3 rs g, g₁, ccBi, ccT_t, ccIf1e, c₁, ccBi, z₁, z₅, ccIte]
        by_cases y₂ : N z.toNat ≤ x3
        · rw [if_pos y₂, if_neg (fun y₃ => y₃.2 y₂)]
        · rw [if_neg y₂, if_pos ⟨rfl, y₂⟩]
      · obtain ⟨m₂, c₁, c₂⟩ := (d₆ mm g).1 qt
        refine ⟨m₂, c₂, fun f x2 x3 rs y₁ => ?_⟩
        rw [mdl mm f x2 x3 rs g, pl, ccBi, ccT_t, ccIf1e, ccE209 (wm mm g) pl' (by omega), g₁, ccBi, ccT_t, ccIf1, c₁, ccBi, mn, ccIte]
        by_cases y₂ : N z.toNat ≤ x3
        · rw [if_pos y₂, if_neg (fun y₃ => y₃.2 y₂)]
        · rw [if_neg y₂, if_pos ⟨rfl, y₂⟩]
    · have z₄ : z < 0 := by
        rcases Classical.em (∃ u, u < 96 ∧ ccBdl W D w l u = true) with ⟨u, u₁, u₂⟩ | y₁
        · unfold ccBdl at u₂
          simp only [Bool.and_eq_true, decide_eq_true_eq] at u₂
          obtain ⟨y, y₁, _, y₃⟩ := ccBst_min (P := ccP D) (r := ccRv W D w l) 96 0 (I (-1)) (by omega) (Or.inl rfl) (fun u y₁ _ => by omega) u (by omega) u₂.1
          have y₄ : y = q := ccNinj (Eq.trans y₁.symm q₅) (by omega) (by omega)
          subst y₄
          obtain ⟨x, x₁, x₂, x₃⟩ := ccRv_b r d₅ wk b₁ b₂ b₃ u₁ (ccP_t u₂.1)
          have x₄ := u₂.2
          rw [x₁, z₁, I_lt (by omega) (by omega) (by omega) (by omega)] at y₃
          rw [x₁, ← I_N, I_lt (by omega) (by omega) (by omega) (by omega)] at x₄
          omega
        · refine absurd (fun u u₁ => ?_) qt
          cases y₂ : ccBdl W D w l u
          · rfl
          · exact absurd ⟨u, u₁, y₂⟩ y₁
      refine ⟨(false, 0), fun _ => ⟨by omega, fun mc g => ?_, fun mm g => ?_⟩⟩
      · obtain ⟨m₁, c₁, c₂⟩ := q₆ mc g
        refine ⟨m₁, c₂, fun f x2 x3 rs y₁ => ?_⟩
        rw [cls mc f x2 x3 rs g, g₁, ccBi, ccT_t, ccIf1e, c₁, ccBi, z₁, ccIte, if_pos (ccX3_neg y₁ z₄ (by omega)), if_neg (fun y₃ => by cases y₃.1)]
      · obtain ⟨m₂, c₁, c₂⟩ := (d₆ mm g).2 qt
        refine ⟨m₂, c₂, fun f x2 x3 rs y₁ => ?_⟩
        rw [mdl mm f x2 x3 rs g, pl, ccBi, ccT_t, ccIf1e, ccE209 (wm mm g) pl' (by omega), g₁, ccBi, ccT_t, ccIf1, c₁, ccBi, ccIte, if_pos (ccX3_neg y₁ (by omega) (by omega)), if_neg (fun y₃ => by cases y₃.1)]
def ccSfe (o : Nat → Bool × Nat) : Nat → Nat → Int32 → Int32 → Int32
  | 0, _, x2, _ => x2
  | d + 1, p, x2, x3 => if (o p).1 = true ∧ ¬ N (o p).2 ≤ x3 then ccSfe o d (p + 1) (N p) (N (o p).2) else ccSfe o d (p + 1) x2 x3
theorem ccSfe_f {P : Nat → Bool} {x2 : Int32} (h₁ : ccBs P x2) : ccBs (fun _ => true) x2 := by
  rcases h₁ with e₁ | ⟨q, e₁, e₂, _⟩
  · exact Or.inl e₁
  · exact Or.inr ⟨q, e₁, e₂, rfl⟩
theorem ccL149 {m : mMi} {a : Nat} {o : Nat → Bool × Nat} (ho : ∀ p, p < 96 → (o p).2 ≤ 1800 ∧ ∀ mc, ccGc m mc → ∃ m₁, ccGc m m₁ ∧ ∀ f x2 x3 rs, ccX3 x3 → F149_39 (f + 1) (N a) x2 x3 (N p) mc rs = if (o p).1 = true ∧ ¬ N (o p).2 ≤ x3 then F149_39 f (N a) (N p) (N (o p).2) (N (p + 1)) m₁ rs else F149_39 f (N a) x2 x3 (N (p + 1)) m₁ rs) : ∀ d p x2 x3 mc, p + d = 96 → ccBs (fun _ => true) x2 → ccX3 x3 → ccGc m mc →
    ∃ m₁, ccGc m m₁ ∧ ∀ f rs, F149_39 (f + d + 1) (N a) x2 x3 (N p) mc rs = rI (ccCode (ccSfe o d p x2 x3)) m₁ rs := by
  intro d
  induction d with
  | zero =>
    intro p x2 x3 mc g₁ g₂ g₃ g₄
    have e₀ : N 96 ≤ N p := by rw [N_le (by omega) (by omega)]; omega
    refine ⟨mc, g₄, fun f rs => ?_⟩
    rw [ccL149_39, ccIte, if_pos e₀, ccE131 g₂, ccBi]
    rfl
  | succ d i₁ =>
    intro p x2 x3 mc g₁ g₂ g₃ g₄
    obtain ⟨o₁, o₂⟩ := ho p (by omega)
    obtain ⟨m₁, c₁, c₂⟩ := o₂ mc g₄
    by_cases y₁ : (o p).1 = true ∧ ¬ N (o p).2 ≤ x3
    · obtain ⟨m₂, k₁, k₂⟩ := i₁ (p + 1) (N p) (N (o p).2) m₁ (by omega) (Or.inr ⟨p, by omega, rfl, rfl⟩) (Or.inr ⟨_, rfl, o₁⟩) c₁
      refine ⟨m₂, k₁, fun f rs => ?_⟩
      have e₁ : f + (d + 1) + 1 = f + d + 1 + 1 := by omega
      rw [e₁, c₂ _ _ _ rs g₃, if_pos y₁, k₂]
      show _ = rI (ccCode (if (o p).1 = true ∧ ¬ N (o p).2 ≤ x3 then ccSfe o d (p + 1) (N p) (N (o p).2) else ccSfe o d (p + 1) x2 x3)) m₂ rs
      rw [if_pos y₁]
    · obtain ⟨m₂, k₁, k₂⟩ := i₁ (p + 1) x2 x3 m₁ (by omega) g₂ g₃ c₁
      refine ⟨m₂, k₁, fun f rs => ?_⟩
      have e₁ : f + (d + 1) + 1 = f + d + 1 + 1 := by omega
      rw [e₁, c₂ _ _ _ rs g₃, if_neg y₁, k₂]
      show _ = rI (ccCode (if (o p).1 = true ∧ ¬ N (o p).2 ≤ x3 then ccSfe o d (p + 1) (N p) (N (o p).2) else ccSfe o d (p + 1) x2 x3)) m₂ rs
      rw [if_neg y₁]
theorem ccL277 {m : mMi} {a : Nat} {o : Nat → Bool × Nat} (ho : ∀ p, p < 96 → (o p).2 ≤ 1800 ∧ ∀ mm, ccGd m mm → ∃ m₁, ccGd m m₁ ∧ ∀ f x2 x3 rs, ccX3 x3 → F277_17 (f + 1) (N a) x2 x3 (N p) mm rs = if (o p).1 = true ∧ ¬ N (o p).2 ≤ x3 then F277_17 f (N a) (N p) (N (o p).2) (N (p + 1)) m₁ rs else F277_17 f (N a) x2 x3 (N (p + 1)) m₁ rs) : ∀ d p x2 x3 mm, p + d = 96 → ccBs (fun _ => true) x2 → ccX3 x3 → ccGd m mm →
    ∃ m₁, ccGd m m₁ ∧ ∀ f rs, F277_17 (f + d + 1) (N a) x2 x3 (N p) mm rs = rI (ccCode (ccSfe o d p x2 x3)) m₁ rs := by
  intro d
  induction d with
  | zero =>
    intro p x2 x3 mc g₁ g₂ g₃ g₄
    have e₀ : N 96 ≤ N p := by rw [N_le (by omega) (by omega)]; omega
    refine ⟨mc, g₄, fun f rs => ?_⟩
    rw [ccL277_17, ccIte, if_pos e₀, ccE252 g₂, ccBi]
    rfl
  | succ d i₁ =>
    intro p x2 x3 mc g₁ g₂ g₃ g₄
    obtain ⟨o₁, o₂⟩ := ho p (by omega)
    obtain ⟨m₁, c₁, c₂⟩ := o₂ mc g₄
    by_cases y₁ : (o p).1 = true ∧ ¬ N (o p).2 ≤ x3
    · obtain ⟨m₂, k₁, k₂⟩ := i₁ (p + 1) (N p) (N (o p).2) m₁ (by omega) (Or.inr ⟨p, by omega, rfl, rfl⟩) (Or.inr ⟨_, rfl, o₁⟩) c₁
      refine ⟨m₂, k₁, fun f rs => ?_⟩
      have e₁ : f + (d + 1) + 1 = f + d + 1 + 1 := by omega
      rw [e₁, c₂ _ _ _ rs g₃, if_pos y₁, k₂]
      show _ = rI (ccCode (if (o p).1 = true ∧ ¬ N (o p).2 ≤ x3 then ccSfe o d (p + 1) (N p) (N (o p).2) else ccSfe o d (p + 1) x2 x3)) m₂ rs
      rw [if_pos y₁]
    · obtain ⟨m₂, k₁, k₂⟩ := i₁ (p + 1) x2 x3 m₁ (by omega) g₂ g₃ c₁
      refine ⟨m₂, k₁, fun f rs => ?_⟩
      have e₁ : f + (d + 1) + 1 = f + d + 1 + 1 := by omega
      rw [e₁, c₂ _ _ _ rs g₃, if_neg y₁, k₂]
      show _ = rI (ccCode (if (o p).1 = true ∧ ¬ N (o p).2 ≤ x3 then ccSfe o d (p + 1) (N p) (N (o p).2) else ccSfe o d (p + 1) x2 x3)) m₂ rs
      rw [if_neg y₁]
theorem ccOk_149 {B : Nat} {m : mMi} {x : Int32} (hB : B ≤ 900000000) (h₁ : ccTop B m) : ccOk B (F149 x) (F277 x) [(1, 1), (2, 2)] m := by
  rcases h₁.2.2.2 with h₃ | ⟨w, l, n, bd, lm, dp, cl, β, W, h₂⟩
  · exact ccOk_un (b := N 0) h₁ h₃ (List.mem_cons_self) (fun rs e₁ => by unfold F149 F120; rw [e₁]; rfl) (fun rs e₁ => by unfold F277 F238; rw [e₁]; rfl)
  have qr : ccRu m 0 w l n := h₂.2.2.1.1
  have b₃ : n ≤ 40 := qr.2.2.2.2.2.2.2
  have qm := h₂.2.2.1.2.1
  rcases Classical.em (∃ a, x = N a ∧ a < n) with ⟨a, e₁, e₂⟩ | g
  rotate_left
  · refine ccOk_x (E := 2) (c := 2) (b := N 0) (m₂ := mset (ccM0 m) 4 0 0 0 (N 2)) h₁ (List.mem_cons_of_mem _ List.mem_cons_self) (fun rs => ?_) (fun rs => ?_) ccT0s (ccEq_t (ccEq_t ccEq_rfl))
    · unfold F149
      rw [ccE120f h₂.1 qr g, ccBvX]
    · unfold F277
      rw [ccE238f h₂.2.1 qm g, ccBi, ccIf1e]
  subst e₁
  obtain ⟨h, t, q₁, _⟩ := ccLd_R h₂
  have hd : decide (m 0 0 13 a = I (-1)) = ccHeld (m 0 0) a := rfl
  obtain ⟨g, hg⟩ := ccFU (k := 96) (by omega)
  cases g₁ : ccHeld (m 0 0) a
  · have y₁ : ccM0 m 4 0 3 (9 + 6 * a) ≠ N 0 := by
      rcases ccHeldm q₁.2.2.1 e₂ with ⟨y₂, _⟩ | ⟨_, y₂⟩
      · rw [g₁] at y₂
        cases y₂
      · rw [ccM0_r (by omega)]
        exact y₂
    have y₂ : ¬ N 96 ≤ N 0 := by rw [N_le (by omega) (by omega)]; omega
    have y₃ : ccCode (I (-1)) = I (-1) := by unfold ccCode; rw [if_pos rfl]
    refine ccOk_q (v := I (-1)) (m₁ := m) (m₂ := ccM0 m) h₁ (fun rs => ?_) (fun rs => ?_) ccT0s ccEq_rfl (ccEq_t ccEq_rfl) (fun _ _ _ => rfl)
    · unfold F149
      rw [ccE120t h₂.1 qr e₂, ccBv, ccE2 (by omega), hd, g₁, ccBi, ccT_f, ccIf0]
    · unfold F277
      rw [ccE238t h₂.2.1 qm e₂, ccBi, ccIf0e, hg, ccL277_17, ccIte, if_neg y₂, ccE204b (by omega), ccBi, ccIte, if_pos y₁, ccE252 (P := fun _ => true) (Or.inl rfl), ccBi, y₃]
  · have h₄ : m 0 0 13 a = I (-1) := of_decide_eq_true g₁
    obtain ⟨o, ho⟩ := Classical.axiomOfChoice (ccStep149 hB h₂ e₂ h₄)
    obtain ⟨mk, k₁, k₂, k₃⟩ := ccE18 (m := m) (i := 1) (i₂ := 0) (by omega)
    have gk : ccGc m mk := ⟨fun f b j p y₁ => by unfold ccJk at y₁; rw [k₂ f b j p (by omega)], fun b j p => k₂ 4 b j p (by omega), k₃⟩
    obtain ⟨m₁, a₁, a₂⟩ := ccL149 (m := m) (a := a) (o := o) (fun p y₁ => ⟨(ho p y₁).1, (ho p y₁).2.1⟩) 96 0 (I (-1)) (I (-1)) mk (by omega) (Or.inl rfl) (Or.inl rfl) gk
    obtain ⟨m₂, c₁, c₂⟩ := ccL277 (m := m) (a := a) (o := o) (fun p y₁ => ⟨(ho p y₁).1, (ho p y₁).2.2⟩) 96 0 (I (-1)) (I (-1)) (ccM0 m₁) (by omega) (Or.inl rfl) (Or.inl rfl) ⟨ccEq_t a₁.1, ccT0s⟩
    refine ccOk_gd (v := ccCode (ccSfe o 96 0 (I (-1)) (I (-1)))) (m₁ := m₁) (m₂ := m₂) h₁ (fun rs => ?_) (fun rs => ?_) a₁.1 a₁.2.1 c₁
    · unfold F149
      rw [ccE120t h₂.1 qr e₂, ccBv, ccE2 (by omega), hd, g₁, ccBi, ccT_t, ccIf1, k₁, ccBv, hg, a₂]
    · unfold F277
      rw [ccE238t (by rw [a₁.2.1]; exact h₂.2.1) (ccMo_4 a₁.2.1 qm) e₂, ccBi, ccIf0e, hg, c₂]
