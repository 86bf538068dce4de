/-! ABOVE: what stands above a pair (class 134, reference 257). -/
theorem ccBiI {x : mRz} {k : Int32 → mMi → mRs → mRz} {k₂ : Int32 → mMi → mRs → mRz} : bI (bI x k) k₂ = bI x (fun v m r => bI (k v m r) k₂) := by
  rcases x with _ | ⟨_ | _, mi, rs⟩
  · rfl
  · rename_i o
    rcases o with _ | o
    · rfl
    · cases o <;> rfl
  · rfl
theorem ccSs0 {x : Int32} : (x - x) - N 0 = N 0 := by
  rw [Int32.sub_self]
  decide
theorem ccE33 {m : mMi} {rs : mRs} {i n : Nat} {W : Nat → Nat} {C : Nat → Nat → Int32} (h₀ : m 0 i = C) (h₁ : ccWt m (RO i) n W) (h₂ : ccCd n C) (h₃ : n ≤ 40) : F33 i m rs = rI (ccSum (ccW1 (fun k => N (W k)) C) 96) m rs := by
  obtain ⟨g, hg⟩ := ccFU (k := 96) (by omega)
  have e₂ := ccL33 h₀ h₁ h₂ h₃ 96 0 g rs (by omega)
  rw [ccSum_congr (g := ccW1 (fun k => N (W k)) C) 96 (fun p _ => ccW1_e)] at e₂
  unfold F33
  rw [hg]
  exact e₂
theorem ccE258 {m : mMi} {rs : mRs} {w l n : Nat} {W : Nat → Nat} (q₀ : ccMo m w l n) (q₁ : ∀ k, k < n → m 4 0 2 k = N (W k)) : F258 m rs = rI (ccSum (ccW2 (fun k => N (W k)) ccX0 (m 4 0 3)) n) m rs := by
  have b₃ : n ≤ 40 := q₀.2.2.2.2.2.2.2
  obtain ⟨g, hg⟩ := ccFU (k := n) (by omega)
  have e₂ := ccL258 q₀ q₁ n 0 g rs (by omega)
  unfold F258
  rw [hg]
  exact e₂
theorem ccW1_ag {wt : Nat → Int32} {C D : Nat → Nat → Int32} (h₁ : ccAg C D) : ccSum (ccW1 wt D) 96 = ccSum (ccW1 wt C) 96 := ccSum_congr 96 (fun p y₁ => by
  have z₁ : ∀ j, 2 ≤ j → j ≤ 6 → D j p = C j p := fun j y₂ y₃ => h₁.1 j p y₂ y₃ y₁
  unfold ccW1
  rw [z₁ 2 (by omega) (by omega), z₁ 3 (by omega) (by omega), z₁ 6 (by omega) (by omega)])
theorem ccTrialA {B : Nat} {m : mMi} {w l n bd lm dp cl : Nat} {β : Nat → Int32} {W : Nat → Nat} {oc om : mMi → mRs → mRz} {ec : List (Nat × Nat)} (h₁ : ccTop B m) (h₂ : ccLd B m w l n bd lm dp cl β W)
    (hop : ∀ mc mm : mMi, mc 0 0 = m 0 0 → ccAg (m 0 0) (mc 0 1) → (∀ j p, mc 1 0 j p = m 1 0 j p) → mm 4 0 3 = m 4 0 3 → (∀ p, 2 ≤ p → p ≤ 8 → mm 4 0 0 p = m 4 0 0 p) → (∀ p, mm 4 0 2 p = m 4 0 2 p) →
      ∃ m₁ m₂ v, (∀ rs, oc mc rs = rI v m₁ rs) ∧ (∀ rs, om mm rs = rI v m₂ rs) ∧ ccFr 1 mc m₁ ∧ ccFq mm m₂) :
    ccOk B (fun m rs => bV (F18 1 0 m rs) oc) (fun m rs => bV (F255 (ccM0 m) rs) (fun m r => bI (om m r) (fun v m r => bV (F256 m r) (fun m r => rI v m r)))) ec m := by
  obtain ⟨mc, k₁, k₂, k₃⟩ := ccE18 (m := m) (i := 1) (i₂ := 0) (by omega)
  have kz : mc 0 0 = m 0 0 := by
    funext j p
    exact k₂ 0 0 j p (by omega)
  have g₂ : ∀ j p, mc 1 0 j p = m 1 0 j p := fun j p => k₂ 1 0 j p (by omega)
  have gm : ∀ M : mMi, (∀ a j p, M 4 a j p = m 4 a j p) → (ccCp (ccM0 M) 4 0 3 0 918 4 0 3 = m 4 0 3) ∧ (∀ p, 2 ≤ p → p ≤ 8 → ccCp (ccM0 M) 4 0 3 0 918 4 0 0 p = m 4 0 0 p) ∧ (∀ p, ccCp (ccM0 M) 4 0 3 0 918 4 0 2 p = m 4 0 2 p) := fun M z₁ => by
    refine ⟨?_, fun p z₂ z₃ => ?_, fun p => ?_⟩
    · funext q
      rw [ccCp_o (by omega), ccM0_r (by omega)]
      exact z₁ 0 3 q
    · rw [ccCp_o (by omega), ccM0_r (by omega)]
      exact z₁ 0 0 p
    · rw [ccCp_o (by omega), ccM0_r (by omega)]
      exact z₁ 0 2 p
  obtain ⟨z₁, z₂, z₃⟩ := gm m (fun _ _ _ => rfl)
  obtain ⟨m₁, m₀, v, a₁, a₂, a₃, a₄⟩ := hop mc (ccCp (ccM0 m) 4 0 3 0 918) kz k₃ g₂ z₁ z₂ z₃
  have f₄ : ∀ a j p, m₁ 4 a j p = m 4 a j p := fun a j p => by rw [a₃ 4 a j p (by omega) (by omega), k₂ 4 a j p (by omega)]
  obtain ⟨z₄, z₅, z₆⟩ := gm m₁ f₄
  obtain ⟨m₃, m₂, u, c₁, c₂, c₃, c₄⟩ := hop mc (ccCp (ccM0 m₁) 4 0 3 0 918) kz k₃ g₂ z₄ z₅ z₆
  obtain ⟨e₁, e₂⟩ := ccInj (v := v) (u := u) (m₁ := m₁) (m₂ := m₃) (fun rs => by rw [← a₁ rs, ← c₁ rs])
  subst e₁ e₂
  refine ccOk_q (v := v) (m₁ := m₁) (m₂ := ccCp m₂ 3 0 4 0 918) h₁ (fun rs => ?_) (fun rs => ?_) ?_ (fun f a j p y₁ => ?_) (fun f a j p y₁ => ?_) f₄
  · show bV (F18 1 0 m rs) oc = _
    rw [k₁, ccBv, a₁]
  · show bV (F255 (ccM0 m₁) rs) _ = _
    rw [ccE255, ccBv, c₂, ccBi, ccE256, ccBv]
  · rw [ccCp_o (by omega), c₄ 4 0 0 0 (by omega) (by omega), ccCp_o (by omega)]
    exact ccT0s
  · unfold ccJk at y₁
    rw [a₃ f a j p (by omega) (by omega), k₂ f a j p (by omega)]
  · by_cases y₂ : f = 4 ∧ a = 0 ∧ j = 3
    · obtain ⟨y₃, y₄, y₅⟩ := y₂
      subst y₃ y₄ y₅
      have y₆ : p < 918 := by
        unfold ccJk at y₁
        omega
      have e₃ : p = 0 + p := by omega
      have x₁ : ccCp m₂ 3 0 4 0 918 4 0 3 p = m₂ 4 0 4 p := by
        rw [e₃]
        exact ccCp_i y₆
      have x₂ : ccCp (ccM0 m₁) 4 0 3 0 918 4 0 4 p = ccM0 m₁ 4 0 3 p := by
        rw [e₃]
        exact ccCp_i y₆
      rw [x₁, c₄ 4 0 4 p (by omega) (by omega), x₂, ccM0_r (by omega)]
    · unfold ccJk at y₁
      rw [ccCp_o (by omega), c₄ f a j p (by omega) (by omega), ccCp_o (by omega)]
      unfold ccM0
      rw [ccRd, if_neg (by omega)]
theorem ccOk_134 {B : Nat} {m : mMi} {x y : Int32} (hB : B ≤ 900000000) (h₁ : ccTop B m) : ccOk B (F134 x y) (F257 x y) [(1, 1), (2, 2)] m := by
  refine ccOk_place (b := N 0) h₁ (List.mem_cons_self) (List.mem_cons_of_mem _ List.mem_cons_self) (fun m rs => rfl) (fun m rs => rfl) (fun w l n bd lm dp cl β W L c h₂ e₁ e₂ e₃ e₄ => ?_)
  subst e₁ e₂
  have qr : ccRu m 0 w l n := h₂.2.2.1.1
  have b₁ : w ≤ 12 := qr.2.2.2.2.1
  have b₂ : l ≤ 8 := qr.2.2.2.2.2.2.1
  have b₃ : n ≤ 40 := qr.2.2.2.2.2.2.2
  have b₄ : 12 * L + c < 96 := by omega
  have sp : ccSp w l L c = N (12 * L + c) := if_pos ⟨e₃, e₄⟩
  have wt : ccWt m 0 n W := h₂.2.2.1.2.2.2.2.2.2.1
  obtain ⟨hh, tt, q₀, _⟩ := ccLd_R h₂
  have cd : ccCd n (m 0 0) := ccCd_of q₀.2.1
  have rf := q₀.2.2.2.2.2
  unfold ccRF at rf
  have wm : ∀ M : mMi, ccMo4 m M → ccWm (ccM0 M) w l n W (m 0 0) := fun M y₁ => by
    obtain ⟨z₁, z₂, z₃⟩ := ccLd_wm h₂
    have z₄ : ccM0 M 4 0 3 = m 4 0 3 := by
      funext q
      rw [ccM0_r (by omega), y₁]
    exact ⟨ccM0_mo (ccMo_4 y₁ z₁), by rw [z₄]; exact z₂, fun k z₅ => by rw [ccM0_r (by omega), y₁]; exact z₃ k z₅⟩
  cases g : ccHP (m 0 0) w l L c
  · obtain ⟨mc, k₁, k₂, k₃⟩ := ccE18 (m := m) (i := 1) (i₂ := 0) (by omega)
    have y₄ : ccMo4 m mc := fun a j p => k₂ 4 a j p (by omega)
    have kz : mc 0 0 = m 0 0 := by
      funext j p
      exact k₂ 0 0 j p (by omega)
    have w₁ : ccWt mc 0 n W := fun k y₁ => Eq.trans (k₂ 1 0 4 k (by omega)) (wt k y₁)
    have cd₁ : ccCd n (mc 0 1) := by
      refine ⟨fun p y₁ y₂ => ?_, fun p y₁ y₂ => ?_⟩
      · rw [k₃.1 2 p (by omega) (by omega) y₁] at y₂ ⊢
        rw [k₃.1 3 p (by omega) (by omega) y₁]
        exact cd.1 p y₁ y₂
      · rw [k₃.1 6 p (by omega) (by omega) y₁] at y₂ ⊢
        exact cd.2 p y₁ y₂
    have f₁ : ∀ rs, F33 1 mc rs = rI (ccSum (ccW1 (fun k => N (W k)) (m 0 0)) 96) mc rs := fun rs => by
      rw [ccE33 (C := mc 0 1) rfl w₁ cd₁ b₃, ccW1_ag k₃]
    have g₁ : ccP (m 0 0) (12 * L + c) = false := by
      have g₂ := g
      unfold ccHP ccPl at g₂
      rw [decide_eq_true e₃, decide_eq_true e₄] at g₂
      exact g₂
    have g₃ : ccWP W (m 0 0) (12 * L + c) = 0 := by
      unfold ccWP
      rw [g₁]
      rfl
    refine ccOk_q (v := N 0) (m₁ := mc) (m₂ := ccM0 mc) h₁ (fun rs => ?_) (fun rs => ?_) ccT0s (fun f a j p y₁ => ?_) (ccEq_t ccEq_rfl) y₄
    · have d₁ : ccRu mc (RO 1) w l n := ⟨Eq.trans (k₂ 1 0 1 0 (by omega)) qr.1, Eq.trans (k₂ 1 0 1 1 (by omega)) qr.2.1, Eq.trans (k₂ 1 0 0 4 (by omega)) qr.2.2.1, qr.2.2.2⟩
      have d₂ : ∀ rs, F26 1 (N L) (N c) (N 0) (I (-1)) mc rs = rV mc rs := fun rs => by
        unfold F26
        exact ccNoP (f := 19) d₁ (by omega) (by omega) (by rw [ccHP_ag k₃ b₁ b₂]; exact g)
      have d₃ : ∀ rs, F32 1 (N L) (N c) mc rs = rI (mc 0 1 7 2 - mc 0 1 7 2) mc rs := fun rs => by
        unfold F32
        rw [d₂, ccBv]
      show bI (F81 0 (N L) (N c) m rs) _ = _
      rw [ccE81 qr (by omega) (by omega), ccBi, k₁, ccBv, d₃, ccBi, ccE33 (i := 0) kz w₁ cd b₃, ccBi, f₁, ccBi, sp, ccE22 kz w₁ cd b₃ b₄, ccBi, g₃, ccSs0]
    · show bI (F198 (N L) (N c) (ccM0 mc) rs) _ = _
      rw [ccE198' (wm mc y₄) (by omega) (by omega), g, ccBi]
      rfl
    · unfold ccJk at y₁
      rw [k₂ f a j p (by omega)]
  · obtain ⟨_, _, g₀⟩ := ccHP_t g
    have g₁ : ccP (m 0 0) (12 * L + c) = true := by unfold ccP; rw [decide_eq_false g₀]; rfl
    have g₂ : ccWP W (m 0 0) (12 * L + c) = W (mix (m 0 0 2 (12 * L + c))) + W (mix (m 0 0 3 (12 * L + c))) := by unfold ccWP; rw [g₁]; rfl
    refine ccOk_imp (ccTrialA (oc := fun m r => bI (F32 1 (N L) (N c) m r) (fun v4 m4 r4 => bI (F33 0 m4 r4) (fun v5 m5 r5 => bI (F33 1 m5 r5) (fun v6 m6 r6 => bI (F22 0 (N (12 * L + c)) m6 r6) (fun v7 m7 r7 => rI ((v5 - v6) - v7) m7 r7))))) (om := fun M r => bV (F222 (N (12 * L + c)) (N 0) (N 0) (I (-1)) M r) (fun m₅ r₅ => bI (F258 m₅ r₅) (fun v₅ m₆ r₆ => rI ((ccSum (ccW2 (fun k => N (W k)) ccX0 (m 4 0 3)) n - v₅) - N (W (mix (m 0 0 2 (12 * L + c))) + W (mix (m 0 0 3 (12 * L + c))))) m₆ r₆))) h₁ h₂ (fun mc mm kz g₁ g₅ g₃ g₄ g₆ => ?_)) (fun rs => ?_) (fun M rs y₁ => ?_)
    · obtain ⟨h, t, j₁, _⟩ := ccJ_tr hB h₂ g₁ g₅ g₃ g₄ g₆
      obtain ⟨m₁, m₂, a₁, a₂, a₃, _⟩ := ccFallP (L := L) (c := c) (cs := 0) (x := I (-1)) j₁.1 e₃ e₄ (by rw [g₁.1 2 _ (by omega) (by omega) (by omega)]; exact g₀) (by omega)
      obtain ⟨⟨u, v, i₁, _⟩, f₁, f₂, _⟩ := a₃
      have r₁ := i₁.2.2.2.2.2.1
      have rg := r₁.2.2.2.2.2
      unfold ccRF at rg
      have z₀ : m₁ 0 0 = m 0 0 := by
        rw [← kz]
        funext j p
        exact f₁ 0 0 j p (by omega) (by omega)
      have w₁ : ccWt m₁ 0 n W := fun k y₁ => by rw [f₁ 1 0 4 k (by omega) (by omega), g₅]; exact wt k y₁
      have w₂ : ∀ k, k < n → m₂ 4 0 2 k = N (W k) := fun k y₁ => by rw [f₂ 4 0 2 k (by omega) (by omega)]; exact j₁.2.2.2.1 k y₁
      have d₃ : ∀ rs, F32 1 (N L) (N c) mc rs = rI (m₁ 0 1 7 2 - mc 0 1 7 2) m₁ rs := fun rs => by
        unfold F32
        rw [a₁, ccBv]
      refine ⟨m₁, m₂, (ccSum (ccW1 (fun k => N (W k)) (m 0 0)) 96 - ccSum (ccW1 (fun k => N (W k)) (m₁ 0 1)) 96) - N (W (mix (m 0 0 2 (12 * L + c))) + W (mix (m 0 0 3 (12 * L + c)))), fun rs => ?_, fun rs => ?_, f₁, f₂⟩
      · show bI (F32 1 (N L) (N c) mc rs) _ = _
        rw [d₃, ccBi, ccE33 (i := 0) z₀ w₁ cd b₃, ccBi, ccE33 (i := 1) (C := m₁ 0 1) rfl w₁ (ccCd_of r₁.2.1) b₃, ccBi, ccE22 z₀ w₁ cd b₃ b₄, ccBi, g₂]
      · show bV (F222 (N (12 * L + c)) (N 0) (N 0) (I (-1)) mm rs) _ = _
        rw [a₂, ccBv, ccE258 i₁.2.2.1 w₂, ccBi, rf, rg]
    · show bI (F81 0 (N L) (N c) m rs) _ = _
      rw [ccE81 qr (by omega) (by omega), ccBi, sp]
    · show bI (F198 (N L) (N c) (ccM0 M) rs) _ = bV (F255 (ccM0 M) rs) _
      have z₁ : ccT true = N 1 := rfl
      have z₄ : ccM0 M 4 0 3 = m 4 0 3 := by
        funext q
        rw [ccM0_r (by omega), y₁]
      rw [ccE198' (wm M y₁) (by omega) (by omega), g, ccBi, z₁, ccIf1, ccE200, ccBi, ccE216 (wm M y₁) cd b₄ g₀, ccBi, ccE258 (wm M y₁).1 (wm M y₁).2.2, ccBi, ccE255, ccBv, ccBv, ccE200, ccBi, z₄]
      simp only [ccBvI, ccBiI, ccBi]
