/-! CALLS: takeDown, lift. -/
theorem ccHP_mono {C D : Nat → Nat → Int32} {w l L c : Nat} (h₁ : ∀ q, D 2 q = C 2 q ∨ D 2 q = I (-1)) (h₂ : ccHP D w l L c = true) : ccHP C w l L c = true ∧ D 2 (12 * L + c) = C 2 (12 * L + c) := by
  obtain ⟨g₁, g₂, g₃⟩ := ccHP_t h₂
  rcases h₁ (12 * L + c) with y₁ | y₁
  · exact ⟨ccHP_i g₁ g₂ (by rw [← y₁]; exact g₃), y₁⟩
  · exact absurd y₁ g₃
theorem ccHF_mono {C D : Nat → Nat → Int32} {w l L c : Nat} (h₁ : ∀ q, D 6 q = C 6 q ∨ D 6 q = I (-1)) (h₂ : ccHF D w l L c = true) : ccHF C w l L c = true ∧ D 6 (12 * L + c) = C 6 (12 * L + c) := by
  obtain ⟨g₁, g₂, g₃⟩ := ccHF_t h₂
  rcases h₁ (12 * L + c) with y₁ | y₁
  · exact ⟨ccHF_i g₁ g₂ (by rw [← y₁]; exact g₃), y₁⟩
  · exact absurd y₁ g₃
theorem ccFL_mono {W : Nat → Nat} {C D : Nat → Nat → Int32} {w l : Nat} (h₁ : ∀ q, D 2 q = C 2 q ∨ D 2 q = I (-1)) (h₂ : ∀ q, D 6 q = C 6 q ∨ D 6 q = I (-1)) (h₃ : ∀ q, D 3 q = C 3 q) : ∀ d L c, ccFL W D w l d L c ≤ ccFL W C w l d L c := by
  intro d
  induction d with
  | zero => intro L c; exact Nat.le_refl 0
  | succ d i₁ =>
    intro L c
    unfold ccFL
    cases g₁ : ccHF D w l L c
    · rw [if_neg (by decide)]
      exact Nat.zero_le _
    · obtain ⟨g₂, g₃⟩ := ccHF_mono h₂ g₁
      rw [if_pos rfl, g₂, if_pos rfl, g₃]
      cases g₄ : ccHP D w l L c
      · rw [if_neg (by decide)]
        omega
      · obtain ⟨g₅, g₆⟩ := ccHP_mono h₁ g₄
        rw [if_pos rfl, g₅, if_pos rfl, g₆, h₃]
        have g₇ := i₁ (L + 1) c
        cases c with
        | zero =>
          show _ + (_ + (0 + _)) ≤ _ + (_ + (0 + _))
          omega
        | succ c₁ =>
          have g₈ := i₁ (L + 1) c₁
          show _ + (_ + (ccFL W D w l d (L + 1) c₁ / 2 + _)) ≤ _ + (_ + (ccFL W C w l d (L + 1) c₁ / 2 + _))
          omega
theorem ccPL_mono {W : Nat → Nat} {C D : Nat → Nat → Int32} {w l d L c : Nat} (h₁ : ∀ q, D 2 q = C 2 q ∨ D 2 q = I (-1)) (h₂ : ∀ q, D 6 q = C 6 q ∨ D 6 q = I (-1)) (h₃ : ∀ q, D 3 q = C 3 q) : ccPL W D w l d L c ≤ ccPL W C w l d L c := by
  have g₇ := ccFL_mono (W := W) (w := w) (l := l) h₁ h₂ h₃ d (L + 1) c
  unfold ccPL
  cases c with
  | zero =>
    show 0 + _ ≤ 0 + _
    omega
  | succ c₁ =>
    have g₈ := ccFL_mono (W := W) (w := w) (l := l) h₁ h₂ h₃ d (L + 1) c₁
    show ccFL W D w l d (L + 1) c₁ / 2 + _ ≤ ccFL W C w l d (L + 1) c₁ / 2 + _
    omega
/-- strengths are small and not negative -/
theorem ccSB_b {z a : Nat} (h₁ : z ≤ 18) (h₂ : 20 ≤ a) (h₃ : a ≤ 70) : ∃ v, ccSB (N z) (N a) = N v ∧ v ≤ 72 := by
  obtain ⟨k, e₁, e₂⟩ : ∃ k, (if 0 ≤ N a - N 45 then N a - N 45 else 0 - (N a - N 45)) = N k ∧ k ≤ 25 := by
    have z₀ : (0 : Int32) = I 0 := rfl
    have e₀ : N a - N 45 = I ((a : Int) - (45 : Nat)) := by rw [← I_N, ← I_N, I_sub]
    rw [e₀]
    by_cases g₁ : 45 ≤ a
    · refine ⟨a - 45, ?_, by omega⟩
      rw [if_pos (by rw [z₀, I_le (by omega) (by omega) (by omega) (by omega)]; omega), ← I_N]
      congr 1
      omega
    · refine ⟨45 - a, ?_, by omega⟩
      rw [if_neg (by rw [z₀, I_le (by omega) (by omega) (by omega) (by omega)]; omega), z₀, I_sub, ← I_N]
      congr 1
      omega
  have e₃ : N 100 - N 2 * N k = N (100 - 2 * k) := by rw [N_mul, N_sub (by omega)]
  obtain ⟨v, hv⟩ : ∃ v, v = z * (100 - 2 * k) := ⟨_, rfl⟩
  have e₄ : v ≤ 1800 := by
    have y₁ := Nat.mul_le_mul h₁ (by omega : 100 - 2 * k ≤ 100)
    omega
  have e₅ := Nat.div_le_self v 25
  refine ⟨v / 25, ?_, by omega⟩
  unfold ccSB
  rw [e₁, e₃, N_mul, ← hv, N_div (by omega) (by omega) (by omega)]
theorem ccStp_b {n h t p : Nat} {β wt : Nat → Int32} {C : Nat → Nat → Int32} {s : Nat → Int32} (q₁ : ccR ccX0 n β wt h t C s) (q₂ : ccNn C) (b₁ : n ≤ 40) (h₁ : p < 96) (h₂ : C 2 p ≠ I (-1)) : ∃ v, ccStp C p = N v ∧ v ≤ 72 := by
  obtain ⟨z, z₁, z₂, z₃⟩ := ccStf_pos q₁ b₁ h₁ h₂
  obtain ⟨⟨a, a₁, a₂, a₃⟩, _⟩ := q₂ p h₁ h₂
  unfold ccStp
  rw [z₁, a₁]
  exact ccSB_b z₃ a₂ a₃
/-- nobody bears too much, where less lies -/
theorem ccQt_less {n h t w l : Nat} {β wt : Nat → Int32} {W : Nat → Nat} {C D : Nat → Nat → Int32} {s : Nat → Int32} (q₁ : ccR ccX0 n β wt h t C s) (q₂ : ccNn C) (q₃ : ccWok n W) (b₁ : w ≤ 12) (b₂ : l ≤ 8) (b₃ : n ≤ 40) (h₁ : ∀ q, D 2 q = C 2 q ∨ D 2 q = I (-1)) (h₂ : ∀ q, D 6 q = C 6 q ∨ D 6 q = I (-1)) (h₃ : ∀ q, D 3 q = C 3 q) (h₄ : ∀ q, D 4 q = C 4 q) (h₅ : ∀ p, p < 96 → D 2 p ≠ I (-1) → ccStf D p = ccStf C p) (h₆ : ccQt W C w l) : ccQt W D w l := fun p y₁ => by
  have cd := ccCd_of q₁.2.1
  have y₂ := h₆ p y₁
  unfold ccBdl at y₂ ⊢
  cases g₁ : ccP D p
  · rfl
  · have g₂ := ccP_t g₁
    have g₃ : D 2 p = C 2 p := by
      rcases h₁ p with y₃ | y₃
      · exact y₃
      · exact absurd y₃ g₂
    have g₄ : C 2 p ≠ I (-1) := by rw [← g₃]; exact g₂
    have g₅ : ccP C p = true := by unfold ccP; rw [decide_eq_false g₄]; rfl
    obtain ⟨v, v₁, v₂⟩ := ccStp_b q₁ q₂ b₃ y₁ g₄
    have v₃ : ccStp D p = N v := by
      rw [← v₁]
      unfold ccStp
      rw [h₅ p y₁ g₂, h₄]
    have e₁ := ccPL_mono (W := W) (w := w) (l := l) (d := 7 - p / 12) (L := p / 12) (c := p % 12) h₁ h₂ h₃
    have e₂ := ccPL_le (L := p / 12) (c := p % 12) (d := 7 - p / 12) (w := w) (l := l) cd q₃ b₁ b₂ b₃
    rw [g₅] at y₂
    unfold ccRv at y₂ ⊢
    rw [v₁] at y₂
    rw [v₃]
    obtain ⟨x, hx⟩ : ∃ x, x = ccPL W C w l (7 - p / 12) (p / 12) (p % 12) := ⟨_, rfl⟩
    obtain ⟨y, hy⟩ : ∃ y, y = ccPL W D w l (7 - p / 12) (p / 12) (p % 12) := ⟨_, rfl⟩
    rw [← hx] at y₂ e₁ e₂
    rw [← hy] at e₁ ⊢
    have e₃ : N v - N x = I ((v : Int) - (x : Int)) := by rw [← I_N, ← I_N, I_sub]
    have e₄ : N v - N y = I ((v : Int) - (y : Int)) := by rw [← I_N, ← I_N, I_sub]
    rw [e₃] at y₂
    rw [e₄]
    have e₅ : ¬ I ((v : Int) - (x : Int)) < N 0 := fun y₃ => by
      rw [decide_eq_true y₃] at y₂
      cases y₂
    rw [← I_N, I_lt (by omega) (by omega) (by omega) (by omega)] at e₅
    have e₆ : ¬ I ((v : Int) - (y : Int)) < N 0 := by
      rw [← I_N, I_lt (by omega) (by omega) (by omega) (by omega)]
      omega
    rw [decide_eq_false e₆, Bool.and_false]
theorem ccQn_less {x : Int32} {C D : Nat → Nat → Int32} (h₁ : ∀ q, D 2 q = C 2 q ∨ D 2 q = I (-1)) (h₂ : ∀ q, D 4 q = C 4 q) (h₃ : ∀ q, D 5 q = C 5 q) (h₆ : ccQn x C) : ccQn x D := ⟨fun p y₁ => by
  have y₂ := h₆.1 p y₁
  unfold ccBdw ccP at y₂ ⊢
  rw [h₃]
  rcases h₁ p with y₃ | y₃
  · rw [y₃]; exact y₂
  · rw [y₃]; rfl, fun p y₁ y₂ => by
  rw [h₂, h₃]
  rcases h₁ p with y₃ | y₃
  · rw [y₃] at y₂
    exact h₆.2 p y₁ y₂
  · exact absurd y₃ y₂⟩
/-! a flat card is lifted -/
theorem ccE39 {m : mMi} {rs : mRs} {i p a : Nat} (h₁ : p < 96) (h₂ : a < 40) (h₃ : m 0 i 6 p = N a) : F39 i (N p) m rs = rV (mset (mset m 0 i 13 a (I (-1))) 0 i 6 p (I (-1))) rs := by
  have g₁ : ccF (m 0 i) p = true := by
    unfold ccF
    rw [h₃, decide_eq_false (by rw [ccNm (by omega)]; exact fun h => h : ¬ N a = I (-1))]
    rfl
  unfold F39
  rw [ccE52 h₁, ccBi, g₁, ccT_t, ccIf1, ccMckIn h₁ (by omega), mix_N (by omega), h₃, ccMckIn h₂ (by omega), ccMckIn h₁ (by omega), mix_N (by omega)]
theorem ccLift1 {mc mm : mMi} {i w l n bd h t p a : Nat} {β wt : Nat → Int32} {W : Nat → Nat} (q : ccJ mc mm i w l n bd β wt W h t) (b : t ≤ 900000000) (h₁ : p < 96) (h₂ : mc 0 i 6 p = N a) (h₃ : a < n) (h₄ : mc 0 i 2 p = I (-1)) :
    ∃ h', ccJ (mset (mset mc 0 i 13 a (I (-1))) 0 i 6 p (I (-1))) (mset (mset (mset mm 4 0 3 (9 + 6 * a) (N 0)) 4 0 3 (10 + 6 * a) (N 0)) 4 0 3 (632 + p) (I (-1))) i w l n bd β wt W h' t ∧
      (∀ j q, j ≠ 6 → j ≠ 13 → mset (mset mc 0 i 13 a (I (-1))) 0 i 6 p (I (-1)) 0 i j q = mc 0 i j q) ∧ (∀ q, mset (mset mc 0 i 13 a (I (-1))) 0 i 6 p (I (-1)) 0 i 6 q = mc 0 i 6 q ∨ mset (mset mc 0 i 13 a (I (-1))) 0 i 6 p (I (-1)) 0 i 6 q = I (-1)) := by
  have b₃ : n ≤ 40 := q.1.1.2.2.2.2.2.2.2
  have r₀ := q.1.2.2.2.2.2.1
  have h₅ : mc 0 i 6 p ≠ I (-1) := by rw [h₂, ne_eq, ccNm (by omega)]; exact fun h => h
  obtain ⟨x, x₁, x₂, x₃, x₄⟩ := ccR_f r₀ h₁ b₃ h₅
  have x₅ : x = a := ccNinj (by rw [← x₂, h₂]) (by omega) (by omega)
  subst x₅
  obtain ⟨z, z₁, z₂, z₃, z₄⟩ := ccR_a r₀ h₃
  obtain ⟨h', r₁⟩ := ccR_d (X := ccX1 x) (Y := ccX0) (bd := 0) (L := 0) (k := x) (z := z) (g := true) x₄ b₃ h₃ (by simp only [ccX1, decide_true]) (fun j y₁ => by simp only [ccX0, ccX1, y₁, decide_false]) rfl (by simp (disch := omega) only [ccU, if_neg, Nat.reduceEqDiff, eq_self, true_and, and_true, false_and, and_false, if_true, if_false]; exact z₁) z₄
  have cC : mset (mset mc 0 i 13 x (I (-1))) 0 i 6 p (I (-1)) 0 i = ccU (ccU (mc 0 i) 13 x (I (-1))) 6 p (I (-1)) := by simp only [ccU_set]
  have cS : mset (mset (mset mm 4 0 3 (9 + 6 * x) (N 0)) 4 0 3 (10 + 6 * x) (N 0)) 4 0 3 (632 + p) (I (-1)) 4 0 3 = ccV (ccV (ccV (mm 4 0 3) (9 + 6 * x) (N 0)) (10 + 6 * x) (N 0)) (632 + p) (I (-1)) := by simp only [ccV_set]
  have eC : ccKd (ccU (mc 0 i) 6 p (I (-1))) 0 0 x h z true = ccU (ccU (mc 0 i) 13 x (I (-1))) 6 p (I (-1)) := by
    funext j y
    show ccU (ccU (mc 0 i) 6 p (I (-1))) 13 x (I (-1)) j y = _
    unfold ccU
    by_cases y₁ : j = 6 ∧ y = p
    · rw [if_pos y₁, if_neg (by omega), if_pos y₁]
    · simp only [if_neg y₁]
  have eS : ccSd (ccV (mm 4 0 3) (632 + p) (I (-1))) 0 0 x h z true = ccV (ccV (ccV (mm 4 0 3) (9 + 6 * x) (N 0)) (10 + 6 * x) (N 0)) (632 + p) (I (-1)) := by
    funext y
    show ccV (ccV (ccV (mm 4 0 3) (632 + p) (I (-1))) (9 + 6 * x) (N 0)) (10 + 6 * x) (N 0) y = _
    unfold ccV
    by_cases y₁ : y = 632 + p
    · rw [if_pos y₁, if_neg (by omega), if_neg (by omega), if_pos y₁]
    · simp only [if_neg y₁]
  rw [eC, eS] at r₁
  have co : ∀ j y, j ≠ 6 → j ≠ 13 → ccU (ccU (mc 0 i) 13 x (I (-1))) 6 p (I (-1)) j y = mc 0 i j y := fun j y y₁ y₂ => by
    simp (disch := omega) only [ccU, if_neg, Nat.reduceEqDiff, eq_self, true_and, and_true, false_and, and_false, if_true, if_false]
  have c₆ : ∀ y, ccU (ccU (mc 0 i) 13 x (I (-1))) 6 p (I (-1)) 6 y = if y = p then I (-1) else mc 0 i 6 y := fun y => by
    simp (disch := omega) only [ccU, if_neg, Nat.reduceEqDiff, eq_self, true_and, and_true, false_and, and_false, if_true, if_false]
  refine ⟨h', ccJ_new (h' := h') q (ccFr_set (ccFr_set ccFr_rfl)) (ccFq_set (ccFq_set (ccFq_set ccFq_rfl (by omega)) (by omega)) (by omega)) (by rw [cC, cS]; exact r₁) ?_ ?_ b, fun j y y₁ y₂ => by rw [cC]; exact co j y y₁ y₂, fun y => ?_⟩
  · intro y y₁
    rw [cC, co 2 y (by omega) (by omega), c₆]
    refine ⟨(q.1.2.2.2.2.2.2.1 y y₁).1, fun y₂ => ?_⟩
    by_cases y₃ : y = p
    · rw [if_pos y₃] at y₂
      exact absurd rfl y₂
    · rw [if_neg y₃] at y₂
      exact (q.1.2.2.2.2.2.2.1 y y₁).2 y₂
  · intro y y₁ y₂
    obtain ⟨g₁, g₂⟩ := q.2.1 y y₁ y₂
    unfold ccVf at g₁ ⊢
    unfold ccVp at g₂ ⊢
    rw [cC, co 2 y (by omega) (by omega), co 2 (y - 12) (by omega) (by omega), co 2 (y - 11) (by omega) (by omega), c₆]
    by_cases y₃ : y = p
    · subst y₃
      rw [if_pos rfl]
      exact ⟨fun y₄ => y₄.1 rfl, fun y₄ => y₄.1 h₄⟩
    · rw [if_neg y₃]
      exact ⟨g₁, g₂⟩
  · rw [cC, c₆]
    by_cases y₃ : y = p
    · rw [if_pos y₃]
      exact Or.inr rfl
    · rw [if_neg y₃]
      exact Or.inl rfl
theorem ccOk_161 {B : Nat} {m : mMi} {x y : Int32} (hB : B ≤ 900000000) (h₁ : ccTop B m) : ccOk B (F161 x y) (F296 x y) [(1, 1), (2, 2), (3, 3)] m := by
  refine ccOk_place (b := N 0) h₁ (List.mem_cons_self) (List.mem_cons_of_mem _ List.mem_cons_self) (fun m rs => rfl) (fun m rs => rfl) (fun w l n bd lm dp cl β W L c h₂ e₁ e₂ e₃ e₄ => ?_)
  have qr : ccRu m 0 w l n := h₂.2.2.1.1
  have b₁ : w ≤ 12 := qr.2.2.2.2.1
  have b₂ : l ≤ 8 := qr.2.2.2.2.2.2.1
  have b₃ : n ≤ 40 := qr.2.2.2.2.2.2.2
  subst e₁ e₂
  have i₃ : (3, 3) ∈ [(1, 1), (2, 2), (3, 3)] := List.mem_cons_of_mem _ (List.mem_cons_of_mem _ List.mem_cons_self)
  obtain ⟨h', t', q₁, _⟩ := ccLd_R h₂
  have s₀ : ∀ M, ccMo4 m M → ccM0 M 4 0 3 = m 4 0 3 := fun M y₁ => by
    funext q
    rw [ccM0_r (by omega), y₁]
  have wm : ∀ M, ccMo4 m M → ccWm (ccM0 M) w l n W (m 0 0) := fun M y₁ => ⟨ccM0_mo (ccMo_4 y₁ h₂.2.2.1.2.1), by rw [s₀ M y₁]; exact q₁.1, fun k y₂ => by rw [ccM0_r (by omega), y₁]; exact h₂.2.2.1.2.2.2.2.2.2.2.1 k y₂⟩
  have hr : ccMo4 m m := fun _ _ _ => rfl
  cases g₁ : ccHF (m 0 0) w l L c
  · refine ccOk_no (E := 3) (c := 3) h₁ i₃ (fun rs => ?_) (fun rs => ?_)
    · show bI (F14 0 (N L) (N c) m rs) _ = _
      rw [ccE14 (i := 0) qr (by omega) (by omega), g₁, ccBi, ccT_f, ccIf0e, ccE107f, ccBvX]
    · show bI (F202 (N L) (N c) (ccM0 m) rs) _ = _
      rw [ccE202' (wm m hr) (by omega) (by omega), g₁, ccBi, ccT_f, ccIf0e, ccE178t ccT0s (by omega) (by omega), ccBi, ccIf1e]
  cases g₂ : ccHP (m 0 0) w l L c
  rotate_left
  · refine ccOk_no (E := 3) (c := 3) h₁ i₃ (fun rs => ?_) (fun rs => ?_)
    · show bI (F14 0 (N L) (N c) m rs) _ = _
      rw [ccE14 (i := 0) qr (by omega) (by omega), g₁, ccBi, ccT_t, ccIf1e, ccE13 (i := 0) qr (by omega) (by omega), g₂, ccBi, ccT_t, ccIf1, ccE107f, ccBvX]
    · show bI (F202 (N L) (N c) (ccM0 m) rs) _ = _
      rw [ccE202' (wm m hr) (by omega) (by omega), g₁, ccBi, ccT_t, ccIf1e, ccE198' (wm m hr) (by omega) (by omega), g₂, ccBi, ccT_t, ccIf1e, ccE178t ccT0s (by omega) (by omega), ccBi, ccIf1e]
  obtain ⟨_, _, g₀⟩ := ccHF_t g₁
  have g₃ := ccHP_b e₃ e₄ g₂
  have sp : ccSp w l L c = N (12 * L + c) := if_pos ⟨e₃, e₄⟩
  have b₄ : 12 * L + c < 96 := by omega
  obtain ⟨a, a₁, a₂, _⟩ := q₁.2.1.2 (12 * L + c) b₄ g₀
  refine ccOk_imp (ccChange (oc := fun m r => bI (F81 0 (N L) (N c) m r) (fun v m r => bV (F39 0 v m r) (fun m r => bI (F6 0 m r) (fun v m r => rI v m r)))) (om := fun M r => bI (F200 (N L) (N c) M r) (fun v m r => mckO (mIn ((N 632) + v) 918) (bV (F207 (m 4 0 3 (mix ((N 632) + v))) (N 0) (N 0) m r) (fun m6 r6 => mckO (mIn ((N 632) + v) 918) (bI (F232 (mset m6 4 0 3 (mix ((N 632) + v)) (I (-1))) r6) (fun v m r => rI v m r)))))) h₁ h₂ (fun mc mm k₁ k₂ k₃ k₄ k₅ => ?_)) (fun rs => ?_) (fun M rs y₁ => ?_)
  · obtain ⟨h, t, j₁, j₂, j₃, j₄, _⟩ := ccJ_of hB h₂ k₁ k₂ k₃ k₄ k₅
    have c₆ : mc 0 0 6 (12 * L + c) = N a := by rw [k₁]; exact a₂
    have s₆ : mm 4 0 3 (632 + (12 * L + c)) = N a := by rw [(j₁.1.2.2.2.2.2.1.1 _ b₄).2.1]; exact c₆
    obtain ⟨h'', d₁, d₂, d₃⟩ := ccLift1 (p := 12 * L + c) (a := a) j₁ (by omega) b₄ c₆ a₁ (by rw [k₁]; exact g₃)
    have wk : ccWok n W := j₁.2.2.2.2
    have d₄ : ∀ q, mset (mset mc 0 0 13 a (I (-1))) 0 0 6 (12 * L + c) (I (-1)) 0 0 2 q = mc 0 0 2 q := fun q => d₂ 2 q (by omega) (by omega)
    have qt := ccQt_less (D := mset (mset mc 0 0 13 a (I (-1))) 0 0 6 (12 * L + c) (I (-1)) 0 0) j₁.1.2.2.2.2.2.1 j₄.2 wk b₁ b₂ b₃ (fun q => Or.inl (d₄ q)) d₃ (fun q => d₂ 3 q (by omega) (by omega)) (fun q => d₂ 4 q (by omega) (by omega)) (fun p _ _ => by unfold ccStf; rw [d₄, d₂ 3 p (by omega) (by omega), d₂ 11 _ (by omega) (by omega), d₂ 11 _ (by omega) (by omega)]) j₃
    have nn := ccQn_less (D := mset (mset mc 0 0 13 a (I (-1))) 0 0 6 (12 * L + c) (I (-1)) 0 0) (fun q => Or.inl (d₄ q)) (fun q => d₂ 4 q (by omega) (by omega)) (fun q => d₂ 5 q (by omega) (by omega)) j₄
    refine ⟨_, _, N (ccCnt (ccHeld (mset (mset mc 0 0 13 a (I (-1))) 0 0 6 (12 * L + c) (I (-1)) 0 0)) n), fun rs => ?_, fun rs => ?_, ccFr_set (ccFr_set ccFr_rfl), ccFq_set (ccFq_set (ccFq_set ccFq_rfl (by omega)) (by omega)) (by omega), ccKK_of d₁ qt nn (by omega)⟩
    · show bI (F81 0 (N L) (N c) mc rs) _ = _
      rw [ccE81 (r := 0) j₁.1.1 (by omega) (by omega), ccBi, sp, ccE39 b₄ (by omega) c₆, ccBv, ccE6 (i := 0) d₁.1.1, ccBi]
    · show bI (F200 (N L) (N c) mm rs) _ = _
      have n₁ : N 632 + N (12 * L + c) = N (632 + (12 * L + c)) := by rw [N_add]
      rw [ccE200, ccBi, n₁, ccMckIn (by omega) (by omega), mix_N (by omega), s₆, ccE207 (by omega), ccBv, ccMckIn (by omega) (by omega), ccE232 d₁.1.2.2.1 d₁.1.2.2.2.2.2.1.2.2.1, ccBi]
  · show bI (F14 0 (N L) (N c) m rs) _ = _
    rw [ccE14 (i := 0) qr (by omega) (by omega), g₁, ccBi, ccT_t, ccIf1e, ccE13 (i := 0) qr (by omega) (by omega), g₂, ccBi, ccT_f, ccIf0, ccE107t, ccBv]
  · show bI (F202 (N L) (N c) (ccM0 M) rs) _ = _
    rw [ccE202' (wm M y₁) (by omega) (by omega), g₁, ccBi, ccT_t, ccIf1e, ccE198' (wm M y₁) (by omega) (by omega), g₂, ccBi, ccT_f, ccIf0e, ccE178f ccT0s, ccBi, ccIf0e]
