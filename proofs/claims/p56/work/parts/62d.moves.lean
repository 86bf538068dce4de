/-! CALLS: takeDown, smooth. -/
theorem ccE41 {m : mMi} {rs : mRs} {i p a b : Nat} (h₁ : p < 96) (h₂ : a < 40) (h₃ : b < 40) (h₄ : m 0 i 2 p = N a) (h₅ : m 0 i 3 p = N b) : F41 i (N p) m rs = rV (mset (mset (mset m 0 i 13 a (I (-1))) 0 i 13 b (I (-1))) 0 i 2 p (I (-1))) rs := by
  have g₁ : ccP (m 0 i) p = true := by
    unfold ccP
    rw [h₄, decide_eq_false (by rw [ccNm (by omega)]; exact fun h => h : ¬ N a = I (-1))]
    rfl
  unfold F41
  rw [ccE51 h₁, ccBi, g₁, ccT_t, ccIf1, ccMckIn h₁ (by omega), mix_N (by omega), h₄, h₅, ccMckIn h₂ (by omega), ccMckIn h₁ (by omega), ccMckIn h₃ (by omega), ccMckIn h₁ (by omega), mix_N (by omega), mix_N (by omega)]
theorem ccDown1 {mc mm : mMi} {i w l n bd h t p a b : Nat} {β wt : Nat → Int32} {W : Nat → Nat} (q : ccJ mc mm i w l n bd β wt W h t) (bb : t ≤ 900000000) (h₁ : p < 96) (h₂ : mc 0 i 2 p = N a) (h₂' : mc 0 i 3 p = N b) (h₃ : a < n) (h₃' : b < n) (h₄ : p + 12 < 96 → mc 0 i 6 (p + 12) = I (-1)) (h₅ : p + 11 < 96 → 12 ≤ p + 11 → mc 0 i 6 (p + 11) = I (-1)) :
    ∃ h', ccJ (mset (mset (mset mc 0 i 13 a (I (-1))) 0 i 13 b (I (-1))) 0 i 2 p (I (-1))) (mset (mset (mset (mset (mset mm 4 0 3 (9 + 6 * a) (N 0)) 4 0 3 (10 + 6 * a) (N 0)) 4 0 3 (9 + 6 * b) (N 0)) 4 0 3 (10 + 6 * b) (N 0)) 4 0 3 (248 + 4 * p) (I (-1))) i w l n bd β wt W h' t ∧
      (∀ j q, j ≠ 2 → j ≠ 13 → mset (mset (mset mc 0 i 13 a (I (-1))) 0 i 13 b (I (-1))) 0 i 2 p (I (-1)) 0 i j q = mc 0 i j q) ∧ (∀ q, mset (mset (mset mc 0 i 13 a (I (-1))) 0 i 13 b (I (-1))) 0 i 2 p (I (-1)) 0 i 2 q = mc 0 i 2 q ∨ mset (mset (mset mc 0 i 13 a (I (-1))) 0 i 13 b (I (-1))) 0 i 2 p (I (-1)) 0 i 2 q = I (-1)) := by
  have b₃ : n ≤ 40 := q.1.1.2.2.2.2.2.2.2
  have r₀ := q.1.2.2.2.2.2.1
  have h₆ : mc 0 i 2 p ≠ I (-1) := by rw [h₂, ne_eq, ccNm (by omega)]; exact fun h => h
  obtain ⟨x, y, x₁, x₂, x₃, x₄, x₅, x₆, x₇, x₈⟩ := ccR_p r₀ h₁ b₃ h₆
  have x₉ : x = a := ccNinj (by rw [← x₄, h₂]) (by omega) (by omega)
  have y₉ : y = b := ccNinj (by rw [← x₅, h₂']) (by omega) (by omega)
  subst x₉ y₉
  obtain ⟨z, z₁, z₂, z₃, z₄⟩ := ccR_a r₀ h₃
  obtain ⟨v, v₁, v₂, v₃, v₄⟩ := ccR_a r₀ h₃'
  obtain ⟨u₁, r₁⟩ := ccR_d (X := ccX2 x y) (Y := ccX1 y) (bd := 0) (L := 0) (k := x) (z := z) (g := true) x₈ b₃ h₃ (by simp only [ccX2, decide_true, Bool.true_or]) (fun j y₁ => by simp only [ccX1, ccX2, y₁, decide_false, Bool.false_or]) (by simp only [ccX1]; exact decide_eq_false x₃) (by simp (disch := omega) only [ccU, if_neg, Nat.reduceEqDiff, eq_self, true_and, and_true, false_and, and_false, if_true, if_false]; exact z₁) z₄
  have r₂ : ccR (ccX1 y) n β wt u₁ t (ccU (ccU (mc 0 i) 2 p (I (-1))) 13 x (I (-1))) (ccV (ccV (ccV (mm 4 0 3) (248 + 4 * p) (I (-1))) (9 + 6 * x) (N 0)) (10 + 6 * x) (N 0)) := r₁
  obtain ⟨h', r₃⟩ := ccR_d (X := ccX1 y) (Y := ccX0) (bd := 0) (L := 0) (k := y) (z := v) (g := true) r₂ b₃ h₃' (by simp only [ccX1, decide_true]) (fun j y₁ => by simp only [ccX0, ccX1, y₁, decide_false]) rfl (by simp (disch := omega) only [ccU, if_neg, Nat.reduceEqDiff, eq_self, true_and, and_true, false_and, and_false, if_true, if_false]; exact v₁) v₄
  have cC : mset (mset (mset mc 0 i 13 x (I (-1))) 0 i 13 y (I (-1))) 0 i 2 p (I (-1)) 0 i = ccU (ccU (ccU (mc 0 i) 13 x (I (-1))) 13 y (I (-1))) 2 p (I (-1)) := by simp only [ccU_set]
  have cS : mset (mset (mset (mset (mset mm 4 0 3 (9 + 6 * x) (N 0)) 4 0 3 (10 + 6 * x) (N 0)) 4 0 3 (9 + 6 * y) (N 0)) 4 0 3 (10 + 6 * y) (N 0)) 4 0 3 (248 + 4 * p) (I (-1)) 4 0 3 = ccV (ccV (ccV (ccV (ccV (mm 4 0 3) (9 + 6 * x) (N 0)) (10 + 6 * x) (N 0)) (9 + 6 * y) (N 0)) (10 + 6 * y) (N 0)) (248 + 4 * p) (I (-1)) := by simp only [ccV_set]
  have r₄ : ccR ccX0 n β wt h' t (ccU (ccU (ccU (mc 0 i) 2 p (I (-1))) 13 x (I (-1))) 13 y (I (-1))) (ccV (ccV (ccV (ccV (ccV (mm 4 0 3) (248 + 4 * p) (I (-1))) (9 + 6 * x) (N 0)) (10 + 6 * x) (N 0)) (9 + 6 * y) (N 0)) (10 + 6 * y) (N 0)) := r₃
  have eC : ccU (ccU (ccU (mc 0 i) 2 p (I (-1))) 13 x (I (-1))) 13 y (I (-1)) = ccU (ccU (ccU (mc 0 i) 13 x (I (-1))) 13 y (I (-1))) 2 p (I (-1)) := by
    funext j k
    unfold ccU
    by_cases y₁ : j = 2 ∧ k = p
    · rw [if_pos y₁, if_neg (by omega), if_neg (by omega), if_pos y₁]
    · simp only [if_neg y₁]
  have eS : ccV (ccV (ccV (ccV (ccV (mm 4 0 3) (248 + 4 * p) (I (-1))) (9 + 6 * x) (N 0)) (10 + 6 * x) (N 0)) (9 + 6 * y) (N 0)) (10 + 6 * y) (N 0) = ccV (ccV (ccV (ccV (ccV (mm 4 0 3) (9 + 6 * x) (N 0)) (10 + 6 * x) (N 0)) (9 + 6 * y) (N 0)) (10 + 6 * y) (N 0)) (248 + 4 * p) (I (-1)) := by
    funext k
    unfold ccV
    by_cases y₁ : k = 248 + 4 * p
    · rw [if_pos y₁, if_neg (by omega), if_neg (by omega), if_neg (by omega), if_neg (by omega), if_pos y₁]
    · simp only [if_neg y₁]
  rw [eC, eS] at r₄
  have co : ∀ j k, j ≠ 2 → j ≠ 13 → ccU (ccU (ccU (mc 0 i) 13 x (I (-1))) 13 y (I (-1))) 2 p (I (-1)) j k = mc 0 i j k := fun j k y₁ y₂ => by
    simp (disch := omega) only [ccU, if_neg, Nat.reduceEqDiff, eq_self, true_and, and_true, false_and, and_false, if_true, if_false]
  have c₂ : ∀ k, ccU (ccU (ccU (mc 0 i) 13 x (I (-1))) 13 y (I (-1))) 2 p (I (-1)) 2 k = if k = p then I (-1) else mc 0 i 2 k := fun k => by
    simp (disch := omega) only [ccU, if_neg, Nat.reduceEqDiff, eq_self, true_and, and_true, false_and, and_false, if_true, if_false]
  refine ⟨h', ccJ_new (h' := h') q (ccFr_set (ccFr_set (ccFr_set ccFr_rfl))) (ccFq_set (ccFq_set (ccFq_set (ccFq_set (ccFq_set ccFq_rfl (by omega)) (by omega)) (by omega)) (by omega)) (by omega)) (by rw [cC, cS]; exact r₄) ?_ ?_ bb, fun j k y₁ y₂ => by rw [cC]; exact co j k y₁ y₂, fun k => ?_⟩
  · intro k y₁
    rw [cC, co 6 k (by omega) (by omega), c₂]
    refine ⟨fun y₂ => ?_, (q.1.2.2.2.2.2.2.1 k y₁).2⟩
    by_cases y₃ : k = p
    · rw [if_pos y₃] at y₂
      exact absurd rfl y₂
    · rw [if_neg y₃] at y₂
      exact (q.1.2.2.2.2.2.2.1 k y₁).1 y₂
  · intro k y₁ y₂
    obtain ⟨g₁, g₂⟩ := q.2.1 k y₁ y₂
    unfold ccVf at g₁ ⊢
    unfold ccVp at g₂ ⊢
    rw [cC, co 6 k (by omega) (by omega), c₂, c₂, c₂]
    refine ⟨fun y₃ => ?_, fun y₃ => ?_⟩
    · obtain ⟨y₄, y₅⟩ := y₃
      rcases y₅ with y₅ | y₅
      · by_cases y₆ : k - 12 = p
        · have y₇ : k = p + 12 := by omega
          exact y₄ (by rw [y₇]; exact h₄ (by omega))
        · rw [if_neg y₆] at y₅
          exact g₁ ⟨y₄, Or.inl y₅⟩
      · by_cases y₆ : k - 11 = p
        · have y₇ : k = p + 11 := by omega
          exact y₄ (by rw [y₇]; exact h₅ (by omega) (by omega))
        · rw [if_neg y₆] at y₅
          exact g₁ ⟨y₄, Or.inr y₅⟩
    · by_cases y₆ : k = p
      · rw [if_pos y₆] at y₃
        exact y₃.1 rfl
      · rw [if_neg y₆] at y₃
        exact g₂ y₃
  · rw [cC, c₂]
    by_cases y₃ : k = p
    · rw [if_pos y₃]
      exact Or.inr rfl
    · rw [if_neg y₃]
      exact Or.inl rfl
/-- nothing lies on the pair -/
def ccFree (C : Nat → Nat → Int32) (w l L c : Nat) : Bool := (match c with
  | 0 => true
  | c₁ + 1 => !(ccHF C w l (L + 1) c₁)) && !(ccHF C w l (L + 1) c)
theorem ccFree_0 {C : Nat → Nat → Int32} {w l L : Nat} : ccFree C w l L 0 = (true && !(ccHF C w l (L + 1) 0)) := rfl
theorem ccFree_s {C : Nat → Nat → Int32} {w l L c : Nat} : ccFree C w l L (c + 1) = (!(ccHF C w l (L + 1) c) && !(ccHF C w l (L + 1) (c + 1))) := rfl
theorem ccE40 {m : mMi} {rs : mRs} {i w l n L c : Nat} (q₁ : ccRu m (RO i) w l n) (h₁ : L < 100) (h₂ : c < 100) : F40 i (N L) (N c) m rs = rI (ccT (ccFree (m 0 i) w l L c)) m rs := by
  have e₁ : N L + N 1 = N (L + 1) := by rw [N_add]
  unfold F40
  cases c with
  | zero =>
    have e₂ : N 0 - N 1 = I (-1) := rfl
    rw [ccFree_0, e₁, e₂, ccE14m, ccBi, ccT_f, ccIf0, ccE14 q₁ (by omega) (by omega), ccBi]
    cases g₁ : ccHF (m 0 i) w l (L + 1) 0
    · rfl
    · rfl
  | succ c₁ =>
    have e₂ : N (c₁ + 1) - N 1 = N c₁ := by rw [N_sub (by omega), Nat.add_sub_cancel]
    rw [ccFree_s, e₁, e₂, ccE14 q₁ (by omega) (by omega), ccBi]
    cases g₁ : ccHF (m 0 i) w l (L + 1) c₁
    · rw [ccT_f, ccIf0, ccE14 q₁ (by omega) (by omega), ccBi]
      cases g₂ : ccHF (m 0 i) w l (L + 1) (c₁ + 1)
      · rfl
      · rfl
    · rfl
/-- the same question in the reference, in two steps -/
theorem ccFr2 {m : mMi} {w l n L c : Nat} {W : Nat → Nat} {C : Nat → Nat → Int32} {A D : mMi → mRs → mRz} (q₁ : ccWm m w l n W C) (h₁ : L < 8) (h₂ : c < 100) (rs : mRs) :
    bI (F202 (N L + N 1) (N c - N 1) m rs) (fun v m r => mifO (decide (v ≠ N 0)) (A m r) (bI (F202 (N L + N 1) (N c) m r) (fun v m r => mifO (decide (v = N 0)) (D m r) (A m r)))) = if ccFree C w l L c = true then D m rs else A m rs := by
  have e₁ : N L + N 1 = N (L + 1) := by rw [N_add]
  cases c with
  | zero =>
    have e₃ : ∀ rs, F202 (N L + N 1) (N 0 - N 1) m rs = rI (ccT false) m rs := fun rs => ccE202n q₁.1 h₁
    rw [ccFree_0, e₃, ccBi, ccT_f, ccIf0, e₁, ccE202' q₁ (by omega) (by omega), ccBi]
    cases g₁ : ccHF C w l (L + 1) 0
    · rfl
    · rfl
  | succ c₁ =>
    have e₂ : N (c₁ + 1) - N 1 = N c₁ := by rw [N_sub (by omega), Nat.add_sub_cancel]
    rw [ccFree_s, e₁, e₂, ccE202' q₁ (by omega) (by omega), ccBi]
    cases g₁ : ccHF C w l (L + 1) c₁
    · rw [ccT_f, ccIf0, ccE202' q₁ (by omega) (by omega), ccBi]
      cases g₂ : ccHF C w l (L + 1) (c₁ + 1)
      · rfl
      · rfl
    · rfl
theorem ccFree_t {C : Nat → Nat → Int32} {w l L c : Nat} (q : ccPlc w l C) (b₁ : w ≤ 12) (h₁ : L + c < w) (h₂ : ccFree C w l L c = true) : (12 * L + c + 12 < 96 → C 6 (12 * L + c + 12) = I (-1)) ∧ (12 * L + c + 11 < 96 → 12 ≤ 12 * L + c + 11 → C 6 (12 * L + c + 11) = I (-1)) := by
  unfold ccFree at h₂
  simp only [Bool.and_eq_true, Bool.not_eq_true'] at h₂
  obtain ⟨g₁, g₂⟩ := h₂
  have e₁ : 12 * L + c + 12 = 12 * (L + 1) + c := by omega
  refine ⟨fun y₁ => ?_, fun y₁ y₂ => ?_⟩
  · rcases Classical.em (C 6 (12 * L + c + 12) = I (-1)) with y₃ | y₃
    · exact y₃
    · obtain ⟨y₄, y₅, y₆⟩ := (q _ y₁).2 y₃
      rw [ccHF_i (L := L + 1) (c := c) (by omega) (by omega) (by rw [← e₁]; exact y₃)] at g₂
      cases g₂
  · rcases Classical.em (C 6 (12 * L + c + 11) = I (-1)) with y₃ | y₃
    · exact y₃
    · obtain ⟨y₄, y₅, y₆⟩ := (q _ y₁).2 y₃
      cases c with
      | zero => omega
      | succ c₁ =>
        have e₂ : 12 * L + (c₁ + 1) + 11 = 12 * (L + 1) + c₁ := by omega
        have g₃ : (!(ccHF C w l (L + 1) c₁)) = true := g₁
        rw [ccHF_i (L := L + 1) (c := c₁) (by omega) (by omega) (by rw [← e₂]; exact y₃)] at g₃
        cases g₃
theorem ccOk_160 {B : Nat} {m : mMi} {x y : Int32} (hB : B ≤ 900000000) (h₁ : ccTop B m) : ccOk B (F160 x y) (F295 x y) [(1, 1), (2, 2), (3, 3)] m := by
  refine ccOk_place (b := N 0) h₁ (List.mem_cons_self) (List.mem_cons_of_mem _ List.mem_cons_self) (fun m rs => rfl) (fun m rs => rfl) (fun w l n bd lm dp cl β W L c h₂ e₁ e₂ e₃ e₄ => ?_)
  have qr : ccRu m 0 w l n := h₂.2.2.1.1
  have b₁ : w ≤ 12 := qr.2.2.2.2.1
  have b₂ : l ≤ 8 := qr.2.2.2.2.2.2.1
  have b₃ : n ≤ 40 := qr.2.2.2.2.2.2.2
  subst e₁ e₂
  have i₃ : (3, 3) ∈ [(1, 1), (2, 2), (3, 3)] := List.mem_cons_of_mem _ (List.mem_cons_of_mem _ List.mem_cons_self)
  obtain ⟨h', t', q₁, q₂, _⟩ := ccLd_R h₂
  have s₀ : ∀ M, ccMo4 m M → ccM0 M 4 0 3 = m 4 0 3 := fun M y₁ => by
    funext q
    rw [ccM0_r (by omega), y₁]
  have wm : ∀ M, ccMo4 m M → ccWm (ccM0 M) w l n W (m 0 0) := fun M y₁ => ⟨ccM0_mo (ccMo_4 y₁ h₂.2.2.1.2.1), by rw [s₀ M y₁]; exact q₁.1, fun k y₂ => by rw [ccM0_r (by omega), y₁]; exact h₂.2.2.1.2.2.2.2.2.2.2.1 k y₂⟩
  have hr : ccMo4 m m := fun _ _ _ => rfl
  cases g₁ : ccHP (m 0 0) w l L c
  · refine ccOk_no (E := 3) (c := 3) h₁ i₃ (fun rs => ?_) (fun rs => ?_)
    · show bI (F13 0 (N L) (N c) m rs) _ = _
      rw [ccE13 (i := 0) qr (by omega) (by omega), g₁, ccBi, ccT_f, ccIf0e, ccE107f, ccBvX]
    · show bI (F198 (N L) (N c) (ccM0 m) rs) _ = _
      rw [ccE198' (wm m hr) (by omega) (by omega), g₁, ccBi, ccT_f, ccIf0e, ccE178t ccT0s (by omega) (by omega), ccBi, ccIf1e]
  cases g₂ : ccFree (m 0 0) w l L c
  · refine ccOk_no (E := 3) (c := 3) h₁ i₃ (fun rs => ?_) (fun rs => ?_)
    · show bI (F13 0 (N L) (N c) m rs) _ = _
      rw [ccE13 (i := 0) qr (by omega) (by omega), g₁, ccBi, ccT_t, ccIf1e, ccE40 (i := 0) qr (by omega) (by omega), g₂, ccBi, ccT_f, ccIf0e, ccE107f, ccBvX]
    · show bI (F198 (N L) (N c) (ccM0 m) rs) _ = _
      rw [ccE198' (wm m hr) (by omega) (by omega), g₁, ccBi, ccT_t, ccIf1e, ccFr2 (wm m hr) (by omega) (by omega), g₂, if_neg (by decide), ccE178t ccT0s (by omega) (by omega), ccBi, ccIf1e]
  obtain ⟨_, _, g₀⟩ := ccHP_t g₁
  have sp : ccSp w l L c = N (12 * L + c) := if_pos ⟨e₃, e₄⟩
  have b₄ : 12 * L + c < 96 := by omega
  obtain ⟨a, b, a₁, a₂, a₃, a₄, a₅, _⟩ := q₁.2.1.1 (12 * L + c) b₄ g₀
  obtain ⟨f₁, f₂⟩ := ccFree_t q₂ b₁ e₄ g₂
  refine ccOk_imp (ccChange (oc := fun m r => bI (F81 0 (N L) (N c) m r) (fun v m r => bV (F41 0 v m r) (fun m r => bI (F6 0 m r) (fun v m r => rI v m r)))) (om := fun M r => bI (F200 (N L) (N c) M r) (fun v m r => bI (F201 v (N 0) m r) (fun x m r => bV (F207 x (N 0) (N 0) m r) (fun m r => bI (F201 v (N 1) m r) (fun x m r => bV (F207 x (N 0) (N 0) m r) (fun m r => bV (F206 v (N 0) (I (-1)) m r) (fun m r => bI (F232 m r) (fun v m r => rI v m r)))))))) h₁ h₂ (fun mc mm k₁ k₂ k₃ k₄ k₅ => ?_)) (fun rs => ?_) (fun M rs y₁ => ?_)
  · obtain ⟨h, t, j₁, j₂, j₃, j₄, _⟩ := ccJ_of hB h₂ k₁ k₂ k₃ k₄ k₅
    have c₂ : mc 0 0 2 (12 * L + c) = N a := by rw [k₁]; exact a₄
    have c₃ : mc 0 0 3 (12 * L + c) = N b := by rw [k₁]; exact a₅
    obtain ⟨o₁, _, o₂⟩ := j₁.1.2.2.2.2.2.1.1 _ b₄
    have s₂ : mm 4 0 3 (248 + 4 * (12 * L + c)) = N a := by rw [o₁]; exact c₂
    have s₃ : mm 4 0 3 (249 + 4 * (12 * L + c)) = N b := by rw [(o₂ (by rw [k₁]; exact g₀)).1]; exact c₃
    obtain ⟨h'', d₁, d₂, d₃⟩ := ccDown1 (p := 12 * L + c) (a := a) (b := b) j₁ (by omega) b₄ c₂ c₃ a₁ a₂ (by rw [k₁]; exact f₁) (by rw [k₁]; exact f₂)
    have wk : ccWok n W := j₁.2.2.2.2
    have d₅ : ∀ p, p < 96 → mset (mset (mset mc 0 0 13 a (I (-1))) 0 0 13 b (I (-1))) 0 0 2 (12 * L + c) (I (-1)) 0 0 2 p ≠ I (-1) → ccStf (mset (mset (mset mc 0 0 13 a (I (-1))) 0 0 13 b (I (-1))) 0 0 2 (12 * L + c) (I (-1)) 0 0) p = ccStf (mc 0 0) p := fun p _ y₁ => by
      unfold ccStf
      rcases d₃ p with y₂ | y₂
      · rw [y₂, d₂ 3 p (by omega) (by omega), d₂ 11 _ (by omega) (by omega), d₂ 11 _ (by omega) (by omega)]
      · exact absurd y₂ y₁
    have qt := ccQt_less (D := mset (mset (mset mc 0 0 13 a (I (-1))) 0 0 13 b (I (-1))) 0 0 2 (12 * L + c) (I (-1)) 0 0) j₁.1.2.2.2.2.2.1 j₄.2 wk b₁ b₂ b₃ d₃ (fun q => Or.inl (d₂ 6 q (by omega) (by omega))) (fun q => d₂ 3 q (by omega) (by omega)) (fun q => d₂ 4 q (by omega) (by omega)) d₅ j₃
    have nn := ccQn_less (D := mset (mset (mset mc 0 0 13 a (I (-1))) 0 0 13 b (I (-1))) 0 0 2 (12 * L + c) (I (-1)) 0 0) d₃ (fun q => d₂ 4 q (by omega) (by omega)) (fun q => d₂ 5 q (by omega) (by omega)) j₄
    refine ⟨_, _, N (ccCnt (ccHeld (mset (mset (mset mc 0 0 13 a (I (-1))) 0 0 13 b (I (-1))) 0 0 2 (12 * L + c) (I (-1)) 0 0)) n), fun rs => ?_, fun rs => ?_, ccFr_set (ccFr_set (ccFr_set ccFr_rfl)), ccFq_set (ccFq_set (ccFq_set (ccFq_set (ccFq_set ccFq_rfl (by omega)) (by omega)) (by omega)) (by omega)) (by omega), ccKK_of d₁ qt nn (by omega)⟩
    · show bI (F81 0 (N L) (N c) mc rs) _ = _
      rw [ccE81 (r := 0) j₁.1.1 (by omega) (by omega), ccBi, sp, ccE41 b₄ (by omega) (by omega) c₂ c₃, ccBv, ccE6 (i := 0) d₁.1.1, ccBi]
    · show bI (F200 (N L) (N c) mm rs) _ = _
      have s₄ : mset (mset mm 4 0 3 (9 + 6 * a) (N 0)) 4 0 3 (10 + 6 * a) (N 0) 4 0 3 (249 + 4 * (12 * L + c)) = N b := by
        rw [ccRd, if_neg (by omega), ccRd, if_neg (by omega)]
        exact s₃
      rw [ccE200, ccBi, ccE201a b₄, ccBi, s₂, ccE207 (by omega), ccBv, ccE201b b₄, ccBi, s₄, ccE207 (by omega), ccBv, ccE206a b₄, ccBv, ccE232 d₁.1.2.2.1 d₁.1.2.2.2.2.2.1.2.2.1, ccBi]
  · show bI (F13 0 (N L) (N c) m rs) _ = _
    rw [ccE13 (i := 0) qr (by omega) (by omega), g₁, ccBi, ccT_t, ccIf1e, ccE40 (i := 0) qr (by omega) (by omega), g₂, ccBi, ccT_t, ccIf1e, ccE107t, ccBv]
  · show bI (F198 (N L) (N c) (ccM0 M) rs) _ = _
    rw [ccE198' (wm M y₁) (by omega) (by omega), g₁, ccBi, ccT_t, ccIf1e, ccFr2 (wm M y₁) (by omega) (by omega), g₂, if_pos rfl, ccE178f ccT0s, ccBi, ccIf0e]
/-! a card in hand is smoothed -/
theorem ccR_smooth {n h t a z y : Nat} {β wt : Nat → Int32} {C D : Nat → Nat → Int32} {s u : Nat → Int32} (h₁ : ccR ccX0 n β wt h t C s) (b₁ : n ≤ 40) (b₂ : a < n) (h₂ : C 13 a = I (-1)) (h₃ : C 11 a = N z) (h₄ : s (12 + 6 * a) = N (y + 1)) (h₅ : β a = N (z + (y + 1))) (h₆ : 1 ≤ z) (h₇ : z + (y + 1) ≤ 9)
    (c₁₁ : ∀ q, D 11 q = if q = a then N (z + 1) else C 11 q) (co : ∀ j q, j ≠ 11 → D j q = C j q)
    (s₁ : u (8 + 6 * a) = N (z + 1)) (s₂ : u (12 + 6 * a) = N y) (so : ∀ q, q ≠ 8 + 6 * a → q ≠ 12 + 6 * a → u q = s q) : ccR ccX0 n β wt h t D u := by
  have hn := ccR_h h₁
  obtain ⟨r₁, r₂, r₃, r₄, r₅, r₆⟩ := h₁
  refine ⟨fun q y₁ => ?_, ⟨fun q y₁ y₂ => ?_, fun q y₁ y₂ => ?_⟩, fun k y₁ => ?_, ?_, ccRE_cg r₅ (fun j q y₁ => co j q (by omega)) (fun q y₁ => so q (by omega) (by omega)), ?_⟩
  · rw [so (248 + 4 * q) (by omega) (by omega), so (249 + 4 * q) (by omega) (by omega), so (250 + 4 * q) (by omega) (by omega), so (251 + 4 * q) (by omega) (by omega), so (632 + q) (by omega) (by omega), co 2 q (by omega), co 3 q (by omega), co 4 q (by omega), co 5 q (by omega), co 6 q (by omega)]
    exact r₁ q y₁
  · rw [co 2 q (by omega)] at y₂
    obtain ⟨x, v, f₁, f₂, f₃, f₄, f₅, f₆, f₇, f₈, f₉, f₁₀⟩ := r₂.1 q y₁ y₂
    refine ⟨x, v, f₁, f₂, f₃, by rw [co 2 q (by omega)]; exact f₄, by rw [co 3 q (by omega)]; exact f₅, by rw [co 13 x (by omega)]; exact f₆, by rw [co 13 v (by omega)]; exact f₇, ?_, ?_, f₁₀⟩
    · rw [so _ (by omega) (by omega)]
      exact f₈
    · rw [so _ (by omega) (by omega)]
      exact f₉
  · rw [co 6 q (by omega)] at y₂ ⊢
    obtain ⟨x, f₁, f₂, f₃, f₄, f₅⟩ := r₂.2 q y₁ y₂
    refine ⟨x, f₁, f₂, by rw [co 13 x (by omega)]; exact f₃, ?_, f₅⟩
    rw [so _ (by omega) (by omega)]
    exact f₄
  · obtain ⟨⟨g₁, g₂, g₃⟩, f₂⟩ := r₃ k y₁
    rw [so (9 + 6 * k) (by omega) (by omega), so (10 + 6 * k) (by omega) (by omega), so (11 + 6 * k) (by omega) (by omega), co 12 k (by omega), co 13 k (by omega)]
    refine ⟨⟨?_, g₂, ?_⟩, ?_⟩
    · rw [c₁₁]
      by_cases y₂ : k = a
      · subst y₂
        rw [if_pos rfl]
        exact s₁
      · rw [if_neg y₂, so (8 + 6 * k) (by omega) (by omega)]
        exact g₁
    · rw [c₁₁]
      by_cases y₂ : k = a
      · subst y₂
        have y₃ : z + (y + 1) = z + 1 + y := by omega
        rw [if_pos rfl]
        exact ⟨z + 1, y, rfl, s₂, by rw [h₅, y₃], by omega, by omega⟩
      · rw [if_neg y₂, so (12 + 6 * k) (by omega) (by omega)]
        exact g₃
    · rcases f₂ with f₂ | f₂ | f₂ | ⟨f₂, q, f₃, f₄, f₅, f₆⟩
      · exact Or.inl f₂
      · exact Or.inr (Or.inl f₂)
      · exact Or.inr (Or.inr (Or.inl f₂))
      · refine Or.inr (Or.inr (Or.inr ⟨f₂, q, f₃, f₄, f₅, ?_⟩))
        rw [co 2 q (by omega), co 3 q (by omega), co 6 q (by omega)]
        exact f₆
  · obtain ⟨f₁, f₂, f₃, f₄, f₅⟩ := r₄
    refine ⟨?_, by rw [co 10 5 (by omega)]; exact f₂, by rw [so 7 (by omega) (by omega)]; exact f₃, fun v y₁ => ?_, fun k y₁ => ?_⟩
    · rw [f₁]
      exact ccCnt_congr n fun k _ => by rw [co 13 k (by omega)]
    · rw [so (728 + v) (by omega) (by omega), co 14 v (by omega)]
      exact f₄ v y₁
    · rw [co 13 k (by omega), ← f₅ k y₁]
      exact ccCnt_congr h fun v _ => by rw [co 14 v (by omega)]
  · unfold ccRF at r₆ ⊢
    rw [ccSum_congr (f := ccW1 wt D) (g := ccW1 wt C) 96 (fun p _ => by unfold ccW1; rw [co 2 p (by omega), co 3 p (by omega), co 6 p (by omega)]), ccSum_congr (f := ccW2 wt ccX0 u) (g := ccW2 wt ccX0 s) n (fun k y₁ => by unfold ccW2; rw [so _ (by omega) (by omega)])]
    exact r₆
theorem ccOk_166 {B : Nat} {m : mMi} {x : Int32} (hB : B ≤ 900000000) (h₁ : ccTop B m) : ccOk B (F166 x) (F303 x) [(1, 1), (2, 2), (3, 3)] m := by
  refine ccOk_card (b := N 0) h₁ (List.mem_cons_self) (List.mem_cons_of_mem _ List.mem_cons_self) (fun m rs => rfl) (fun m rs => rfl) (fun w l n bd lm dp cl β W a h₂ e₁ e₂ => ?_)
  have qr : ccRu m 0 w l n := h₂.2.2.1.1
  have b₁ : w ≤ 12 := qr.2.2.2.2.1
  have b₂ : l ≤ 8 := qr.2.2.2.2.2.2.1
  have b₃ : n ≤ 40 := qr.2.2.2.2.2.2.2
  subst e₁
  have i₃ : (3, 3) ∈ [(1, 1), (2, 2), (3, 3)] := List.mem_cons_of_mem _ (List.mem_cons_of_mem _ List.mem_cons_self)
  obtain ⟨h', t', q₁, q₂, _⟩ := ccLd_R h₂
  have s₀ : ∀ M, ccMo4 m M → ccM0 M 4 0 3 = m 4 0 3 := fun M y₁ => by
    funext q
    rw [ccM0_r (by omega), y₁]
  have rc : ∀ M, ccMo4 m M → ccRC ccX0 n β (m 0 0) (ccM0 M 4 0 3) := fun M y₁ => by rw [s₀ M y₁]; exact q₁.2.2.1
  have hr : ccMo4 m m := fun _ _ _ => rfl
  have ha : decide (m 0 0 13 a = I (-1)) = ccHeld (m 0 0) a := rfl
  have k₀ : a < 40 := by omega
  obtain ⟨r₁, r₂, z, y, z₁, z₂, z₃, z₄, z₅⟩ := (q₁.2.2.1 a e₂).1
  have be : m 1 0 3 a = N (z + y) := by rw [h₂.2.2.1.2.2.2.2.2.2.2.2.2.1 a e₂]; exact z₃
  cases g₁ : ccHeld (m 0 0) a
  · refine ccOk_no (E := 3) (c := 3) h₁ i₃ (fun rs => ?_) (fun rs => ?_)
    · show bI (F2 0 (N a) m rs) _ = _
      rw [ccE2 k₀, ha, g₁, ccBi, ccT_f, ccIf0e, ccE107f, ccBvX]
    · show bI (F290 (N a) (ccM0 m) rs) _ = _
      rw [ccE290 (rc m hr) e₂ b₃, g₁, ccBi, ccT_f, ccIf0e, ccE178t ccT0s (by omega) (by omega), ccBi, ccIf1e]
  have u₄ : ∀ M, ccMo4 m M → ccM0 M 4 0 3 (12 + 6 * a) = N y := fun M y₁ => by rw [ccM0_r (by omega), y₁]; exact z₂
  cases y with
  | zero =>
    have y₁ : N (z + 0) ≤ N z := by rw [N_le (by omega) (by omega)]; omega
    refine ccOk_no (E := 3) (c := 3) h₁ i₃ (fun rs => ?_) (fun rs => ?_)
    · show bI (F2 0 (N a) m rs) _ = _
      rw [ccE2 k₀, ha, g₁, ccBi, ccT_t, ccIf1e, ccMckIn k₀ (by omega), ccMckIn k₀ (by omega), mix_N (by omega), be, z₁, ccIte, if_pos y₁, ccE107f, ccBvX]
    · show bI (F290 (N a) (ccM0 m) rs) _ = _
      rw [ccE290 (rc m hr) e₂ b₃, g₁, ccBi, ccT_t, ccIf1e, ccE204e k₀, ccBi, u₄ m hr, ccIf0, ccE178t ccT0s (by omega) (by omega), ccBi, ccIf1e]
  | succ y =>
    have y₁ : ¬ N (z + (y + 1)) ≤ N z := by rw [N_le (by omega) (by omega)]; omega
    have y₀ : N (y + 1) ≠ N 0 := by rw [ne_eq, N_eq (by omega) (by omega)]; omega
    have g₂ : m 0 0 13 a = I (-1) := of_decide_eq_true g₁
    refine ccOk_imp (ccChange (oc := fun m r => mckO (mIn (N a) 40) (mckO (mIn (N a) 40) (mckO (mIn (N a) 40) (rI (mset m 0 0 11 (mix (N a)) (m 0 0 11 (mix (N a)) + N 1) 0 0 11 (mix (N a))) (mset m 0 0 11 (mix (N a)) (m 0 0 11 (mix (N a)) + N 1)) r)))) (om := fun M r => bI (F204 (N a) (N 0) M r) (fun v m r => bV (F195 (N a) (N 0) (v + (N 1)) m r) (fun m r => bI (F204 (N a) (N 4) m r) (fun v m r => bV (F195 (N a) (N 4) (v - (N 1)) m r) (fun m r => bI (F204 (N a) (N 0) m r) (fun v m r => rI v m r)))))) h₁ h₂ (fun mc mm k₁ k₂ k₃ k₄ k₅ => ?_)) (fun rs => ?_) (fun M rs y₂ => ?_)
    · obtain ⟨h, t, j₁, j₂, j₃, j₄, _⟩ := ccJ_of hB h₂ k₁ k₂ k₃ k₄ k₅
      have r₀ := j₁.1.2.2.2.2.2.1
      have c₁ : mc 0 0 11 a = N z := by rw [k₁]; exact z₁
      have c₂ : mm 4 0 3 (12 + 6 * a) = N (y + 1) := by rw [k₃]; exact z₂
      have c₃ : mm 4 0 3 (8 + 6 * a) = N z := by rw [(r₀.2.2.1 a e₂).1.1]; exact c₁
      have n₁ : N z + N 1 = N (z + 1) := by rw [N_add]
      have n₂ : N (y + 1) - N 1 = N y := by rw [N_sub (by omega), Nat.add_sub_cancel]
      have cC : mset mc 0 0 11 a (N (z + 1)) 0 0 = ccU (mc 0 0) 11 a (N (z + 1)) := by simp only [ccU_set]
      have cS : mset (mset mm 4 0 3 (8 + 6 * a) (N (z + 1))) 4 0 3 (12 + 6 * a) (N y) 4 0 3 = ccV (ccV (mm 4 0 3) (8 + 6 * a) (N (z + 1))) (12 + 6 * a) (N y) := by simp only [ccV_set]
      have co : ∀ j q, j ≠ 11 → ccU (mc 0 0) 11 a (N (z + 1)) j q = mc 0 0 j q := fun j q y₁ => by
        simp (disch := omega) only [ccU, if_neg, Nat.reduceEqDiff, eq_self, true_and, and_true, false_and, and_false, if_true, if_false]
      have c₁₁ : ∀ q, ccU (mc 0 0) 11 a (N (z + 1)) 11 q = if q = a then N (z + 1) else mc 0 0 11 q := fun q => by
        simp (disch := omega) only [ccU, if_neg, Nat.reduceEqDiff, eq_self, true_and, and_true, false_and, and_false, if_true, if_false]
      have r₁ := ccR_smooth (a := a) (z := z) (y := y) (D := ccU (mc 0 0) 11 a (N (z + 1))) (u := ccV (ccV (mm 4 0 3) (8 + 6 * a) (N (z + 1))) (12 + 6 * a) (N y)) r₀ b₃ e₂ (by rw [k₁]; exact g₂) c₁ c₂ z₃ z₄ z₅ c₁₁ co (by simp (disch := omega) only [ccV, if_neg, Nat.reduceEqDiff, eq_self, true_and, and_true, false_and, and_false, if_true, if_false]) (by simp (disch := omega) only [ccV, if_neg, Nat.reduceEqDiff, eq_self, true_and, and_true, false_and, and_false, if_true, if_false]) (fun q y₁ y₂ => by simp (disch := omega) only [ccV, if_neg, Nat.reduceEqDiff, eq_self, true_and, and_true, false_and, and_false, if_true, if_false])
      have d₁ : ccJ (mset mc 0 0 11 a (N (z + 1))) (mset (mset mm 4 0 3 (8 + 6 * a) (N (z + 1))) 4 0 3 (12 + 6 * a) (N y)) 0 w l n bd β (fun k => N (W k)) W h t := by
        refine ccJ_new (h' := h) j₁ (ccFr_set ccFr_rfl) (ccFq_set (ccFq_set ccFq_rfl (by omega)) (by omega)) (by rw [cC, cS]; exact r₁) (fun p y₁ => ?_) (fun p y₁ y₂ => ?_) (by omega)
        · rw [cC, co 2 p (by omega), co 6 p (by omega)]
          exact j₁.1.2.2.2.2.2.2.1 p y₁
        · have y₃ := j₁.2.1 p y₁ y₂
          unfold ccVf ccVp at y₃ ⊢
          rw [cC, co 2 p (by omega), co 2 (p - 12) (by omega), co 2 (p - 11) (by omega), co 6 p (by omega)]
          exact y₃
      have st : ∀ p, p < 96 → ccU (mc 0 0) 11 a (N (z + 1)) 2 p ≠ I (-1) → ccStf (ccU (mc 0 0) 11 a (N (z + 1))) p = ccStf (mc 0 0) p := fun p y₁ y₂ => by
        rw [co 2 p (by omega)] at y₂
        obtain ⟨v, v', v₁, v₂, v₃, v₄, v₅, v₆, v₇, _⟩ := r₀.2.1.1 p y₁ y₂
        have ne : ∀ k, mc 0 0 13 k = N p → k ≠ a := fun k y₃ y₄ => by
          have y₅ : mc 0 0 13 a = I (-1) := by rw [k₁]; exact g₂
          rw [y₄, y₅, ccMN (by omega)] at y₃
          exact y₃
        unfold ccStf
        rw [co 2 p (by omega), co 3 p (by omega), v₄, v₅, mix_N (by omega), mix_N (by omega), c₁₁, c₁₁, if_neg (ne v v₆), if_neg (ne v' v₇)]
      have qt := ccQt_less (D := ccU (mc 0 0) 11 a (N (z + 1))) r₀ j₄.2 j₁.2.2.2.2 b₁ b₂ b₃ (fun q => Or.inl (co 2 q (by omega))) (fun q => Or.inl (co 6 q (by omega))) (fun q => co 3 q (by omega)) (fun q => co 4 q (by omega)) st j₃
      have nn := ccQn_less (D := ccU (mc 0 0) 11 a (N (z + 1))) (fun q => Or.inl (co 2 q (by omega))) (fun q => co 4 q (by omega)) (fun q => co 5 q (by omega)) j₄
      refine ⟨mset mc 0 0 11 a (N (z + 1)), mset (mset mm 4 0 3 (8 + 6 * a) (N (z + 1))) 4 0 3 (12 + 6 * a) (N y), N (z + 1), fun rs => ?_, fun rs => ?_, ccFr_set ccFr_rfl, ccFq_set (ccFq_set ccFq_rfl (by omega)) (by omega), ccKK_of d₁ (by rw [cC]; exact qt) (by rw [cC]; exact nn) (by omega)⟩
      · show mckO (mIn (N a) 40) _ = _
        rw [ccMckIn k₀ (by omega), ccMckIn k₀ (by omega), ccMckIn k₀ (by omega), mix_N (by omega), c₁, n₁, mset_same]
      · have y₂ : mset mm 4 0 3 (8 + 6 * a) (N (z + 1)) 4 0 3 (12 + 6 * a) = N (y + 1) := by
          rw [ccRd, if_neg (by omega)]
          exact c₂
        have y₃ : mset (mset mm 4 0 3 (8 + 6 * a) (N (z + 1))) 4 0 3 (12 + 6 * a) (N y) 4 0 3 (8 + 6 * a) = N (z + 1) := by
          rw [ccRd, if_neg (by omega), ccRd, if_pos ⟨rfl, rfl, rfl, rfl⟩]
        show bI (F204 (N a) (N 0) mm rs) _ = _
        rw [ccE204a k₀, ccBi, c₃, n₁, ccE195a k₀, ccBv, ccE204e k₀, ccBi, y₂, n₂, ccE195e k₀, ccBv, ccE204a k₀, ccBi, y₃]
    · show bI (F2 0 (N a) m rs) _ = _
      rw [ccE2 k₀, ha, g₁, ccBi, ccT_t, ccIf1e, ccMckIn k₀ (by omega), ccMckIn k₀ (by omega), mix_N (by omega), be, z₁, ccIte, if_neg y₁, ccE107t, ccBv]
    · show bI (F290 (N a) (ccM0 M) rs) _ = _
      rw [ccE290 (rc M y₂) e₂ b₃, g₁, ccBi, ccT_t, ccIf1e, ccE204e k₀, ccBi, u₄ M y₂, ccIte, if_pos y₀, ccE178f ccT0s, ccBi, ccIf0e]
