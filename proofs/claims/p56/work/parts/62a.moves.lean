/-! CALLS: lay, lean, turn. -/
theorem ccJ_new {mc mm m₁ m₂ : mMi} {i w l n bd h h' t : Nat} {β wt : Nat → Int32} {W : Nat → Nat} (q : ccJ mc mm i w l n bd β wt W h t) (h₁ : ccFr i mc m₁) (h₂ : ccFq mm m₂) (r : ccR ccX0 n β wt h' t (m₁ 0 i) (m₂ 4 0 3)) (g₁ : ccPlc w l (m₁ 0 i)) (g₂ : ccStd (m₁ 0 i)) (b : t ≤ 900000000) : ccJ m₁ m₂ i w l n bd β wt W h' t := by
  obtain ⟨⟨q₁, q₂, q₃, q₄, q₅, q₆, q₇, q₈⟩, a₁, a₂, a₃, a₄⟩ := q
  have p₁ := ccPcs_le (C := m₁ 0 i)
  exact ⟨⟨ccRu_fr h₁ q₁, by rw [h₁ 1 (RO i) 1 5 (by omega) (by omega)]; exact q₂, ccMo_fq h₂ q₃, by rw [h₂ 4 0 0 7 (by omega) (by omega)]; exact q₄, q₅, r, g₁, by omega⟩, g₂, fun k y₁ => by rw [h₁ 1 (RO i) 4 k (by omega) (by omega)]; exact a₂ k y₁, fun k y₁ => by rw [h₂ 4 0 2 k (by omega) (by omega)]; exact a₃ k y₁, a₄⟩
theorem ccE17 {m : mMi} {rs : mRs} {i p a : Nat} (h₁ : p < 96) (h₂ : a < 40) : F17 i (N p) (N a) m rs = rV (mset (mset m 0 i 6 p (N a)) 0 i 13 a (N p)) rs := by
  unfold F17
  simp (disch := omega) only [true_and, and_true, false_and, and_false, if_true, if_false, ccIte, ccBi, ccBiX, ccBv, ccBvX, ccZ0, ccZ1, ccTZ, ccT0, ccT1, Bool.or_false, ccMckT, ccMckIn, ne_eq, not_true_eq_false, not_false_eq_true, if_pos, if_neg, reduceIte, eq_self, Bool.false_eq_true, Bool.true_eq_false, mix_N, N_add, N_mul, N_sub, N_div, ccMod, N_lt, N_le, N_eq, ccNm, ccMN, ccNm2, ccM2N, ccMM2, ccM2M, ccMlt, ccMle, ccNltM, ccNleM, ccM2lt, ccM2le, ccNlt2, ccNle2, Nat.reduceAdd, Nat.reduceMul, Nat.reduceSub, Nat.reduceLT, Nat.reduceLeDiff, Nat.reduceEqDiff, Nat.reduceDiv, Nat.reduceMod]
theorem ccE210 {m : mMi} {rs : mRs} {p a : Nat} (h₁ : p < 96) (h₂ : a < 40) : F210 (N p) (N a) m rs = rV (mset (mset (mset m 4 0 3 (632 + p) (N a)) 4 0 3 (9 + 6 * a) (N 3)) 4 0 3 (10 + 6 * a) (N p)) rs := by
  unfold F210
  simp (disch := omega) only [ccE207, true_and, and_true, false_and, and_false, if_true, if_false, ccIte, ccBi, ccBiX, ccBv, ccBvX, ccZ0, ccZ1, ccTZ, ccT0, ccT1, Bool.or_false, ccMckT, ccMckIn, ne_eq, not_true_eq_false, not_false_eq_true, if_pos, if_neg, reduceIte, eq_self, Bool.false_eq_true, Bool.true_eq_false, mix_N, N_add, N_mul, N_sub, N_div, ccMod, N_lt, N_le, N_eq, ccNm, ccMN, ccNm2, ccM2N, ccMM2, ccM2M, ccMlt, ccMle, ccNltM, ccNleM, ccM2lt, ccM2le, ccNlt2, ccNle2, Nat.reduceAdd, Nat.reduceMul, Nat.reduceSub, Nat.reduceLT, Nat.reduceLeDiff, Nat.reduceEqDiff, Nat.reduceDiv, Nat.reduceMod]
theorem ccE290 {m : mMi} {rs : mRs} {n a : Nat} {β : Nat → Int32} {C : Nat → Nat → Int32} (q₁ : ccRC ccX0 n β C (m 4 0 3)) (h₁ : a < n) (h₂ : n ≤ 40) : F290 (N a) m rs = rI (ccT (ccHeld C a)) m rs := by
  unfold F290
  rw [ccE204b (by omega), ccBi, ccIte]
  rcases ccHeldm q₁ h₁ with ⟨g₁, g₂⟩ | ⟨g₁, g₂⟩
  · rw [g₁, g₂, if_neg (fun h => h rfl)]
    rfl
  · rw [g₁, if_pos g₂]
    rfl
theorem ccMayLay_t {C : Nat → Nat → Int32} {w l L c : Nat} (h₁ : ccMayLay C w l L c = true) : 12 ≤ 12 * L + c ∧ C 6 (12 * L + c) = I (-1) ∧ C 2 (12 * L + c - 12) ≠ I (-1) ∧ C 2 (12 * L + c - 11) ≠ I (-1) := by
  cases L with
  | zero => cases h₁
  | succ K =>
    have h₂ : (ccPl w l (K + 1) c && !(ccHF C w l (K + 1) c) && ccHP C w l K c && ccHP C w l K (c + 1)) = true := h₁
    simp only [Bool.and_eq_true, Bool.not_eq_true'] at h₂
    obtain ⟨⟨⟨g₁, g₂⟩, g₃⟩, g₄⟩ := h₂
    have e₁ : 12 * (K + 1) + c - 12 = 12 * K + c := by omega
    have e₂ : 12 * (K + 1) + c - 11 = 12 * K + (c + 1) := by omega
    rw [e₁, e₂]
    refine ⟨by omega, ?_, (ccHP_t g₃).2.2, (ccHP_t g₄).2.2⟩
    unfold ccPl at g₁
    simp only [Bool.and_eq_true, decide_eq_true_eq] at g₁
    rcases Classical.em (C 6 (12 * (K + 1) + c) = I (-1)) with y₁ | y₁
    · exact y₁
    · rw [ccHF_i g₁.1 g₁.2 y₁] at g₂
      cases g₂
/-- a flat card is laid, on both sides -/
theorem ccLay1 {mc mm : mMi} {i w l n bd h t p a : Nat} {β wt : Nat → Int32} {W : Nat → Nat} (q : ccJ mc mm i w l n bd β wt W h t) (b : t ≤ 900000000) (h₁ : 12 ≤ p) (h₂ : p < 96) (h₃ : a < n) (h₄ : mc 0 i 13 a = I (-1)) (h₅ : mc 0 i 6 p = I (-1)) (h₆ : mc 0 i 2 (p - 12) ≠ I (-1)) (h₇ : mc 0 i 2 (p - 11) ≠ I (-1)) (h₈ : p / 12 < l ∧ p / 12 + p % 12 < w) :
    ccJ (mset (mset mc 0 i 6 p (N a)) 0 i 13 a (N p)) (mset (mset (mset mm 4 0 3 (632 + p) (N a)) 4 0 3 (9 + 6 * a) (N 3)) 4 0 3 (10 + 6 * a) (N p)) i w l n bd β wt W h t ∧
      (∀ j q, j ≠ 6 → j ≠ 13 → mset (mset mc 0 i 6 p (N a)) 0 i 13 a (N p) 0 i j q = mc 0 i j q) := by
  have b₃ : n ≤ 40 := q.1.1.2.2.2.2.2.2.2
  have cC : mset (mset mc 0 i 6 p (N a)) 0 i 13 a (N p) 0 i = ccU (ccU (mc 0 i) 6 p (N a)) 13 a (N p) := by simp only [ccU_set]
  have cS : mset (mset (mset mm 4 0 3 (632 + p) (N a)) 4 0 3 (9 + 6 * a) (N 3)) 4 0 3 (10 + 6 * a) (N p) 4 0 3 = ccV (ccV (ccV (mm 4 0 3) (632 + p) (N a)) (9 + 6 * a) (N 3)) (10 + 6 * a) (N p) := by simp only [ccV_set]
  have co : ∀ j q, j ≠ 6 → j ≠ 13 → ccU (ccU (mc 0 i) 6 p (N a)) 13 a (N p) j q = mc 0 i j q := fun j q y₁ y₂ => by
    simp (disch := omega) only [ccU, if_neg, Nat.reduceEqDiff, eq_self, true_and, and_true, false_and, and_false, if_true, if_false]
  have c₆ : ∀ q, ccU (ccU (mc 0 i) 6 p (N a)) 13 a (N p) 6 q = if q = p then N a else mc 0 i 6 q := fun q => by
    simp (disch := omega) only [ccU, if_neg, Nat.reduceEqDiff, eq_self, true_and, and_true, false_and, and_false, if_true, if_false]
  have r := ccR_lay (a := a) (p := p) (D := ccU (ccU (mc 0 i) 6 p (N a)) 13 a (N p)) (u := ccV (ccV (ccV (mm 4 0 3) (632 + p) (N a)) (9 + 6 * a) (N 3)) (10 + 6 * a) (N p)) q.1.2.2.2.2.2.1 b₃ h₂ h₃ h₄ h₅ c₆ (fun q => by simp (disch := omega) only [ccU, if_neg, Nat.reduceEqDiff, eq_self, true_and, and_true, false_and, and_false, if_true, if_false]) co
    (by simp (disch := omega) only [ccV, if_neg, Nat.reduceEqDiff, eq_self, true_and, and_true, false_and, and_false, if_true, if_false]) (by simp (disch := omega) only [ccV, if_neg, Nat.reduceEqDiff, eq_self, true_and, and_true, false_and, and_false, if_true, if_false]) (by simp (disch := omega) only [ccV, if_neg, Nat.reduceEqDiff, eq_self, true_and, and_true, false_and, and_false, if_true, if_false]) (fun q y₁ y₂ y₃ => by simp (disch := omega) only [ccV, if_neg, Nat.reduceEqDiff, eq_self, true_and, and_true, false_and, and_false, if_true, if_false])
  refine ⟨ccJ_new (h' := h) q (ccFr_set (ccFr_set ccFr_rfl)) (ccFq_set (ccFq_set (ccFq_set ccFq_rfl (by omega)) (by omega)) (by omega)) (by rw [cC, cS]; exact r) ?_ ?_ b, fun j q y₁ y₂ => by rw [cC]; exact co j q y₁ y₂⟩
  · intro y y₁
    rw [cC, co 2 y (by omega) (by omega), c₆]
    refine ⟨(q.1.2.2.2.2.2.2.1 y y₁).1, fun y₂ => ?_⟩
    by_cases y₃ : y = p
    · subst y₃
      exact ⟨h₁, h₈⟩
    · rw [if_neg y₃] at y₂
      exact (q.1.2.2.2.2.2.2.1 y y₁).2 y₂
  · intro y y₁ y₂
    obtain ⟨g₁, g₂⟩ := q.2.1 y y₁ y₂
    unfold ccVf at g₁ ⊢
    unfold ccVp at g₂ ⊢
    rw [cC, co 2 y (by omega) (by omega), co 2 (y - 12) (by omega) (by omega), co 2 (y - 11) (by omega) (by omega), c₆]
    by_cases y₃ : y = p
    · subst y₃
      rw [if_pos rfl]
      refine ⟨fun y₄ => ?_, fun y₄ => ?_⟩
      · rcases y₄.2 with y₅ | y₅
        · exact h₆ y₅
        · exact h₇ y₅
      · have y₅ := y₄.2
        rw [ccNm (by omega)] at y₅
        exact y₅
    · rw [if_neg y₃]
      exact ⟨g₁, g₂⟩
theorem ccNn_co {C D : Nat → Nat → Int32} (h₁ : ccNn C) (h₂ : ∀ q, D 2 q = C 2 q ∧ D 4 q = C 4 q ∧ D 5 q = C 5 q) : ccNn D := fun p y₁ y₂ => by
  obtain ⟨g₁, g₂, g₃⟩ := h₂ p
  rw [g₁] at y₂
  rw [g₂, g₃]
  exact h₁ p y₁ y₂
theorem ccQw_co {x : Int32} {C D : Nat → Nat → Int32} (h₁ : ccQw x C) (h₂ : ∀ q, D 2 q = C 2 q ∧ D 4 q = C 4 q ∧ D 5 q = C 5 q) : ccQw x D := fun p y₁ => by
  obtain ⟨g₁, g₂, g₃⟩ := h₂ p
  have y₂ := h₁ p y₁
  unfold ccBdw ccP at y₂ ⊢
  rw [g₁, g₃]
  exact y₂
theorem ccOk_158 {B : Nat} {m : mMi} {x y z : Int32} (hB : B ≤ 900000000) (h₁ : ccTop B m) : ccOk B (F158 x y z) (F293 x y z) [(1, 1), (2, 2), (3, 3)] m := by
  refine ccOk_place (b := N 0) h₁ (List.mem_cons_self) (List.mem_cons_of_mem _ List.mem_cons_self) (fun m rs => rfl) (fun m rs => rfl) (fun w l n bd lm dp cl β W L c h₂ e₁ e₂ e₃ e₄ => ?_)
  have h₀ := h₂.1
  have qr : ccRu m 0 w l n := h₂.2.2.1.1
  have b₁ : w ≤ 12 := qr.2.2.2.2.1
  have b₂ : l ≤ 8 := qr.2.2.2.2.2.2.1
  have b₃ : n ≤ 40 := qr.2.2.2.2.2.2.2
  have qm : ccMo (ccM0 m) w l n := ccM0_mo h₂.2.2.1.2.1
  subst e₁ e₂
  have i₃ : (3, 3) ∈ [(1, 1), (2, 2), (3, 3)] := List.mem_cons_of_mem _ (List.mem_cons_of_mem _ List.mem_cons_self)
  rcases Classical.em (∃ b, z = N b ∧ b < n) with ⟨a, f₁, f₂⟩ | g
  rotate_left
  · refine ccOk_no (E := 2) (c := 2) h₁ (List.mem_cons_of_mem _ List.mem_cons_self) (fun rs => ?_) (fun rs => ?_)
    · show bV (F120 z m rs) _ = _
      rw [ccE120f h₀ qr g, ccBvX]
    · show bI (F239 z (ccM0 m) rs) _ = _
      rw [ccE239f qm g, ccBi, ccIf0, ccE178t ccT0s (by omega) (by omega), ccBi, ccIf1]
  subst f₁
  obtain ⟨h', t', q₁, _⟩ := ccLd_R h₂
  have s₀ : ∀ M, ccMo4 m M → ccM0 M 4 0 3 = m 4 0 3 := fun M y₁ => by
    funext q
    rw [ccM0_r (by omega), y₁]
  have wm : ∀ M, ccMo4 m M → ccWm (ccM0 M) w l n W (m 0 0) := fun M y₁ => ⟨ccM0_mo (ccMo_4 y₁ h₂.2.2.1.2.1), by rw [s₀ M y₁]; exact q₁.1, fun k y₂ => by rw [ccM0_r (by omega), y₁]; exact h₂.2.2.1.2.2.2.2.2.2.2.1 k y₂⟩
  have rc : ∀ M, ccMo4 m M → ccRC ccX0 n β (m 0 0) (ccM0 M 4 0 3) := fun M y₁ => by rw [s₀ M y₁]; exact q₁.2.2.1
  have hr : ccMo4 m m := fun _ _ _ => rfl
  have hd : decide (m 0 0 13 a = I (-1)) = ccHeld (m 0 0) a := rfl
  cases g₁ : ccMayLay (m 0 0) w l L c
  · refine ccOk_no (E := 3) (c := 3) h₁ i₃ (fun rs => ?_) (fun rs => ?_)
    · show bV (F120 (N a) m rs) _ = _
      rw [ccE120t h₀ qr f₂, ccBv, ccE16 qr (by omega) (by omega), g₁, ccBi, ccT_f, ccIf0e, ccE107f, ccBvX]
    · show bI (F239 (N a) (ccM0 m) rs) _ = _
      rw [ccE239t qm f₂, ccBi, ccIf1, ccE178f ccT0s, ccBi, ccIf0, ccE209 (wm m hr) e₃ (by omega), g₁, ccBi, ccT_f, ccIf0e, ccE178t ccT0s (by omega) (by omega), ccBi, ccIf1e]
  cases g₂ : ccHeld (m 0 0) a
  · refine ccOk_no (E := 3) (c := 3) h₁ i₃ (fun rs => ?_) (fun rs => ?_)
    · show bV (F120 (N a) m rs) _ = _
      rw [ccE120t h₀ qr f₂, ccBv, ccE16 qr (by omega) (by omega), g₁, ccBi, ccT_t, ccIf1e, ccE2 (by omega), hd, g₂, ccBi, ccT_f, ccIf0e, ccE107f, ccBvX]
    · show bI (F239 (N a) (ccM0 m) rs) _ = _
      rw [ccE239t qm f₂, ccBi, ccIf1, ccE178f ccT0s, ccBi, ccIf0, ccE209 (wm m hr) e₃ (by omega), g₁, ccBi, ccT_t, ccIf1e, ccE290 (rc m hr) f₂ b₃, g₂, ccBi, ccT_f, ccIf0, ccE178t ccT0s (by omega) (by omega), ccBi, ccIf1e]
  have g₃ : m 0 0 13 a = I (-1) := of_decide_eq_true g₂
  obtain ⟨l₁, l₂, l₃, l₄⟩ := ccMayLay_t g₁
  have sp : ccSp w l L c = N (12 * L + c) := if_pos ⟨e₃, e₄⟩
  refine ccOk_imp (ccChange (oc := fun m r => bI (F81 0 (N L) (N c) m r) (fun v m r => bV (F17 0 v (N a) m r) (fun m r => bI (F19 0 m r) (fun v m r => rI v m r)))) (om := fun M r => bI (F200 (N L) (N c) M r) (fun v m r => bV (F210 v (N a) m r) (fun m r => bV (F212 m r) (fun m₂ r => rI (m₂ 4 0 3 1 - M 4 0 3 1) m₂ r)))) h₁ h₂ (fun mc mm k₁ k₂ k₃ k₄ k₅ => ?_)) (fun rs => ?_) (fun M rs y₁ => ?_)
  · obtain ⟨h, t, j₁, j₂, j₃, j₄, _⟩ := ccJ_of hB h₂ k₁ k₂ k₃ k₄ k₅
    obtain ⟨d₁, d₂⟩ := ccLay1 (p := 12 * L + c) (a := a) j₁ (by omega) l₁ (by omega) f₂ (by rw [k₁]; exact g₃) (by rw [k₁]; exact l₂) (by rw [k₁]; exact l₃) (by rw [k₁]; exact l₄) ⟨by omega, by omega⟩
    obtain ⟨m₁, m₂, u, v, c₁, c₂, c₃, c₄, c₅, c₆, c₇, _⟩ := ccE19 d₁
    have tv := (ccR_tt c₃.1.2.2.2.2.2.1).2
    have tt := (ccR_tt j₁.1.2.2.2.2.2.1).2
    have p₁ := ccPcs_le (C := mset (mset mc 0 0 6 (12 * L + c) (N a)) 0 0 13 a (N (12 * L + c)) 0 0)
    have p₂ := c₄.2
    have nn : ccQn (N lm) (m₁ 0 0) := ccQn_G c₄ ⟨ccQw_co j₄.1 (fun q => ⟨d₂ 2 q (by omega) (by omega), d₂ 4 q (by omega) (by omega), d₂ 5 q (by omega) (by omega)⟩), ccNn_co j₄.2 (fun q => ⟨d₂ 2 q (by omega) (by omega), d₂ 4 q (by omega) (by omega), d₂ 5 q (by omega) (by omega)⟩)⟩
    refine ⟨m₁, m₂, N v - N t, fun rs => ?_, fun rs => ?_, ccFr_trans (ccFr_set (ccFr_set ccFr_rfl)) c₅, ccFq_trans (ccFq_set (ccFq_set (ccFq_set ccFq_rfl (by omega)) (by omega)) (by omega)) c₆, ccKK_of c₃ c₇ nn (by omega)⟩
    · show bI (F81 0 (N L) (N c) mc rs) _ = _
      rw [ccE81 (r := 0) j₁.1.1 (by omega) (by omega), ccBi, sp, ccE17 (by omega) (by omega), ccBv, c₁, ccBi]
    · show bI (F200 (N L) (N c) mm rs) _ = _
      rw [ccE200, ccBi, ccE210 (by omega) (by omega), ccBv, c₂, ccBv, tv, tt]
  · show bV (F120 (N a) m rs) _ = _
    rw [ccE120t h₀ qr f₂, ccBv, ccE16 qr (by omega) (by omega), g₁, ccBi, ccT_t, ccIf1e, ccE2 (by omega), hd, g₂, ccBi, ccT_t, ccIf1e, ccE107t, ccBv]
  · show bI (F239 (N a) (ccM0 M) rs) _ = _
    rw [ccE239t (wm M y₁).1 f₂, ccBi, ccIf1, ccE178f ccT0s, ccBi, ccIf0, ccE209 (wm M y₁) e₃ (by omega), g₁, ccBi, ccT_t, ccIf1e, ccE290 (rc M y₁) f₂ b₃, g₂, ccBi, ccT_t, ccIf1, ccE178f ccT0s, ccBi, ccIf0e]
/-! two cards are leaned against each other -/
theorem ccE15 {m : mMi} {rs : mRs} {i p a b : Nat} {g : Int32} (h₁ : p < 96) (h₂ : a < 40) (h₃ : b < 40) : F15 i (N p) (N a) (N b) g m rs = rV (mset (mset (mset (mset (mset (mset m 0 i 2 p (N a)) 0 i 3 p (N b)) 0 i 4 p g) 0 i 5 p (N 0)) 0 i 13 a (N p)) 0 i 13 b (N p)) rs := by
  unfold F15
  simp (disch := omega) only [true_and, and_true, false_and, and_false, if_true, if_false, ccIte, ccBi, ccBiX, ccBv, ccBvX, ccZ0, ccZ1, ccTZ, ccT0, ccT1, Bool.or_false, ccMckT, ccMckIn, ne_eq, not_true_eq_false, not_false_eq_true, if_pos, if_neg, reduceIte, eq_self, Bool.false_eq_true, Bool.true_eq_false, mix_N, N_add, N_mul, N_sub, N_div, ccMod, N_lt, N_le, N_eq, ccNm, ccMN, ccNm2, ccM2N, ccMM2, ccM2M, ccMlt, ccMle, ccNltM, ccNleM, ccM2lt, ccM2le, ccNlt2, ccNle2, Nat.reduceAdd, Nat.reduceMul, Nat.reduceSub, Nat.reduceLT, Nat.reduceLeDiff, Nat.reduceEqDiff, Nat.reduceDiv, Nat.reduceMod]
theorem ccE205 {m : mMi} {rs : mRs} {p a b : Nat} {g : Int32} (h₁ : p < 96) (h₂ : a < 40) (h₃ : b < 40) : F205 (N p) (N a) (N b) g m rs = rV (mset (mset (mset (mset (mset (mset (mset (mset m 4 0 3 (248 + 4 * p) (N a)) 4 0 3 (249 + 4 * p) (N b)) 4 0 3 (250 + 4 * p) g) 4 0 3 (251 + 4 * p) (N 0)) 4 0 3 (9 + 6 * a) (N 2)) 4 0 3 (10 + 6 * a) (N p)) 4 0 3 (9 + 6 * b) (N 2)) 4 0 3 (10 + 6 * b) (N p)) rs := by
  unfold F205
  rw [ccE206a h₁, ccBv, ccE206b h₁, ccBv, ccE206c h₁, ccBv, ccE206d h₁, ccBv, ccE207 h₂, ccBv, ccE207 h₃, ccBv]
theorem ccMayLean_t {C : Nat → Nat → Int32} {w l L c : Nat} (h₀ : L < l) (h₀' : L + c < w) (h₁ : ccMayLean C w l L c = true) : C 2 (12 * L + c) = I (-1) ∧ (1 ≤ L → C 6 (12 * L + c) ≠ I (-1)) := by
  unfold ccMayLean at h₁
  simp only [Bool.and_eq_true, Bool.not_eq_true', Bool.or_eq_true, decide_eq_true_eq] at h₁
  refine ⟨ccHP_b h₀ h₀' h₁.1, fun y₁ => ?_⟩
  rcases h₁.2 with y₂ | y₂
  · omega
  · exact (ccHF_t y₂).2.2
theorem ccLean1 {mc mm : mMi} {i w l n bd h t p a b : Nat} {g : Int32} {β wt : Nat → Int32} {W : Nat → Nat} (q : ccJ mc mm i w l n bd β wt W h t) (bb : t ≤ 900000000) (h₂ : p < 96) (h₃ : a < n) (h₃' : b < n) (h₃'' : a ≠ b) (h₄ : mc 0 i 13 a = I (-1)) (h₄' : mc 0 i 13 b = I (-1)) (h₅ : mc 0 i 2 p = I (-1)) (h₆ : 12 ≤ p → mc 0 i 6 p ≠ I (-1)) (h₈ : p / 12 < l ∧ p / 12 + p % 12 < w) :
    ccJ (mset (mset (mset (mset (mset (mset mc 0 i 2 p (N a)) 0 i 3 p (N b)) 0 i 4 p g) 0 i 5 p (N 0)) 0 i 13 a (N p)) 0 i 13 b (N p)) (mset (mset (mset (mset (mset (mset (mset (mset mm 4 0 3 (248 + 4 * p) (N a)) 4 0 3 (249 + 4 * p) (N b)) 4 0 3 (250 + 4 * p) g) 4 0 3 (251 + 4 * p) (N 0)) 4 0 3 (9 + 6 * a) (N 2)) 4 0 3 (10 + 6 * a) (N p)) 4 0 3 (9 + 6 * b) (N 2)) 4 0 3 (10 + 6 * b) (N p)) i w l n bd β wt W h t ∧
      (∀ q, mset (mset (mset (mset (mset (mset mc 0 i 2 p (N a)) 0 i 3 p (N b)) 0 i 4 p g) 0 i 5 p (N 0)) 0 i 13 a (N p)) 0 i 13 b (N p) 0 i 2 q = if q = p then N a else mc 0 i 2 q) ∧
      (∀ q, mset (mset (mset (mset (mset (mset mc 0 i 2 p (N a)) 0 i 3 p (N b)) 0 i 4 p g) 0 i 5 p (N 0)) 0 i 13 a (N p)) 0 i 13 b (N p) 0 i 4 q = if q = p then g else mc 0 i 4 q) ∧
      (∀ q, mset (mset (mset (mset (mset (mset mc 0 i 2 p (N a)) 0 i 3 p (N b)) 0 i 4 p g) 0 i 5 p (N 0)) 0 i 13 a (N p)) 0 i 13 b (N p) 0 i 5 q = if q = p then N 0 else mc 0 i 5 q) := by
  have b₃ : n ≤ 40 := q.1.1.2.2.2.2.2.2.2
  obtain ⟨D, hD⟩ : ∃ D, D = ccU (ccU (ccU (ccU (ccU (ccU (mc 0 i) 2 p (N a)) 3 p (N b)) 4 p g) 5 p (N 0)) 13 a (N p)) 13 b (N p) := ⟨_, rfl⟩
  obtain ⟨u, hu⟩ : ∃ u, u = ccV (ccV (ccV (ccV (ccV (ccV (ccV (ccV (mm 4 0 3) (248 + 4 * p) (N a)) (249 + 4 * p) (N b)) (250 + 4 * p) g) (251 + 4 * p) (N 0)) (9 + 6 * a) (N 2)) (10 + 6 * a) (N p)) (9 + 6 * b) (N 2)) (10 + 6 * b) (N p) := ⟨_, rfl⟩
  have cC : mset (mset (mset (mset (mset (mset mc 0 i 2 p (N a)) 0 i 3 p (N b)) 0 i 4 p g) 0 i 5 p (N 0)) 0 i 13 a (N p)) 0 i 13 b (N p) 0 i = D := by rw [hD]; simp only [ccU_set]
  have cS : mset (mset (mset (mset (mset (mset (mset (mset mm 4 0 3 (248 + 4 * p) (N a)) 4 0 3 (249 + 4 * p) (N b)) 4 0 3 (250 + 4 * p) g) 4 0 3 (251 + 4 * p) (N 0)) 4 0 3 (9 + 6 * a) (N 2)) 4 0 3 (10 + 6 * a) (N p)) 4 0 3 (9 + 6 * b) (N 2)) 4 0 3 (10 + 6 * b) (N p) 4 0 3 = u := by rw [hu]; simp only [ccV_set]
  have c₂ : ∀ q, D 2 q = if q = p then N a else mc 0 i 2 q := fun q => by rw [hD]; simp (disch := omega) only [ccU, if_neg, Nat.reduceEqDiff, eq_self, true_and, and_true, false_and, and_false, if_true, if_false]
  have c₃ : ∀ q, D 3 q = if q = p then N b else mc 0 i 3 q := fun q => by rw [hD]; simp (disch := omega) only [ccU, if_neg, Nat.reduceEqDiff, eq_self, true_and, and_true, false_and, and_false, if_true, if_false]
  have c₄ : ∀ q, D 4 q = if q = p then g else mc 0 i 4 q := fun q => by rw [hD]; simp (disch := omega) only [ccU, if_neg, Nat.reduceEqDiff, eq_self, true_and, and_true, false_and, and_false, if_true, if_false]
  have c₅ : ∀ q, D 5 q = if q = p then N 0 else mc 0 i 5 q := fun q => by rw [hD]; simp (disch := omega) only [ccU, if_neg, Nat.reduceEqDiff, eq_self, true_and, and_true, false_and, and_false, if_true, if_false]
  have c₁₃ : ∀ q, D 13 q = if q = a ∨ q = b then N p else mc 0 i 13 q := fun q => by
    rw [hD]
    simp (disch := omega) only [ccU, if_neg, Nat.reduceEqDiff, eq_self, true_and, and_true, false_and, and_false, if_true, if_false]
    by_cases y₁ : q = b
    · rw [if_pos y₁, if_pos (Or.inr y₁)]
    · by_cases y₂ : q = a
      · rw [if_neg y₁, if_pos y₂, if_pos (Or.inl y₂)]
      · rw [if_neg y₁, if_neg y₂, if_neg (by omega)]
  have co : ∀ j q, j ≠ 2 → j ≠ 3 → j ≠ 4 → j ≠ 5 → j ≠ 13 → D j q = mc 0 i j q := fun j q y₁ y₂ y₃ y₄ y₅ => by rw [hD]; simp (disch := omega) only [ccU, if_neg, Nat.reduceEqDiff, eq_self, true_and, and_true, false_and, and_false, if_true, if_false]
  have r := ccR_lean (a := a) (b := b) (p := p) (g := g) (D := D) (u := u) q.1.2.2.2.2.2.1 b₃ h₂ h₃ h₃' h₃'' h₄ h₄' h₅ c₂ c₃ c₄ c₅ c₁₃ co
    (by rw [hu]; simp (disch := omega) only [ccV, if_neg, Nat.reduceEqDiff, eq_self, true_and, and_true, false_and, and_false, if_true, if_false]) (by rw [hu]; simp (disch := omega) only [ccV, if_neg, Nat.reduceEqDiff, eq_self, true_and, and_true, false_and, and_false, if_true, if_false]) (by rw [hu]; simp (disch := omega) only [ccV, if_neg, Nat.reduceEqDiff, eq_self, true_and, and_true, false_and, and_false, if_true, if_false]) (by rw [hu]; simp (disch := omega) only [ccV, if_neg, Nat.reduceEqDiff, eq_self, true_and, and_true, false_and, and_false, if_true, if_false]) (by rw [hu]; simp (disch := omega) only [ccV, if_neg, Nat.reduceEqDiff, eq_self, true_and, and_true, false_and, and_false, if_true, if_false]) (by rw [hu]; simp (disch := omega) only [ccV, if_neg, Nat.reduceEqDiff, eq_self, true_and, and_true, false_and, and_false, if_true, if_false]) (by rw [hu]; simp (disch := omega) only [ccV, if_neg, Nat.reduceEqDiff, eq_self, true_and, and_true, false_and, and_false, if_true, if_false]) (by rw [hu]; simp (disch := omega) only [ccV, if_neg, Nat.reduceEqDiff, eq_self, true_and, and_true, false_and, and_false, if_true, if_false])
    (fun q y₁ y₂ y₃ y₄ y₅ => by rw [hu]; simp (disch := omega) only [ccV, if_neg, Nat.reduceEqDiff, eq_self, true_and, and_true, false_and, and_false, if_true, if_false])
  refine ⟨ccJ_new (h' := h) q (ccFr_set (ccFr_set (ccFr_set (ccFr_set (ccFr_set (ccFr_set ccFr_rfl)))))) (ccFq_set (ccFq_set (ccFq_set (ccFq_set (ccFq_set (ccFq_set (ccFq_set (ccFq_set ccFq_rfl (by omega)) (by omega)) (by omega)) (by omega)) (by omega)) (by omega)) (by omega)) (by omega)) (by rw [cC, cS]; exact r) ?_ ?_ bb, fun q => by rw [cC]; exact c₂ q, fun q => by rw [cC]; exact c₄ q, fun q => by rw [cC]; exact c₅ q⟩
  · intro y y₁
    rw [cC, co 6 y (by omega) (by omega) (by omega) (by omega) (by omega), c₂]
    refine ⟨fun y₂ => ?_, (q.1.2.2.2.2.2.2.1 y y₁).2⟩
    by_cases y₃ : y = p
    · subst y₃
      exact h₈
    · rw [if_neg y₃] at y₂
      exact (q.1.2.2.2.2.2.2.1 y y₁).1 y₂
  · intro y y₁ y₂
    obtain ⟨g₁, g₂⟩ := q.2.1 y y₁ y₂
    unfold ccVf at g₁ ⊢
    unfold ccVp at g₂ ⊢
    have na : (N a = I (-1)) = False := ccNm (by omega)
    rw [cC, co 6 y (by omega) (by omega) (by omega) (by omega) (by omega), c₂, c₂, c₂]
    refine ⟨fun y₃ => g₁ ⟨y₃.1, ?_⟩, fun y₃ => ?_⟩
    · rcases y₃.2 with y₄ | y₄
      · by_cases y₅ : y - 12 = p
        · rw [if_pos y₅, na] at y₄
          exact y₄.elim
        · rw [if_neg y₅] at y₄
          exact Or.inl y₄
      · by_cases y₅ : y - 11 = p
        · rw [if_pos y₅, na] at y₄
          exact y₄.elim
        · rw [if_neg y₅] at y₄
          exact Or.inr y₄
    · by_cases y₅ : y = p
      · subst y₅
        exact h₆ y₁ y₃.2
      · rw [if_neg y₅] at y₃
        exact g₂ y₃
theorem ccOk_157 {B : Nat} {m : mMi} {x y z₁ z₂ z₃ : Int32} (hB : B ≤ 900000000) (h₁ : ccTop B m) : ccOk B (F157 x y z₁ z₂ z₃) (F289 x y z₁ z₂ z₃) [(1, 1), (2, 2), (3, 3)] m := by
  refine ccOk_place (b := N 0) h₁ (List.mem_cons_self) (List.mem_cons_of_mem _ List.mem_cons_self) (fun m rs => rfl) (fun m rs => rfl) (fun w l n bd lm dp cl β W L c h₂ e₁ e₂ e₃ e₄ => ?_)
  have h₀ := h₂.1
  have qr : ccRu m 0 w l n := h₂.2.2.1.1
  have b₁ : w ≤ 12 := qr.2.2.2.2.1
  have b₂ : l ≤ 8 := qr.2.2.2.2.2.2.1
  have b₃ : n ≤ 40 := qr.2.2.2.2.2.2.2
  have qm : ccMo (ccM0 m) w l n := ccM0_mo h₂.2.2.1.2.1
  subst e₁ e₂
  have i₂ : (2, 2) ∈ [(1, 1), (2, 2), (3, 3)] := List.mem_cons_of_mem _ List.mem_cons_self
  have i₃ : (3, 3) ∈ [(1, 1), (2, 2), (3, 3)] := List.mem_cons_of_mem _ (List.mem_cons_of_mem _ List.mem_cons_self)
  rcases Classical.em (∃ b, z₁ = N b ∧ b < n) with ⟨a, f₁, f₂⟩ | g
  rotate_left
  · refine ccOk_no (E := 2) (c := 2) h₁ i₂ (fun rs => ?_) (fun rs => ?_)
    · show bV (F120 z₁ m rs) _ = _
      rw [ccE120f h₀ qr g, ccBvX]
    · show bI (F239 z₁ (ccM0 m) rs) _ = _
      rw [ccE239f qm g, ccBi, ccIf0e, ccE178t ccT0s (by omega) (by omega), ccBi, ccIf1e]
  subst f₁
  rcases Classical.em (∃ b, z₂ = N b ∧ b < n) with ⟨b, f₃, f₄⟩ | g
  rotate_left
  · refine ccOk_no (E := 2) (c := 2) h₁ i₂ (fun rs => ?_) (fun rs => ?_)
    · show bV (F120 (N a) m rs) _ = _
      rw [ccE120t h₀ qr f₂, ccBv, ccE120f h₀ qr g, ccBvX]
    · show bI (F239 (N a) (ccM0 m) rs) _ = _
      rw [ccE239t qm f₂, ccBi, ccIf1e, ccE239f qm g, ccBi, ccIf0, ccE178t ccT0s (by omega) (by omega), ccBi, ccIf1e]
  subst f₃
  obtain ⟨h', t', q₁, _⟩ := ccLd_R h₂
  have s₀ : ∀ M, ccMo4 m M → ccM0 M 4 0 3 = m 4 0 3 := fun M y₁ => by
    funext q
    rw [ccM0_r (by omega), y₁]
  have wm : ∀ M, ccMo4 m M → ccWm (ccM0 M) w l n W (m 0 0) := fun M y₁ => ⟨ccM0_mo (ccMo_4 y₁ h₂.2.2.1.2.1), by rw [s₀ M y₁]; exact q₁.1, fun k y₂ => by rw [ccM0_r (by omega), y₁]; exact h₂.2.2.1.2.2.2.2.2.2.2.1 k y₂⟩
  have rc : ∀ M, ccMo4 m M → ccRC ccX0 n β (m 0 0) (ccM0 M 4 0 3) := fun M y₁ => by rw [s₀ M y₁]; exact q₁.2.2.1
  have hr : ccMo4 m m := fun _ _ _ => rfl
  have ha : decide (m 0 0 13 a = I (-1)) = ccHeld (m 0 0) a := rfl
  have hb : decide (m 0 0 13 b = I (-1)) = ccHeld (m 0 0) b := rfl
  cases g₁ : ccMayLean (m 0 0) w l L c
  · refine ccOk_no (E := 3) (c := 3) h₁ i₃ (fun rs => ?_) (fun rs => ?_)
    · show bV (F120 (N a) m rs) _ = _
      rw [ccE120t h₀ qr f₂, ccBv, ccE120t h₀ qr f₄, ccBv, ccE12 qr (by omega) (by omega), g₁, ccBi, ccT_f, ccIf0e, ccE107f, ccBvX]
    · show bI (F239 (N a) (ccM0 m) rs) _ = _
      rw [ccE239t qm f₂, ccBi, ccIf1e, ccE239t qm f₄, ccBi, ccIf1, ccE178f ccT0s, ccBi, ccIf0e, ccE197 (wm m hr) (by omega) (by omega), g₁, ccBi, ccT_f, ccIf0e, ccIf0e, ccE178t ccT0s (by omega) (by omega), ccBi, ccIf1e]
  by_cases g₂ : a = b
  · subst g₂
    refine ccOk_no (E := 3) (c := 3) h₁ i₃ (fun rs => ?_) (fun rs => ?_)
    · show bV (F120 (N a) m rs) _ = _
      rw [ccE120t h₀ qr f₂, ccBv, ccE120t h₀ qr f₂, ccBv, ccE12 qr (by omega) (by omega), g₁, ccBi, ccT_t, ccIf1e, ccIte, if_pos rfl, ccE107f, ccBvX]
    · show bI (F239 (N a) (ccM0 m) rs) _ = _
      rw [ccE239t qm f₂, ccBi, ccIf1e, ccE239t qm f₂, ccBi, ccIf1, ccE178f ccT0s, ccBi, ccIf0e, ccE197 (wm m hr) (by omega) (by omega), g₁, ccBi, ccT_t, ccIf1e, ccIte, if_pos rfl, ccIf0e, ccE178t ccT0s (by omega) (by omega), ccBi, ccIf1e]
  have g₃ : ¬ N a = N b := by rw [N_eq (by omega) (by omega)]; exact g₂
  cases g₄ : ccHeld (m 0 0) a
  · refine ccOk_no (E := 3) (c := 3) h₁ i₃ (fun rs => ?_) (fun rs => ?_)
    · show bV (F120 (N a) m rs) _ = _
      rw [ccE120t h₀ qr f₂, ccBv, ccE120t h₀ qr f₄, ccBv, ccE12 qr (by omega) (by omega), g₁, ccBi, ccT_t, ccIf1e, ccIte, if_neg g₃, ccE107t, ccBv, ccE2 (by omega), ha, g₄, ccBi, ccT_f, ccIf0e, ccE107f, ccBvX]
    · show bI (F239 (N a) (ccM0 m) rs) _ = _
      rw [ccE239t qm f₂, ccBi, ccIf1e, ccE239t qm f₄, ccBi, ccIf1, ccE178f ccT0s, ccBi, ccIf0e, ccE197 (wm m hr) (by omega) (by omega), g₁, ccBi, ccT_t, ccIf1e, ccIte, if_neg g₃, ccE290 (rc m hr) f₂ b₃, g₄, ccBi, ccT_f, ccIf0e, ccIf0e, ccE178t ccT0s (by omega) (by omega), ccBi, ccIf1e]
  cases g₅ : ccHeld (m 0 0) b
  · refine ccOk_no (E := 3) (c := 3) h₁ i₃ (fun rs => ?_) (fun rs => ?_)
    · show bV (F120 (N a) m rs) _ = _
      rw [ccE120t h₀ qr f₂, ccBv, ccE120t h₀ qr f₄, ccBv, ccE12 qr (by omega) (by omega), g₁, ccBi, ccT_t, ccIf1e, ccIte, if_neg g₃, ccE107t, ccBv, ccE2 (by omega), ha, g₄, ccBi, ccT_t, ccIf1e, ccE2 (by omega), hb, g₅, ccBi, ccT_f, ccIf0e, ccE107f, ccBvX]
    · show bI (F239 (N a) (ccM0 m) rs) _ = _
      rw [ccE239t qm f₂, ccBi, ccIf1e, ccE239t qm f₄, ccBi, ccIf1, ccE178f ccT0s, ccBi, ccIf0e, ccE197 (wm m hr) (by omega) (by omega), g₁, ccBi, ccT_t, ccIf1e, ccIte, if_neg g₃, ccE290 (rc m hr) f₂ b₃, g₄, ccBi, ccT_t, ccIf1e, ccE290 (rc m hr) f₄ b₃, g₅, ccBi, ccT_f, ccIf0e, ccIf0e, ccE178t ccT0s (by omega) (by omega), ccBi, ccIf1e]
  rcases Classical.em (∃ u, z₃ = N u ∧ 20 ≤ u ∧ u ≤ 70) with ⟨u, f₅, f₆, f₇⟩ | g
  rotate_left
  · refine ccOk_no (E := 3) (c := 3) h₁ i₃ (fun rs => ?_) (fun rs => ?_)
    · show bV (F120 (N a) m rs) _ = _
      rw [ccE120t h₀ qr f₂, ccBv, ccE120t h₀ qr f₄, ccBv, ccE12 qr (by omega) (by omega), g₁, ccBi, ccT_t, ccIf1e, ccIte, if_neg g₃, ccE107t, ccBv, ccE2 (by omega), ha, g₄, ccBi, ccT_t, ccIf1e, ccE2 (by omega), hb, g₅, ccBi, ccT_t, ccIf1e, ccE107t, ccBv, ccE117z g (by omega) (by omega), ccBvX]
    · show bI (F239 (N a) (ccM0 m) rs) _ = _
      rw [ccE239t qm f₂, ccBi, ccIf1e, ccE239t qm f₄, ccBi, ccIf1, ccE178f ccT0s, ccBi, ccIf0e, ccE197 (wm m hr) (by omega) (by omega), g₁, ccBi, ccT_t, ccIf1e, ccIte, if_neg g₃, ccE290 (rc m hr) f₂ b₃, g₄, ccBi, ccT_t, ccIf1e, ccE290 (rc m hr) f₄ b₃, g₅, ccBi, ccT_t, ccIf1e, ccIf1e, ccE264f g, ccBi, ccIf0, ccE178t ccT0s (by omega) (by omega), ccBi, ccIf1e]
  subst f₅
  have g₆ : m 0 0 13 a = I (-1) := of_decide_eq_true g₄
  have g₇ : m 0 0 13 b = I (-1) := of_decide_eq_true g₅
  obtain ⟨l₁, l₂⟩ := ccMayLean_t e₃ e₄ g₁
  have sp : ccSp w l L c = N (12 * L + c) := if_pos ⟨e₃, e₄⟩
  refine ccOk_imp (ccChange (oc := fun m r => bI (F81 0 (N L) (N c) m r) (fun v m r => bV (F15 0 v (N a) (N b) (N u) m r) (fun m r => bI (F19 0 m r) (fun v m r => rI v m r)))) (om := fun M r => bI (F200 (N L) (N c) M r) (fun v m r => bV (F205 v (N a) (N b) (N u) m r) (fun m r => bV (F212 m r) (fun m₂ r => rI (m₂ 4 0 3 1 - M 4 0 3 1) m₂ r)))) h₁ h₂ (fun mc mm k₁ k₂ k₃ k₄ k₅ => ?_)) (fun rs => ?_) (fun M rs y₁ => ?_)
  · obtain ⟨h, t, j₁, j₂, j₃, j₄, _⟩ := ccJ_of hB h₂ k₁ k₂ k₃ k₄ k₅
    obtain ⟨d₁, d₂, d₃, d₄⟩ := ccLean1 (p := 12 * L + c) (a := a) (b := b) (g := N u) j₁ (by omega) (by omega) f₂ f₄ g₂ (by rw [k₁]; exact g₆) (by rw [k₁]; exact g₇) (by rw [k₁]; exact l₁) (fun y₁ => by rw [k₁]; exact l₂ (by omega)) ⟨by omega, by omega⟩
    obtain ⟨m₁, m₂, u', v, c₁, c₂, c₃, c₄, c₅, c₆, c₇, _⟩ := ccE19 d₁
    have tv := (ccR_tt c₃.1.2.2.2.2.2.1).2
    have tt := (ccR_tt j₁.1.2.2.2.2.2.1).2
    have p₁ := ccPcs_le (C := mset (mset (mset (mset (mset (mset mc 0 0 2 (12 * L + c) (N a)) 0 0 3 (12 * L + c) (N b)) 0 0 4 (12 * L + c) (N u)) 0 0 5 (12 * L + c) (N 0)) 0 0 13 a (N (12 * L + c))) 0 0 13 b (N (12 * L + c)) 0 0)
    have p₂ := c₄.2
    have b₅ : lm ≤ 99 := h₂.2.2.1.2.2.2.1.2.2
    have nn : ccQn (N lm) (m₁ 0 0) := ccQn_G c₄ ⟨fun q y₁ => by
      have y₂ := j₄.1 q y₁
      unfold ccBdw ccP at y₂ ⊢
      rw [d₂, d₄]
      by_cases y₃ : q = 12 * L + c
      · have y₄ : ¬ N lm < N 0 := by rw [N_lt (by omega) (by omega)]; omega
        rw [if_pos y₃, if_pos y₃, decide_eq_false y₄, Bool.and_false]
      · rw [if_neg y₃, if_neg y₃]
        exact y₂, fun q y₁ y₂ => by
      rw [d₂] at y₂
      rw [d₃, d₄]
      by_cases y₃ : q = 12 * L + c
      · rw [if_pos y₃, if_pos y₃]
        exact ⟨⟨u, rfl, f₆, f₇⟩, 0, rfl, by omega⟩
      · rw [if_neg y₃] at y₂
        rw [if_neg y₃, if_neg y₃]
        exact j₄.2 q y₁ y₂⟩
    refine ⟨m₁, m₂, N v - N t, fun rs => ?_, fun rs => ?_, ccFr_trans (ccFr_set (ccFr_set (ccFr_set (ccFr_set (ccFr_set (ccFr_set ccFr_rfl)))))) c₅, ccFq_trans (ccFq_set (ccFq_set (ccFq_set (ccFq_set (ccFq_set (ccFq_set (ccFq_set (ccFq_set ccFq_rfl (by omega)) (by omega)) (by omega)) (by omega)) (by omega)) (by omega)) (by omega)) (by omega)) c₆, ccKK_of c₃ c₇ nn (by omega)⟩
    · show bI (F81 0 (N L) (N c) mc rs) _ = _
      rw [ccE81 (r := 0) j₁.1.1 (by omega) (by omega), ccBi, sp, ccE15 (by omega) (by omega) (by omega), ccBv, c₁, ccBi]
    · show bI (F200 (N L) (N c) mm rs) _ = _
      rw [ccE200, ccBi, ccE205 (by omega) (by omega) (by omega), ccBv, c₂, ccBv, tv, tt]
  · show bV (F120 (N a) m rs) _ = _
    rw [ccE120t h₀ qr f₂, ccBv, ccE120t h₀ qr f₄, ccBv, ccE12 qr (by omega) (by omega), g₁, ccBi, ccT_t, ccIf1e, ccIte, if_neg g₃, ccE107t, ccBv, ccE2 (by omega), ha, g₄, ccBi, ccT_t, ccIf1e, ccE2 (by omega), hb, g₅, ccBi, ccT_t, ccIf1e, ccE107t, ccBv, ccE117 (by omega) (by omega) (by omega), if_pos ⟨f₆, f₇⟩, ccBv]
  · show bI (F239 (N a) (ccM0 M) rs) _ = _
    rw [ccE239t (wm M y₁).1 f₂, ccBi, ccIf1e, ccE239t (wm M y₁).1 f₄, ccBi, ccIf1, ccE178f ccT0s, ccBi, ccIf0e, ccE197 (wm M y₁) (by omega) (by omega), g₁, ccBi, ccT_t, ccIf1e, ccIte, if_neg g₃, ccE290 (rc M y₁) f₂ b₃, g₄, ccBi, ccT_t, ccIf1e, ccE290 (rc M y₁) f₄ b₃, g₅, ccBi, ccT_t, ccIf1e, ccIf1e, ccE264t f₆ f₇, ccBi, ccIf1, ccE178f ccT0s, ccBi, ccIf0e]
