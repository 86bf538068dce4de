/-! CALLS: turn, tick. -/
theorem ccOk_165 {B : Nat} {m : mMi} {x y z : Int32} (hB : B ≤ 900000000) (h₁ : ccTop B m) : ccOk B (F165 x y z) (F302 x y z) [(1, 1), (2, 2), (3, 3)] m := by
  refine ccOk_place (b := N 0) h₁ (List.mem_cons_self) (List.mem_cons_of_mem _ List.mem_cons_self) (fun m rs => rfl) (fun m rs => rfl) (fun w l n bd lm dp cl β W L c h₂ e₁ e₂ e₃ e₄ => ?_)
  have qr : ccRu m 0 w l n := h₂.2.2.1.1
  have b₁ : w ≤ 12 := qr.2.2.2.2.1
  have b₂ : l ≤ 8 := qr.2.2.2.2.2.2.1
  have b₃ : n ≤ 40 := qr.2.2.2.2.2.2.2
  subst e₁ e₂
  have i₃ : (3, 3) ∈ [(1, 1), (2, 2), (3, 3)] := List.mem_cons_of_mem _ (List.mem_cons_of_mem _ List.mem_cons_self)
  obtain ⟨h', t', q₁, _⟩ := ccLd_R h₂
  have s₀ : ∀ M, ccMo4 m M → ccM0 M 4 0 3 = m 4 0 3 := fun M y₁ => by
    funext q
    rw [ccM0_r (by omega), y₁]
  have wm : ∀ M, ccMo4 m M → ccWm (ccM0 M) w l n W (m 0 0) := fun M y₁ => ⟨ccM0_mo (ccMo_4 y₁ h₂.2.2.1.2.1), by rw [s₀ M y₁]; exact q₁.1, fun k y₂ => by rw [ccM0_r (by omega), y₁]; exact h₂.2.2.1.2.2.2.2.2.2.2.1 k y₂⟩
  have hr : ccMo4 m m := fun _ _ _ => rfl
  cases g₁ : ccHP (m 0 0) w l L c
  · refine ccOk_no (E := 3) (c := 3) h₁ i₃ (fun rs => ?_) (fun rs => ?_)
    · show bI (F13 0 (N L) (N c) m rs) _ = _
      rw [ccE13 (i := 0) qr (by omega) (by omega), g₁, ccBi, ccT_f, ccE107f, ccBvX]
    · show bI (F198 (N L) (N c) (ccM0 m) rs) _ = _
      rw [ccE198' (wm m hr) (by omega) (by omega), g₁, ccBi, ccT_f, ccIf0e, ccE178t ccT0s (by omega) (by omega), ccBi, ccIf1e]
  obtain ⟨_, _, g₀⟩ := ccHP_t g₁
  have sp : ccSp w l L c = N (12 * L + c) := if_pos ⟨e₃, e₄⟩
  rcases Classical.em (∃ u, z = N u ∧ 20 ≤ u ∧ u ≤ 70) with ⟨u, f₅, f₆, f₇⟩ | g
  rotate_left
  · refine ccOk_no (E := 3) (c := 3) h₁ i₃ (fun rs => ?_) (fun rs => ?_)
    · show bI (F13 0 (N L) (N c) m rs) _ = _
      rw [ccE13 (i := 0) qr (by omega) (by omega), g₁, ccBi, ccT_t, ccE107t, ccBv, ccE117z g (by omega) (by omega), ccBvX]
    · show bI (F198 (N L) (N c) (ccM0 m) rs) _ = _
      rw [ccE198' (wm m hr) (by omega) (by omega), g₁, ccBi, ccT_t, ccIf1e, ccE264f g, ccBi, ccIf0, ccE178t ccT0s (by omega) (by omega), ccBi, ccIf1e]
  subst f₅
  refine ccOk_imp (ccChange (oc := fun m r => bI (F81 0 (N L) (N c) m r) (fun v m r => mckO (mIn v 96) (bI (F19 0 (mset m 0 0 4 (mix v) (N u)) r) (fun v m r => rI v m r)))) (om := fun M r => bI (F200 (N L) (N c) M r) (fun v m r => bV (F206 v (N 2) (N u) m r) (fun m r => bV (F212 m r) (fun m₂ r => rI (m₂ 4 0 3 1 - M 4 0 3 1) m₂ r)))) h₁ h₂ (fun mc mm k₁ k₂ k₃ k₄ k₅ => ?_)) (fun rs => ?_) (fun M rs y₁ => ?_)
  · obtain ⟨h, t, j₁, j₂, j₃, j₄, _⟩ := ccJ_of hB h₂ k₁ k₂ k₃ k₄ k₅
    have b₄ : 12 * L + c < 96 := by omega
    have cC : mset mc 0 0 4 (12 * L + c) (N u) 0 0 = ccU (mc 0 0) 4 (12 * L + c) (N u) := by simp only [ccU_set]
    have cS : mset mm 4 0 3 (250 + 4 * (12 * L + c)) (N u) 4 0 3 = ccV (mm 4 0 3) (250 + 4 * (12 * L + c)) (N u) := by simp only [ccV_set]
    have d₁ : ccJ (mset mc 0 0 4 (12 * L + c) (N u)) (mset mm 4 0 3 (250 + 4 * (12 * L + c)) (N u)) 0 w l n bd β (fun k => N (W k)) W h t := by
      have r₀ := j₁.1.2.2.2.2.2.1
      have re := r₀.2.2.2.2.1.2.2.2.2
      refine ccJ_ch j₁ (ccFr_set ccFr_rfl) (ccFq_set ccFq_rfl (by omega)) (fun j q y₁ y₂ y₃ => by rw [cC]; simp (disch := omega) only [ccU, if_neg, Nat.reduceEqDiff, eq_self, true_and, and_true, false_and, and_false, if_true, if_false]) (fun q y₁ y₂ y₃ => ?_) (fun p y₁ y₂ => ?_) ?_
      · have y₄ := (y₃ (12 * L + c) b₄).1
        rw [cS]
        simp (disch := omega) only [ccV, if_neg, Nat.reduceEqDiff, eq_self, true_and, and_true, false_and, and_false, if_true, if_false]
      · obtain ⟨_, y₃, y₄⟩ := (r₀.1 p y₁).2.2 y₂
        rw [cC, cS]
        by_cases y₅ : p = 12 * L + c
        · subst y₅
          refine ⟨?_, ?_⟩
          · simp (disch := omega) only [ccU, ccV, if_neg, Nat.reduceEqDiff, eq_self, true_and, and_true, false_and, and_false, if_true, if_false]
          · simp (disch := omega) only [ccU, ccV, if_neg, Nat.reduceEqDiff, eq_self, true_and, and_true, false_and, and_false, if_true, if_false]
            exact y₄
        · refine ⟨?_, ?_⟩
          · simp (disch := omega) only [ccU, ccV, if_neg, Nat.reduceEqDiff, eq_self, true_and, and_true, false_and, and_false, if_true, if_false]
            exact y₃
          · simp (disch := omega) only [ccU, ccV, if_neg, Nat.reduceEqDiff, eq_self, true_and, and_true, false_and, and_false, if_true, if_false]
            exact y₄
      · rw [cC, cS]
        simp (disch := omega) only [ccU, ccV, if_neg, Nat.reduceEqDiff, eq_self, true_and, and_true, false_and, and_false, if_true, if_false]
        exact re
    obtain ⟨m₁, m₂, u', v, c₁, c₂, c₃, c₄, c₅, c₆, c₇, _⟩ := ccE19 d₁
    have tv := (ccR_tt c₃.1.2.2.2.2.2.1).2
    have tt := (ccR_tt j₁.1.2.2.2.2.2.1).2
    have p₁ := ccPcs_le (C := mset mc 0 0 4 (12 * L + c) (N u) 0 0)
    have p₂ := c₄.2
    have a₂ : ∀ q, mset mc 0 0 4 (12 * L + c) (N u) 0 0 2 q = mc 0 0 2 q := fun q => by rw [cC]; simp (disch := omega) only [ccU, if_neg, Nat.reduceEqDiff, eq_self, true_and, and_true, false_and, and_false, if_true, if_false]
    have a₅ : ∀ q, mset mc 0 0 4 (12 * L + c) (N u) 0 0 5 q = mc 0 0 5 q := fun q => by rw [cC]; simp (disch := omega) only [ccU, if_neg, Nat.reduceEqDiff, eq_self, true_and, and_true, false_and, and_false, if_true, if_false]
    have a₄ : ∀ q, mset mc 0 0 4 (12 * L + c) (N u) 0 0 4 q = if q = 12 * L + c then N u else mc 0 0 4 q := fun q => by rw [cC]; simp (disch := omega) only [ccU, if_neg, Nat.reduceEqDiff, eq_self, true_and, and_true, false_and, and_false, if_true, if_false]
    have nn : ccQn (N lm) (m₁ 0 0) := ccQn_G c₄ ⟨fun q y₁ => by
      have y₂ := j₄.1 q y₁
      unfold ccBdw ccP at y₂ ⊢
      rw [a₂, a₅]
      exact y₂, fun q y₁ y₂ => by
      rw [a₂] at y₂
      rw [a₄, a₅]
      by_cases y₃ : q = 12 * L + c
      · rw [if_pos y₃]
        exact ⟨⟨u, rfl, f₆, f₇⟩, (j₄.2 q y₁ y₂).2⟩
      · rw [if_neg y₃]
        exact j₄.2 q y₁ y₂⟩
    refine ⟨m₁, m₂, N v - N t, fun rs => ?_, fun rs => ?_, ccFr_trans (ccFr_set ccFr_rfl) c₅, ccFq_trans (ccFq_set ccFq_rfl (by omega)) c₆, ccKK_of c₃ c₇ nn (by omega)⟩
    · show bI (F81 0 (N L) (N c) mc rs) _ = _
      rw [ccE81 (r := 0) j₁.1.1 (by omega) (by omega), ccBi, sp, ccMckIn b₄ (by omega), mix_N (by omega), c₁, ccBi]
    · show bI (F200 (N L) (N c) mm rs) _ = _
      rw [ccE200, ccBi, ccE206c b₄, ccBv, c₂, ccBv, tv, tt]
  · show bI (F13 0 (N L) (N c) m rs) _ = _
    rw [ccE13 (i := 0) qr (by omega) (by omega), g₁, ccBi, ccT_t, ccE107t, ccBv, ccE117 (by omega) (by omega) (by omega), if_pos ⟨f₆, f₇⟩, ccBv]
  · show bI (F198 (N L) (N c) (ccM0 M) rs) _ = _
    rw [ccE198' (wm M y₁) (by omega) (by omega), g₁, ccBi, ccT_t, ccIf1e, ccE264t f₆ f₇, ccBi, ccIf1, ccE178f ccT0s, ccBi, ccIf0e]
/-! time goes by -/
def ccDec (X : Nat) (y : Int32) : Int32 := if N 0 < y - N X then y - N X else N 0
def ccCalm (X : Nat) (C D : Nat → Nat → Int32) (b : Nat) : Prop := (∀ j p, j ≠ 5 → D j p = C j p) ∧ ∀ p, p < 96 → D 5 p = if p < b ∧ ccP C p = true then ccDec X (C 5 p) else C 5 p
def ccWc3 (X : Nat) (C : Nat → Nat → Int32) : Nat → Bool := fun p => ccP C p && decide (N 0 < ccDec X (C 5 p))
theorem ccL58 {X : Nat} {C : Nat → Nat → Int32} {m₀ : mMi} : ∀ d p m, p + d = 96 → ccFr 0 m₀ m → ccCalm X C (m 0 0) p →
    ∃ m₁, (∀ f rs, F58_4 0 (f + d + 1) (N X) (N (ccCnt (ccWc3 X C) p)) (N p) m rs = rI (N (ccCnt (ccWc3 X C) 96)) m₁ rs) ∧ ccFr 0 m₀ m₁ ∧ ccCalm X C (m₁ 0 0) 96 := by
  intro d
  induction d with
  | zero =>
    intro p m g₁ g₂ g₃
    have e₁ : p = 96 := by omega
    subst e₁
    refine ⟨m, fun f rs => ?_, g₂, g₃⟩
    have e₀ : N 96 ≤ N 96 := by rw [N_le (by omega) (by omega)]; omega
    rw [ccL58_4, ccIte, if_pos e₀]
  | succ d i₁ =>
    intro p m g₁ g₂ g₃
    have e₀ : ¬ N 96 ≤ N p := by rw [N_le (by omega) (by omega)]; omega
    have e₂ : ccP (m 0 0) p = ccP C p := by unfold ccP; rw [g₃.1 2 p (by omega)]
    cases g₄ : ccP C p
    · obtain ⟨m₁, a₁, a₂, a₃⟩ := i₁ (p + 1) m (by omega) g₂ ⟨g₃.1, fun q y₁ => by
        rw [g₃.2 q y₁]
        by_cases y₂ : q = p
        · subst y₂
          rw [if_neg (by omega), if_neg (fun y₃ => by rw [g₄] at y₃; cases y₃.2)]
        · by_cases y₃ : q < p ∧ ccP C q = true
          · rw [if_pos y₃, if_pos ⟨by omega, y₃.2⟩]
          · rw [if_neg y₃, if_neg (fun y₄ => y₃ ⟨by omega, y₄.2⟩)]⟩
      refine ⟨m₁, fun f rs => ?_, a₂, a₃⟩
      have e₁ : f + (d + 1) + 1 = f + d + 1 + 1 := by omega
      have e₃ : ccCnt (ccWc3 X C) (p + 1) = ccCnt (ccWc3 X C) p := by
        rw [ccCnt_s]
        unfold ccWc3
        rw [g₄]
        rfl
      have e₄ := a₁ f rs
      rw [e₃] at e₄
      rw [e₁, ccL58_4, ccIte, if_neg e₀, ccE51 (by omega), e₂, g₄, ccBi, ccT_f, ccIf0e, N_add]
      exact e₄
    · have g₅ : m 0 0 5 p = C 5 p := by rw [g₃.2 p (by omega), if_neg (fun y₁ => by omega)]
      obtain ⟨m₁, a₁, a₂, a₃⟩ := i₁ (p + 1) (mset m 0 0 5 p (ccDec X (C 5 p))) (by omega) (ccFr_set g₂) ⟨fun j q y₁ => by rw [ccRd, if_neg (by omega)]; exact g₃.1 j q y₁, fun q y₁ => by
        rw [ccRd]
        by_cases y₂ : q = p
        · subst y₂
          rw [if_pos ⟨rfl, rfl, rfl, rfl⟩, if_pos ⟨by omega, g₄⟩]
        · rw [if_neg (by omega), g₃.2 q y₁]
          by_cases y₃ : q < p ∧ ccP C q = true
          · rw [if_pos y₃, if_pos ⟨by omega, y₃.2⟩]
          · rw [if_neg y₃, if_neg (fun y₄ => y₃ ⟨by omega, y₄.2⟩)]⟩
      refine ⟨m₁, fun f rs => ?_, a₂, a₃⟩
      have e₁ : f + (d + 1) + 1 = f + d + 1 + 1 := by omega
      have e₄ := a₁ f rs
      rw [ccCnt_s] at e₄
      have e₅ : ccWc3 X C p = decide (N 0 < ccDec X (C 5 p)) := by unfold ccWc3; rw [g₄]; rfl
      rw [e₅] at e₄
      have e₆ : (if N 0 < C 5 p - N X then C 5 p - N X else N 0) = ccDec X (C 5 p) := rfl
      rw [e₁, ccL58_4, ccIte, if_neg e₀, ccE51 (by omega), e₂, g₄, ccBi, ccT_t, ccIf1e, ccMckIn (by omega : p < 96) (by omega), ccMckIn (by omega : p < 96) (by omega), ccMckIn (by omega : p < 96) (by omega), mix_N (by omega), g₅, e₆, mset_same, ccIte, N_add, N_add, N_add]
      by_cases g₆ : N 0 < ccDec X (C 5 p)
      · rw [decide_eq_true g₆, if_pos rfl] at e₄
        rw [if_neg (fun y₁ => ccLeLt.mp y₁ g₆)]
        exact e₄
      · rw [decide_eq_false g₆, if_neg (by decide)] at e₄
        rw [if_pos (ccLeLt.mpr g₆)]
        exact e₄
def ccCalm2 (X b : Nat) (s u : Nat → Int32) : Prop := (∀ q, (∀ p, p < 96 → q ≠ 251 + 4 * p) → u q = s q) ∧ ∀ p, p < 96 → u (251 + 4 * p) = if p < b then ccDec X (s (251 + 4 * p)) else s (251 + 4 * p)
theorem ccL300 {cl x : Nat} {s : Nat → Int32} {m₀ : mMi} (h₀ : m₀ 4 0 0 6 = N cl) : ∀ d p m, p + d = 96 → ccFq m₀ m → ccCalm2 (x * cl) p s (m 4 0 3) →
    ∃ m₁, (∀ f rs, F300_12 (f + d + 1) (N x) (N p) m rs = rV m₁ rs) ∧ ccFq m₀ m₁ ∧ ccCalm2 (x * cl) 96 s (m₁ 4 0 3) := by
  intro d
  induction d with
  | zero =>
    intro p m g₁ g₂ g₃
    have e₁ : p = 96 := by omega
    subst e₁
    refine ⟨m, fun f rs => ?_, g₂, g₃⟩
    have e₀ : N 96 ≤ N 96 := by rw [N_le (by omega) (by omega)]; omega
    rw [ccL300_12, ccIte, if_pos e₀]
  | succ d i₁ =>
    intro p m g₁ g₂ g₃
    have e₀ : ¬ N 96 ≤ N p := by rw [N_le (by omega) (by omega)]; omega
    have e₂ : m 4 0 3 (251 + 4 * p) = s (251 + 4 * p) := by rw [g₃.2 p (by omega), if_neg (by omega)]
    have e₃ : m 4 0 0 6 = N cl := by rw [g₂ 4 0 0 6 (by omega) (by omega)]; exact h₀
    obtain ⟨m₁, a₁, a₂, a₃⟩ := i₁ (p + 1) (mset m 4 0 3 (251 + 4 * p) (ccDec (x * cl) (s (251 + 4 * p)))) (by omega) (ccFq_set g₂ (by omega)) ⟨fun q y₁ => by
      have y₂ := y₁ p (by omega)
      rw [ccRd, if_neg (by omega)]
      exact g₃.1 q y₁, fun q y₁ => by
      rw [ccRd]
      by_cases y₂ : q = p
      · subst y₂
        rw [if_pos ⟨rfl, rfl, rfl, rfl⟩, if_pos (by omega)]
      · rw [if_neg (by omega), g₃.2 q y₁]
        by_cases y₃ : q < p
        · rw [if_pos y₃, if_pos (by omega)]
        · rw [if_neg y₃, if_neg (by omega)]⟩
    refine ⟨m₁, fun f rs => ?_, a₂, a₃⟩
    have e₁ : f + (d + 1) + 1 = f + d + 1 + 1 := by omega
    have e₄ : N cl * N x = N (x * cl) := by rw [N_mul, Nat.mul_comm]
    have e₆ : (if N 0 < s (251 + 4 * p) - N (x * cl) then s (251 + 4 * p) - N (x * cl) else N 0) = ccDec (x * cl) (s (251 + 4 * p)) := rfl
    rw [e₁, ccL300_12, ccIte, if_neg e₀, ccE201d (by omega), ccBi, e₂, e₃, e₄, e₆, ccE206d (by omega), ccBv, N_add]
    exact a₁ f rs
theorem ccL301 {m : mMi} {X : Nat} {C D : Nat → Nat → Int32} (q₁ : ccRA D (m 4 0 3)) (h₁ : ccCalm X C D 96) : ∀ d p f rs, p + d = 96 → F301_4 (f + d + 1) (N (ccCnt (ccWc3 X C) p)) (N p) m rs = rI (N (ccCnt (ccWc3 X C) 96)) m rs := by
  intro d
  induction d with
  | zero =>
    intro p f rs g₁
    have e₁ : p = 96 := by omega
    subst e₁
    have e₀ : N 96 ≤ N 96 := by rw [N_le (by omega) (by omega)]; omega
    rw [ccL301_4, ccIte, if_pos e₀]
  | succ d i₁ =>
    intro p f rs g₁
    have e₀ : ¬ N 96 ≤ N p := by rw [N_le (by omega) (by omega)]; omega
    have e₁ : f + (d + 1) + 1 = f + d + 1 + 1 := by omega
    have e₂ := i₁ (p + 1) f rs (by omega)
    obtain ⟨f₁, _, f₃⟩ := q₁ p (by omega)
    rw [ccCnt_s] at e₂
    rw [e₁, ccL301_4, ccIte, if_neg e₀, ccE201a (by omega), ccBi, f₁, h₁.1 2 p (by omega)]
    cases g₄ : ccP C p
    · have g₅ := ccP_f g₄
      have e₅ : ccWc3 X C p = false := by unfold ccWc3; rw [g₄]; rfl
      rw [e₅, if_neg (by decide)] at e₂
      rw [ccIte, if_pos g₅, ccE224f, ccBi, N_add, N_add]
      exact e₂
    · have g₅ := ccP_t g₄
      have e₅ : ccWc3 X C p = decide (N 0 < ccDec X (C 5 p)) := by unfold ccWc3; rw [g₄]; rfl
      have e₆ := (f₃ (by rw [h₁.1 2 p (by omega)]; exact g₅)).2.2
      rw [h₁.2 p (by omega), if_pos ⟨by omega, g₄⟩] at e₆
      rw [e₅] at e₂
      rw [ccIte, if_neg g₅, ccE201d (by omega), ccBi, e₆, ccIte]
      by_cases g₆ : N 0 < ccDec X (C 5 p)
      · rw [decide_eq_true g₆, if_pos rfl] at e₂
        rw [if_neg (fun y₁ => ccLeLt.mp y₁ g₆), ccE224t, ccBi, N_add, N_add]
        exact e₂
      · rw [decide_eq_false g₆, if_neg (by decide)] at e₂
        rw [if_pos (ccLeLt.mpr g₆), ccE224f, ccBi, N_add, N_add]
        exact e₂
theorem ccDec_n {X z : Nat} (h₁ : z < 2000000000) (h₂ : X < 1000000) : ccDec X (N z) = N (z - X) := by
  unfold ccDec
  by_cases g₁ : X < z
  · have e₁ : N z - N X = N (z - X) := N_sub (by omega)
    have e₂ : N 0 < N (z - X) := by rw [N_lt (by omega) (by omega)]; omega
    rw [e₁, if_pos e₂]
  · have e₁ : N z - N X = I ((z : Int) - (X : Int)) := by rw [← I_N, ← I_N, I_sub]
    have e₂ : ¬ N 0 < I ((z : Int) - (X : Int)) := by
      rw [← I_N, I_lt (by omega) (by omega) (by omega) (by omega)]
      omega
    have e₃ : z - X = 0 := by omega
    rw [e₁, if_neg e₂, e₃]
theorem ccOk_164 {B : Nat} {m : mMi} {x : Int32} (hB : B ≤ 900000000) (h₁ : ccTop B m) : ccOk B (F164 x) (F299 x) [(1, 1), (3, 2)] m := by
  refine ccOk_textn (b := N 0) h₁ (List.mem_cons_self) (fun m rs => rfl) (fun m rs => rfl) (fun w l n bd lm dp cl β W h₂ => ?_)
  obtain ⟨h', t', q₁, _⟩ := ccLd_R h₂
  obtain ⟨z, z₁, z₂⟩ := q₁.2.2.2.2.1.2.2.2.2.2.2
  have z₃ : m 4 0 3 0 = N z := by rw [q₁.2.2.2.2.1.2.2.2.2.1]; exact z₁
  have i₂ : (3, 2) ∈ [(1, 1), (3, 2)] := List.mem_cons_of_mem _ List.mem_cons_self
  rcases Classical.em (∃ a, x = N a ∧ 1 ≤ a ∧ a ≤ 100) with ⟨a, e₁, e₂, e₃⟩ | g
  rotate_left
  · have e₀ : N 100 = N 101 - N 1 := rfl
    refine ccOk_no (E := 3) (c := 2) h₁ i₂ (fun rs => ?_) (fun rs => ?_)
    · show bV (F117 x (N 1) (N 100) m rs) _ = _
      rw [ccE117z g (by omega) (by omega), ccBvX]
    · show bI (F177 x (N 1) (N 100) (ccM0 m) rs) _ = _
      rw [e₀, ccE177z (fun ⟨a, y₁, y₂, y₃⟩ => g ⟨a, y₁, y₂, by omega⟩) (by omega) (by omega), ccBi, ccIf0e, ccE178t ccT0s (by omega) (by omega), ccBi, ccIf1e]
  subst e₁
  have c₁ : ∀ rs, F177 (N a) (N 1) (N 100) (ccM0 m) rs = rI (N 1) (ccM0 m) rs := fun rs => by
    rw [ccE177' (by omega) (by omega) (by omega), decide_eq_true e₂, decide_eq_true e₃]
    rfl
  by_cases g₁ : z + a ≤ 9999
  rotate_left
  · have g₂ : N 9999 < N (z + a) := by rw [N_lt (by omega) (by omega)]; omega
    have g₃ : ¬ N (z + a) ≤ N 9999 := by rw [N_le (by omega) (by omega)]; exact g₁
    refine ccOk_no (E := 3) (c := 2) h₁ i₂ (fun rs => ?_) (fun rs => ?_)
    · show bV (F117 (N a) (N 1) (N 100) m rs) _ = _
      rw [ccE117 (by omega) (by omega) (by omega), if_pos ⟨e₂, e₃⟩, ccBv, z₁, N_add, ccIte, if_pos g₂, ccE107f, ccBvX]
    · show bI (F177 (N a) (N 1) (N 100) (ccM0 m) rs) _ = _
      rw [c₁, ccBi, ccIf1e, ccM0_r (by omega), z₃, N_add, ccIte, if_neg g₃, ccE178t ccT0s (by omega) (by omega), ccBi, ccIf1e]
  have g₂ : ¬ N 9999 < N (z + a) := by rw [N_lt (by omega) (by omega)]; omega
  have g₃ : N (z + a) ≤ N 9999 := by rw [N_le (by omega) (by omega)]; exact g₁
  have c₃ : cl ≤ 20 := h₂.2.2.1.2.2.2.2.2.1.2.2
  refine ccOk_imp (ccChange (oc := fun m r => bI (F58 0 (N a * m 1 0 1 4) (mset m 0 0 0 5 (m 0 0 0 5 + N a)) r) (fun v m r => rI v m r)) (om := fun M r => bV (F300 (N a) M r) (fun m r => bI (F301 m r) (fun v m r => rI v m r))) h₁ h₂ (fun mc mm k₁ k₂ k₃ k₄ k₅ => ?_)) (fun rs => ?_) (fun M rs y₁ => ?_)
  · obtain ⟨h, t, j₁, j₂, j₃, j₄, j₅, j₆, j₇, j₈, j₉, j₁₀⟩ := ccJ_of hB h₂ k₁ k₂ k₃ k₄ k₅
    have r₀ := j₁.1.2.2.2.2.2.1
    have re := r₀.2.2.2.2.1.2.2.2.2
    have t₁ : mc 0 0 0 5 = N z := by rw [k₁]; exact z₁
    have t₂ : mm 4 0 3 0 = N z := by rw [k₃]; exact z₃
    have u₁ : mc 0 0 0 5 + N a = N (z + a) := by rw [t₁, N_add]
    have u₂ : mm 4 0 3 0 + N a = N (z + a) := by rw [t₂, N_add]
    obtain ⟨X, hX⟩ : ∃ X, X = a * cl := ⟨_, rfl⟩
    have bX : X ≤ 2000 := by
      have y₁ := Nat.mul_le_mul e₃ c₃
      omega
    have cC : ∀ j p, ¬ (j = 0 ∧ p = 5) → mset mc 0 0 0 5 (N (z + a)) 0 0 j p = mc 0 0 j p := fun j p y₁ => by rw [ccRd, if_neg (by omega)]
    have cS : ∀ q, q ≠ 0 → mset mm 4 0 3 0 (N (z + a)) 4 0 3 q = mm 4 0 3 q := fun q y₁ => by rw [ccRd, if_neg (by omega)]
    obtain ⟨m₁, a₁, a₂, a₃⟩ := ccL58 (X := X) (C := mset mc 0 0 0 5 (N (z + a)) 0 0) (m₀ := mc) 96 0 (mset mc 0 0 0 5 (N (z + a))) (by omega) (ccFr_set ccFr_rfl) ⟨fun _ _ _ => rfl, fun p y₁ => by rw [if_neg (fun y₂ => by omega)]⟩
    obtain ⟨m₂, d₁, d₂, d₃⟩ := ccL300 (cl := cl) (x := a) (s := mset mm 4 0 3 0 (N (z + a)) 4 0 3) (m₀ := mm) j₁₀ 96 0 (mset mm 4 0 3 0 (N (z + a))) (by omega) (ccFq_set ccFq_rfl (by omega)) ⟨fun _ _ => rfl, fun p y₁ => by rw [if_neg (fun y₂ => by omega)]⟩
    rw [← hX] at d₃
    have pp : ∀ p, ccP (mset mc 0 0 0 5 (N (z + a)) 0 0) p = ccP (mc 0 0) p := fun p => by unfold ccP; rw [cC 2 p (by omega)]
    have w₅ : ∀ p, p < 96 → m₁ 0 0 5 p = if ccP (mc 0 0) p = true then ccDec X (mc 0 0 5 p) else mc 0 0 5 p := fun p y₁ => by
      rw [a₃.2 p y₁, pp, cC 5 p (by omega)]
      by_cases y₂ : ccP (mc 0 0) p = true
      · rw [if_pos ⟨y₁, y₂⟩, if_pos y₂]
      · rw [if_neg (fun y₃ => y₂ y₃.2), if_neg y₂]
    have oC : ∀ j p, j ≠ 5 → ¬ (j = 0 ∧ p = 5) → m₁ 0 0 j p = mc 0 0 j p := fun j p y₁ y₂ => by rw [a₃.1 j p y₁, cC j p y₂]
    have tm : m₁ 0 0 0 5 = N (z + a) := by rw [a₃.1 0 5 (by omega), ccRd, if_pos ⟨rfl, rfl, rfl, rfl⟩]
    have j₂₁ : ccJ m₁ m₂ 0 w l n bd β (fun k => N (W k)) W h t := by
      refine ccJ_ch j₁ a₂ d₂ (fun j p y₁ y₂ y₃ => oC j p y₂ (by omega)) (fun q y₁ y₂ y₃ => ?_) (fun p y₁ y₂ => ?_) ⟨?_, ?_, ?_⟩
      · rw [d₃.1 q (fun p y₄ => (y₃ p y₄).2), cS q y₁]
      · obtain ⟨_, y₃, y₄⟩ := (r₀.1 p y₁).2.2 y₂
        have y₅ : ccP (mc 0 0) p = true := by unfold ccP; rw [decide_eq_false y₂]; rfl
        refine ⟨?_, ?_⟩
        · rw [d₃.1 _ (fun p _ => by omega), cS _ (by omega), oC 4 p (by omega) (by omega)]
          exact y₃
        · rw [d₃.2 p y₁, if_pos y₁, cS _ (by omega), w₅ p y₁, if_pos y₅, y₄]
      · rw [d₃.1 0 (fun p _ => by omega), tm, ccRd, if_pos ⟨rfl, rfl, rfl, rfl⟩]
      · rw [d₃.1 6 (fun p _ => by omega), cS 6 (by omega), oC 0 6 (by omega) (by omega)]
        exact re.2.1
      · exact ⟨z + a, tm, g₁⟩
    have o₂ : ∀ p, m₁ 0 0 2 p = mc 0 0 2 p := fun p => oC 2 p (by omega) (by omega)
    have qt : ccQt W (m₁ 0 0) w l := ccQt_congr o₂ (fun p => oC 3 p (by omega) (by omega)) (fun p => oC 6 p (by omega) (by omega)) (fun p => oC 4 p (by omega) (by omega)) (fun p => oC 11 p (by omega) (by omega)) j₃
    have b₄ : lm ≤ 99 := h₂.2.2.1.2.2.2.1.2.2
    have vw : ∀ p, p < 96 → mc 0 0 2 p ≠ I (-1) → ∃ y, m₁ 0 0 5 p = N y ∧ y ≤ lm := fun p y₁ y₂ => by
      obtain ⟨y, y₃, y₄⟩ := ccWbl j₄ b₄ y₁ y₂
      have y₅ : ccP (mc 0 0) p = true := by unfold ccP; rw [decide_eq_false y₂]; rfl
      exact ⟨y - X, by rw [w₅ p y₁, if_pos y₅, y₃, ccDec_n (by omega) (by omega)], by omega⟩
    have nn : ccQn (N lm) (m₁ 0 0) := ⟨fun p y₁ => by
      unfold ccBdw ccP
      rw [o₂]
      by_cases y₂ : mc 0 0 2 p = I (-1)
      · rw [y₂]
        rfl
      · obtain ⟨y, y₃, y₄⟩ := vw p y₁ y₂
        have y₅ : ¬ N lm < N y := by rw [N_lt (by omega) (by omega)]; omega
        rw [y₃, decide_eq_false y₅, Bool.and_false], fun p y₁ y₂ => by
      rw [o₂] at y₂
      obtain ⟨y, y₃, y₄⟩ := vw p y₁ y₂
      rw [oC 4 p (by omega) (by omega)]
      exact ⟨(j₄.2 p y₁ y₂).1, y, y₃, by omega⟩⟩
    refine ⟨m₁, m₂, N (ccCnt (ccWc3 X (mset mc 0 0 0 5 (N (z + a)) 0 0)) 96), fun rs => ?_, fun rs => ?_, a₂, d₂, ccKK_of j₂₁ qt nn (by omega)⟩
    · obtain ⟨f, hf⟩ := ccFU (k := 96) (by omega)
      have y₁ := a₁ f rs
      show bI (F58 0 (N a * mc 1 0 1 4) (mset mc 0 0 0 5 (mc 0 0 0 5 + N a)) rs) _ = _
      rw [j₉, N_mul, ← hX, u₁]
      unfold F58
      rw [hf]
      show bI (F58_4 0 (f + 96 + 1) (N X) (N (ccCnt (ccWc3 X (mset mc 0 0 0 5 (N (z + a)) 0 0)) 0)) (N 0) (mset mc 0 0 0 5 (N (z + a))) rs) _ = _
      rw [y₁, ccBi]
    · obtain ⟨f, hf⟩ := ccFU (k := 96) (by omega)
      have y₁ := d₁ f rs
      show bV (F300 (N a) mm rs) _ = _
      unfold F300
      rw [hf, u₂, y₁, ccBv]
      unfold F301
      rw [hf]
      show bI (F301_4 (f + 96 + 1) (N (ccCnt (ccWc3 X (mset mc 0 0 0 5 (N (z + a)) 0 0)) 0)) (N 0) m₂ rs) _ = _
      rw [ccL301 (X := X) (C := mset mc 0 0 0 5 (N (z + a)) 0 0) j₂₁.1.2.2.2.2.2.1.1 a₃ 96 0 f rs (by omega), ccBi]
  · show bV (F117 (N a) (N 1) (N 100) m rs) _ = _
    rw [ccE117 (by omega) (by omega) (by omega), if_pos ⟨e₂, e₃⟩, ccBv, z₁, N_add, ccIte, if_neg g₂, ccE107t, ccBv]
  · show bI (F177 (N a) (N 1) (N 100) (ccM0 M) rs) _ = _
    have o₁ : F177 (N a) (N 1) (N 100) (ccM0 M) rs = rI (N 1) (ccM0 M) rs := by
      rw [ccE177' (by omega) (by omega) (by omega), decide_eq_true e₂, decide_eq_true e₃]
      rfl
    rw [o₁, ccBi, ccIf1e, ccM0_r (by omega), y₁, z₃, N_add, ccIte, if_pos g₃, ccE178f ccT0s, ccBi, ccIf0e]
