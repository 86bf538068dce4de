/-! CALLS: strengthOf, stiffest, inHand, calmIn. -/
theorem ccE264t {m : mMi} {rs : mRs} {u : Nat} (h₁ : 20 ≤ u) (h₂ : u ≤ 70) : F264 (N u) m rs = rI (N 1) m rs := by
  unfold F264
  rw [ccE177' (by omega) (by omega) (by omega), decide_eq_true h₁, decide_eq_true h₂]
  rfl
theorem ccE264f {m : mMi} {rs : mRs} {z : Int32} (h₁ : ¬ ∃ u, z = N u ∧ 20 ≤ u ∧ u ≤ 70) : F264 z m rs = rI (N 0) m rs := by
  have e₀ : N 70 = N 71 - N 1 := rfl
  unfold F264
  rw [e₀, ccE177z (fun ⟨a, y₁, y₂, y₃⟩ => h₁ ⟨a, y₁, y₂, by omega⟩) (by omega) (by omega)]
  rfl
/-- a refusal behind what was asked already -/
theorem ccOk_no {B E c : Nat} {Fc Fm : mMi → mRs → mRz} {ec : List (Nat × Nat)} {m : mMi} (h₁ : ccTop B m) (h₀ : (E, c) ∈ ec) (h₂ : ∀ rs, Fc m rs = rX E m (rsT rs)) (h₃ : ∀ rs, Fm m rs = rI (N 0) (mset (ccM0 m) 4 0 0 0 (N c)) rs) : ccOk B Fc Fm ec m :=
  ccOk_x h₁ h₀ h₂ h₃ ccT0s (ccEq_t (ccEq_t ccEq_rfl))
theorem ccOk_139 {B : Nat} {m : mMi} {x y z : Int32} (h₁ : ccTop B m) : ccOk B (F139 x y z) (F263 x y z) [(1, 1), (2, 2), (3, 3)] m := by
  refine ccOk_card (b := N 0) h₁ (List.mem_cons_self) (List.mem_cons_of_mem _ List.mem_cons_self) (fun m rs => rfl) (fun m rs => rfl) (fun w l n bd lm dp cl β W a h₂ e₁ e₂ => ?_)
  have h₀ := h₂.1
  have qr : ccRu m 0 w l n := h₂.2.2.1.1
  have b₃ : n ≤ 40 := qr.2.2.2.2.2.2.2
  have qm : ccMo (ccM0 m) w l n := ccM0_mo h₂.2.2.1.2.1
  subst e₁
  rcases Classical.em (∃ b, y = N b ∧ b < n) with ⟨b, f₁, f₂⟩ | g
  rotate_left
  · refine ccOk_no (E := 2) (c := 2) h₁ (List.mem_cons_of_mem _ List.mem_cons_self) (fun rs => ?_) (fun rs => ?_)
    · show bV (F120 y m rs) _ = _
      rw [ccE120f h₀ qr g, ccBvX]
    · show bI (F239 y (ccM0 m) rs) _ = _
      rw [ccE239f qm g, ccBi, ccIf0, ccE178t ccT0s (by omega) (by omega), ccBi, ccIf1]
  subst f₁
  by_cases g₁ : a = b
  · subst g₁
    refine ccOk_no (E := 3) (c := 3) h₁ (List.mem_cons_of_mem _ (List.mem_cons_of_mem _ List.mem_cons_self)) (fun rs => ?_) (fun rs => ?_)
    · show bV (F120 (N a) m rs) _ = _
      rw [ccE120t h₀ qr f₂, ccBv, ccIte, if_pos rfl, ccE107f, ccBvX]
    · show bI (F239 (N a) (ccM0 m) rs) _ = _
      rw [ccE239t qm f₂, ccBi, ccIf1, ccE178f ccT0s, ccBi, ccIf0, ccIte, if_pos rfl, ccE178t ccT0s (by omega) (by omega), ccBi, ccIf1e]
  have g₂ : ¬ N a = N b := by rw [N_eq (by omega) (by omega)]; exact g₁
  rcases Classical.em (∃ u, z = N u ∧ 20 ≤ u ∧ u ≤ 70) with ⟨u, f₃, f₄, f₅⟩ | g₃
  · subst f₃
    obtain ⟨h, t, q₁, _⟩ := ccLd_R h₂
    have r₁ := (q₁.2.2.1 a e₂).1.1
    have r₂ := (q₁.2.2.1 b f₂).1.1
    have u₁ : mset m 4 0 0 0 (N 0) 4 0 3 (8 + 6 * a) = m 4 0 3 (8 + 6 * a) := ccM0_r (m := m) (j := 3) (p := 8 + 6 * a) (by omega)
    have u₂ : mset m 4 0 0 0 (N 0) 4 0 3 (8 + 6 * b) = m 4 0 3 (8 + 6 * b) := ccM0_r (m := m) (j := 3) (p := 8 + 6 * b) (by omega)
    refine ccOk_r0 (v := ccSB (m 0 0 11 a + m 0 0 11 b) (N u)) h₁ (fun rs => ?_) (fun rs => ?_)
    · show bV (F120 (N b) m rs) _ = _
      rw [ccE120t h₀ qr f₂, ccBv, ccIte, if_neg g₂, ccE107t, ccBv, ccE117 (by omega) (by omega) (by omega), if_pos ⟨f₄, f₅⟩, ccBv, ccMckIn (by omega : a < 40) (by omega), ccMckIn (by omega : b < 40) (by omega), mix_N (by omega), mix_N (by omega), ccE110, ccBi]
    · show bI (F239 (N b) (ccM0 m) rs) _ = _
      rw [ccE239t qm f₂, ccBi, ccIf1, ccE178f ccT0s, ccBi, ccIf0, ccIte, if_neg g₂, ccE264t f₄ f₅, ccBi, ccIf1, ccE178f ccT0s, ccBi, ccIf0e, ccE204a (by omega), ccBi, ccE204a (by omega), ccBi, ccE221, ccBi, u₁, u₂, r₁, r₂]
  · refine ccOk_no (E := 3) (c := 3) h₁ (List.mem_cons_of_mem _ (List.mem_cons_of_mem _ List.mem_cons_self)) (fun rs => ?_) (fun rs => ?_)
    · show bV (F120 (N b) m rs) _ = _
      rw [ccE120t h₀ qr f₂, ccBv, ccIte, if_neg g₂, ccE107t, ccBv, ccE117z g₃ (by omega) (by omega), ccBvX]
    · show bI (F239 (N b) (ccM0 m) rs) _ = _
      rw [ccE239t qm f₂, ccBi, ccIf1, ccE178f ccT0s, ccBi, ccIf0, ccIte, if_neg g₂, ccE264f g₃, ccBi, ccIf0, ccE178t ccT0s (by omega) (by omega), ccBi, ccIf1e]
/-! the stiffest pair of cards in hand -/
def ccSt1 (H : Nat → Bool) (g : Nat → Int32) (a : Nat) : Nat → Nat → Int32 → Int32 → Int32 × Int32
  | 0, _, x, y => (x, y)
  | d + 1, b, x, y => if (H a && H b && !(decide (g a + g b ≤ y))) = true then ccSt1 H g a d (b + 1) (N (100 * a + b)) (g a + g b) else ccSt1 H g a d (b + 1) x y
def ccSt2 (H : Nat → Bool) (g : Nat → Int32) (n : Nat) : Nat → Nat → Int32 → Int32 → Int32
  | 0, _, x, _ => x
  | d + 1, a, x, y => ccSt2 H g n d (a + 1) (ccSt1 H g a d (a + 1) x y).1 (ccSt1 H g a d (a + 1) x y).2
theorem ccL140in {m : mMi} {w l n a : Nat} {C : Nat → Nat → Int32} (h₀ : m 0 0 = C) (q : ccRu m 0 w l n) (h₁ : a < n) : ∀ d b f x y rs, b + d = n → F140_10 (f + d + 1) 26 x y (N a) (N b) m rs = F140_10 f 10 (ccSt1 (ccHeld C) (C 11) a d b x y).1 (ccSt1 (ccHeld C) (C 11) a d b x y).2 (N (a + 1)) (N 0) m rs := by
  have b₃ : n ≤ 40 := q.2.2.2.2.2.2.2
  have g₀ : m 1 0 0 4 = N n := q.2.2.1
  intro d
  induction d with
  | zero =>
    intro b f x y rs g₁
    have e₀ : N n ≤ N b := by rw [N_le (by omega) (by omega)]; omega
    rw [ccL140_10_26, g₀, ccIte, if_pos e₀, N_add]
    rfl
  | succ d i₁ =>
    intro b f x y rs g₁
    have e₁ : f + (d + 1) + 1 = f + d + 1 + 1 := by omega
    have e₀ : ¬ N n ≤ N b := by rw [N_le (by omega) (by omega)]; omega
    have e₂ := i₁ (b + 1) f x y rs (by omega)
    have e₃ := i₁ (b + 1) f (N (100 * a + b)) (C 11 a + C 11 b) rs (by omega)
    have e₄ : N 100 * N a + N b = N (100 * a + b) := by rw [N_mul, N_add]
    rw [e₁, ccL140_10_26, g₀, ccIte, if_neg e₀, ccMckIn (by omega : a < 40) (by omega), ccMckIn (by omega : b < 40) (by omega), mix_N (by omega), mix_N (by omega), h₀, ccIte, N_add b 1]
    show _ = F140_10 f 10 (if (ccHeld C a && ccHeld C b && !(decide (C 11 a + C 11 b ≤ y))) = true then ccSt1 (ccHeld C) (C 11) a d (b + 1) (N (100 * a + b)) (C 11 a + C 11 b) else ccSt1 (ccHeld C) (C 11) a d (b + 1) x y).1 (if (ccHeld C a && ccHeld C b && !(decide (C 11 a + C 11 b ≤ y))) = true then ccSt1 (ccHeld C) (C 11) a d (b + 1) (N (100 * a + b)) (C 11 a + C 11 b) else ccSt1 (ccHeld C) (C 11) a d (b + 1) x y).2 (N (a + 1)) (N 0) m rs
    by_cases g₂ : C 11 a + C 11 b ≤ y
    · have g₃ : ¬ (ccHeld C a && ccHeld C b && !(decide (C 11 a + C 11 b ≤ y))) = true := by
        rw [decide_eq_true g₂, Bool.not_true, Bool.and_false]
        decide
      rw [if_pos g₂, if_neg g₃]
      exact e₂
    · rw [if_neg g₂, ccE2 (by omega), ccBi]
      have h₂ : (decide (m 0 0 13 a = I (-1))) = ccHeld C a := by rw [h₀]; rfl
      have h₃ : (decide (m 0 0 13 b = I (-1))) = ccHeld C b := by rw [h₀]; rfl
      rw [h₂]
      cases g₄ : ccHeld C a
      · rw [ccT_f, ccIf0e, if_neg (by rw [Bool.false_and, Bool.false_and]; decide)]
        exact e₂
      · rw [ccT_t, ccIf1e, ccE2 (by omega), ccBi, h₃]
        cases g₅ : ccHeld C b
        · rw [ccT_f, ccIf0e, if_neg (by rw [Bool.and_false, Bool.false_and]; decide)]
          exact e₂
        · have g₆ : (true && true && !(decide (C 11 a + C 11 b ≤ y))) = true := by rw [decide_eq_false g₂]; rfl
          rw [ccT_t, ccIf1e, if_pos g₆, e₄]
          exact e₃
theorem ccL140 {m : mMi} {w l n : Nat} {C : Nat → Nat → Int32} (h₀ : m 0 0 = C) (q : ccRu m 0 w l n) : ∀ e a f x y z rs, a + e = n → F140_10 (f + 50 * e + 1) 10 x y (N a) z m rs = rI (ccSt2 (ccHeld C) (C 11) n e a x y) m rs := by
  have b₃ : n ≤ 40 := q.2.2.2.2.2.2.2
  have g₀ : m 1 0 0 4 = N n := q.2.2.1
  intro e
  induction e with
  | zero =>
    intro a f x y z rs g₁
    have e₀ : N n ≤ N a := by rw [N_le (by omega) (by omega)]; omega
    rw [ccL140_10_10, g₀, ccIte, if_pos e₀]
    rfl
  | succ e i₁ =>
    intro a f x y z rs g₁
    have e₀ : ¬ N n ≤ N a := by rw [N_le (by omega) (by omega)]; omega
    have e₄ : f + 50 * (e + 1) + 1 = ((f + 48 - e) + 50 * e + 1) + e + 1 + 1 := by omega
    rw [e₄, ccL140_10_10, g₀, ccIte, if_neg e₀, N_add, ccL140in h₀ q (by omega) e (a + 1) _ x y rs (by omega)]
    exact i₁ (a + 1) (f + 48 - e) _ _ _ rs (by omega)
theorem ccHeldm {n k : Nat} {β : Nat → Int32} {C : Nat → Nat → Int32} {s : Nat → Int32} (q₁ : ccRC ccX0 n β C s) (h₁ : k < n) : (ccHeld C k = true ∧ s (9 + 6 * k) = N 0) ∨ (ccHeld C k = false ∧ s (9 + 6 * k) ≠ N 0) := by
  rcases (q₁ k h₁).2 with ⟨h₃, _⟩ | ⟨_, e₁, e₂⟩ | ⟨_, e₁, e₂⟩ | ⟨_, p, e₀, e₁, e₃, e₂⟩
  · cases h₃
  · exact Or.inl ⟨by unfold ccHeld; rw [e₁]; rfl, e₂⟩
  · exact Or.inr ⟨by unfold ccHeld; rw [e₁]; rfl, by rw [e₂, ne_eq, N_eq (by omega) (by omega)]; omega⟩
  · refine Or.inr ⟨?_, ?_⟩
    · unfold ccHeld
      rw [e₁]
      exact decide_eq_false (fun y₁ => (ccNm (by omega)).mp y₁)
    · rcases e₂ with ⟨e₂, _⟩ | ⟨e₂, _⟩
      · rw [e₂, ne_eq, N_eq (by omega) (by omega)]
        omega
      · rw [e₂, ne_eq, N_eq (by omega) (by omega)]
        omega
theorem ccL265in {m : mMi} {w l n a : Nat} {β : Nat → Int32} {C : Nat → Nat → Int32} (q : ccMo m w l n) (q₁ : ccRC ccX0 n β C (m 4 0 3)) (h₁ : a < n) : ∀ d b f x y rs, b + d = n → F265_15 (f + d + 1) 28 x y (N a) (N b) m rs = F265_15 f 15 (ccSt1 (ccHeld C) (C 11) a d b x y).1 (ccSt1 (ccHeld C) (C 11) a d b x y).2 (N (a + 1)) (N 0) m rs := by
  have b₃ : n ≤ 40 := q.2.2.2.2.2.2.2
  have g₀ : m 4 0 0 8 = N n := q.2.2.1
  intro d
  induction d with
  | zero =>
    intro b f x y rs g₁
    have e₀ : N n ≤ N b := by rw [N_le (by omega) (by omega)]; omega
    rw [ccL265_15_28, g₀, ccIte, if_pos e₀, N_add]
    rfl
  | succ d i₁ =>
    intro b f x y rs g₁
    have e₁ : f + (d + 1) + 1 = f + d + 1 + 1 := by omega
    have e₀ : ¬ N n ≤ N b := by rw [N_le (by omega) (by omega)]; omega
    have e₂ := i₁ (b + 1) f x y rs (by omega)
    have e₃ := i₁ (b + 1) f (N (100 * a + b)) (C 11 a + C 11 b) rs (by omega)
    have e₄ : N 100 * N a + N b = N (100 * a + b) := by rw [N_mul, N_add]
    have r₁ := (q₁ a h₁).1.1
    have r₂ := (q₁ b (by omega)).1.1
    rw [e₁, ccL265_15_28, g₀, ccIte, if_neg e₀, ccE204a (by omega), ccBi, ccE204a (by omega), ccBi, ccE204b (by omega), ccBi, r₁, r₂, N_add b 1]
    show _ = F265_15 f 15 (if (ccHeld C a && ccHeld C b && !(decide (C 11 a + C 11 b ≤ y))) = true then ccSt1 (ccHeld C) (C 11) a d (b + 1) (N (100 * a + b)) (C 11 a + C 11 b) else ccSt1 (ccHeld C) (C 11) a d (b + 1) x y).1 (if (ccHeld C a && ccHeld C b && !(decide (C 11 a + C 11 b ≤ y))) = true then ccSt1 (ccHeld C) (C 11) a d (b + 1) (N (100 * a + b)) (C 11 a + C 11 b) else ccSt1 (ccHeld C) (C 11) a d (b + 1) x y).2 (N (a + 1)) (N 0) m rs
    rcases ccHeldm q₁ h₁ with ⟨g₂, g₃⟩ | ⟨g₂, g₃⟩
    · rw [g₃, ccIf0, ccE204b (by omega), ccBi, g₂]
      rcases ccHeldm q₁ (by omega : b < n) with ⟨g₄, g₅⟩ | ⟨g₄, g₅⟩
      · rw [g₅, ccIf0, g₄, ccIte]
        by_cases g₆ : C 11 a + C 11 b ≤ y
        · have g₇ : ¬ (true && true && !(decide (C 11 a + C 11 b ≤ y))) = true := by
            rw [decide_eq_true g₆]
            decide
          rw [if_pos g₆, if_neg g₇]
          exact e₂
        · have g₇ : (true && true && !(decide (C 11 a + C 11 b ≤ y))) = true := by rw [decide_eq_false g₆]; rfl
          rw [if_neg g₆, if_pos g₇, e₄]
          exact e₃
      · rw [ccIte, if_pos g₅, g₄, if_neg (by rw [Bool.and_false, Bool.false_and]; decide)]
        exact e₂
    · rw [ccIte, if_pos g₃, g₂, if_neg (by rw [Bool.false_and, Bool.false_and]; decide)]
      exact e₂
theorem ccL265 {m : mMi} {w l n : Nat} {β : Nat → Int32} {C : Nat → Nat → Int32} (q : ccMo m w l n) (q₁ : ccRC ccX0 n β C (m 4 0 3)) : ∀ e a f x y z rs, a + e = n → F265_15 (f + 50 * e + 1) 15 x y (N a) z m rs = rI (ccSt2 (ccHeld C) (C 11) n e a x y) m rs := by
  have b₃ : n ≤ 40 := q.2.2.2.2.2.2.2
  have g₀ : m 4 0 0 8 = N n := q.2.2.1
  intro e
  induction e with
  | zero =>
    intro a f x y z rs g₁
    have e₀ : N n ≤ N a := by rw [N_le (by omega) (by omega)]; omega
    rw [ccL265_15_15, g₀, ccIte, if_pos e₀]
    rfl
  | succ e i₁ =>
    intro a f x y z rs g₁
    have e₀ : ¬ N n ≤ N a := by rw [N_le (by omega) (by omega)]; omega
    have e₄ : f + 50 * (e + 1) + 1 = ((f + 48 - e) + 50 * e + 1) + e + 1 + 1 := by omega
    rw [e₄, ccL265_15_15, g₀, ccIte, if_neg e₀, N_add, ccL265in q q₁ (by omega) e (a + 1) _ x y rs (by omega)]
    exact i₁ (a + 1) (f + 48 - e) _ _ _ rs (by omega)
theorem ccOk_140 {B : Nat} {m : mMi} (h₁ : ccTop B m) : ccOk B F140 F265 [(1, 1)] m := by
  refine ccOk_texte (b := N 0) h₁ (List.mem_cons_self) (fun m rs => rfl) (fun m rs => rfl) (fun w l n bd lm dp cl β W h₂ => ?_)
  obtain ⟨h, t, q₁, _⟩ := ccLd_R h₂
  have b₃ : n ≤ 40 := h₂.2.2.1.1.2.2.2.2.2.2.2
  have qm : ccMo (ccM0 m) w l n := ccM0_mo h₂.2.2.1.2.1
  have s₀ : ccM0 m 4 0 3 = m 4 0 3 := by
    funext q
    rw [ccM0_r (by omega)]
  obtain ⟨g, hg⟩ := ccFU (k := 50 * n) (by omega)
  refine ccOk_r0 (v := ccSt2 (ccHeld (m 0 0)) (m 0 0 11) n n 0 (I (-1)) (N 0)) h₁ (fun rs => ?_) (fun rs => ?_)
  · show F140_10 FU 10 (I (-1)) (N 0) (N 0) (N 0) m rs = _
    rw [hg]
    exact ccL140 rfl h₂.2.2.1.1 n 0 g _ _ _ rs (by omega)
  · show F265_15 FU 15 (I (-1)) (N 0) (N 0) (N 0) (ccM0 m) rs = _
    rw [hg]
    exact ccL265 qm (by rw [s₀]; exact q₁.2.2.1) n 0 g _ _ _ rs (by omega)
