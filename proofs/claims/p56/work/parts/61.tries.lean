/-! TRIALS whose value is asked again and again. -/
def ccGd (m mm : mMi) : Prop := ccEq m mm ∧ mm 4 0 0 0 = N 0
theorem ccEq_sym {m m₁ m₂ : mMi} (h₁ : ccEq m m₁) (h₂ : ccEq m m₂) : ccEq m₁ m₂ := fun f a j p g => Eq.trans (h₂ f a j p g) (Eq.symm (h₁ f a j p g))
theorem ccOk_gd {B : Nat} {Fc Fm : mMi → mRs → mRz} {ec : List (Nat × Nat)} {m m₁ m₂ : mMi} {v : Int32} (h₁ : ccTop B m) (h₂ : ∀ rs, Fc m rs = rI v m₁ rs) (h₃ : ∀ rs, Fm m₁ rs = rI v m₂ rs) (h₄ : ccEq m m₁) (h₅ : ccMo4 m m₁) (h₆ : ccGd m m₂) : ccOk B Fc Fm ec m :=
  ccOk_q h₁ h₂ h₃ h₆.2 h₄ (ccEq_sym h₄ h₆.1) h₅
/-- both memories of a trial, where cells of the row beyond 918 may differ -/
theorem ccJ_tr' {B : Nat} {m mc mm : mMi} {w l n bd lm dp cl : Nat} {β : Nat → Int32} {W : Nat → Nat} (hB : B ≤ 900000000) (h₂ : ccLd B m w l n bd lm dp cl β W) (g₁ : ccAg (m 0 0) (mc 0 1)) (g₂ : ∀ j p, mc 1 0 j p = m 1 0 j p) (g₃ : ccAr (m 4 0 3) (mm 4 0 3)) (g₄ : ∀ p, 2 ≤ p → p ≤ 8 → mm 4 0 0 p = m 4 0 0 p) (g₅ : ∀ p, mm 4 0 2 p = m 4 0 2 p) :
    ∃ h t, ccJ mc mm 1 w l n bd β (fun k => N (W k)) W h t ∧ t ≤ B ∧ ccQt W (mc 0 1) w l ∧ ccQn (N lm) (mc 0 1) ∧ mc 1 0 1 2 = N lm ∧ mm 4 0 0 4 = N lm ∧ mc 1 0 1 3 = N dp ∧ mm 4 0 0 5 = N dp := by
  obtain ⟨⟨a₁, a₂, a₃, a₄⟩, ⟨c₁, c₂, c₃, c₄⟩, ⟨d₁, d₂, d₃⟩, ⟨d₄, d₅, d₆⟩, ⟨d₇, d₈, d₉⟩, ⟨f₁, f₂, f₃⟩, f₄, f₅, f₆, f₇, f₈⟩ := h₂.2.2.1
  obtain ⟨h, t, r₁, r₂, r₃, r₄, r₅, r₆⟩ := ccK_ag (u := mm 4 0 3) h₂.2.2.2.1 a₄.2.1 a₄.2.2.2.1 a₄.2.2.2.2 g₁ g₃
  have p₁ := ccPcs_le (C := mc 0 1)
  exact ⟨h, t, ⟨⟨⟨Eq.trans (g₂ 1 0) a₁, Eq.trans (g₂ 1 1) a₂, Eq.trans (g₂ 0 4) a₃, a₄⟩, Eq.trans (g₂ 1 5) d₁, ⟨by rw [g₄ 2 (by omega) (by omega)]; exact c₁, by rw [g₄ 3 (by omega) (by omega)]; exact c₂, by rw [g₄ 8 (by omega) (by omega)]; exact c₃, c₄⟩, by rw [g₄ 7 (by omega) (by omega)]; exact d₂, d₃, r₁, r₂, by omega⟩, r₃, fun k y₁ => Eq.trans (g₂ 4 k) (f₄ k y₁), fun k y₁ => by rw [g₅]; exact f₅ k y₁, f₆⟩, r₆, r₄, r₅, by rw [g₂]; exact d₄, by rw [g₄ 4 (by omega) (by omega)]; exact d₅, by rw [g₂]; exact d₇, by rw [g₄ 5 (by omega) (by omega)]; exact d₈⟩
theorem ccGd_18 {m mc : mMi} (h₁ : ccEq m mc) : ∃ m₁, (∀ rs, F18 1 0 mc rs = rV m₁ rs) ∧ ccEq m m₁ ∧ ccAg (m 0 0) (m₁ 0 1) ∧ (∀ j p, m₁ 1 0 j p = m 1 0 j p) ∧ ∀ a j p, m₁ 4 a j p = mc 4 a j p := by
  obtain ⟨m₁, k₁, k₂, k₃⟩ := ccE18 (m := mc) (i := 1) (i₂ := 0) (by omega)
  rw [ccEq_0 h₁ (by omega) (by omega)] at k₃
  refine ⟨m₁, k₁, fun f a j p g₁ => ?_, k₃, fun j p => ?_, fun a j p => k₂ 4 a j p (by omega)⟩
  · unfold ccJk at g₁
    rw [k₂ f a j p (by omega)]
    exact h₁ f a j p (by unfold ccJk; omega)
  · rw [k₂ 1 0 j p (by omega)]
    exact h₁ 1 0 j p (by unfold ccJk; omega)
theorem ccGd_255 {m mm : mMi} (h₁ : ccEq m mm) : ccAr (m 4 0 3) (ccCp mm 4 0 3 0 918 4 0 3) ∧ (∀ p, 2 ≤ p → p ≤ 8 → ccCp mm 4 0 3 0 918 4 0 0 p = m 4 0 0 p) ∧ (∀ p, ccCp mm 4 0 3 0 918 4 0 2 p = m 4 0 2 p) := by
  refine ⟨fun q g₁ => ?_, fun p g₁ g₂ => ?_, fun p => ?_⟩
  · rw [ccCp_o (by omega)]
    exact h₁ 4 0 3 q (by unfold ccJk; omega)
  · rw [ccCp_o (by omega)]
    exact h₁ 4 0 0 p (by unfold ccJk; omega)
  · rw [ccCp_o (by omega)]
    exact h₁ 4 0 2 p (by unfold ccJk; omega)
/-- the row comes back -/
theorem ccGd_256 {m mm m₂ : mMi} (h₁ : ccGd m mm) (h₂ : ccFq (ccCp mm 4 0 3 0 918) m₂) : ccGd m (ccCp m₂ 3 0 4 0 918) := by
  refine ⟨fun f a j p y₁ => ?_, ?_⟩
  · by_cases y₂ : f = 4 ∧ a = 0 ∧ j = 3
    · obtain ⟨y₃, y₄, y₅⟩ := y₂
      subst y₃ y₄ y₅
      have y₆ : p < 918 := by
        unfold ccJk at y₁
        omega
      have e₃ : p = 0 + p := by omega
      have x₁ : ccCp m₂ 3 0 4 0 918 4 0 3 p = m₂ 4 0 4 p := by
        rw [e₃]
        exact ccCp_i y₆
      have x₂ : ccCp mm 4 0 3 0 918 4 0 4 p = mm 4 0 3 p := by
        rw [e₃]
        exact ccCp_i y₆
      rw [x₁, h₂ 4 0 4 p (by omega) (by omega), x₂]
      exact h₁.1 4 0 3 p y₁
    · have y₃ := h₁.1 f a j p y₁
      unfold ccJk at y₁
      rw [ccCp_o (by omega), h₂ f a j p (by omega) (by omega), ccCp_o (by omega)]
      exact y₃
  · rw [ccCp_o (by omega), h₂ 4 0 0 0 (by omega) (by omega), ccCp_o (by omega)]
    exact h₁.2
theorem ccTryV {B : Nat} {m : mMi} {w l n bd lm dp cl : Nat} {β : Nat → Int32} {W : Nat → Nat} {oc om : mMi → mRs → mRz} {Q : Int32 → Prop} (h₂ : ccLd B m w l n bd lm dp cl β W)
    (hop : ∀ mc mm : mMi, ccAg (m 0 0) (mc 0 1) → (∀ j p, mc 1 0 j p = m 1 0 j p) → ccAr (m 4 0 3) (mm 4 0 3) → (∀ p, 2 ≤ p → p ≤ 8 → mm 4 0 0 p = m 4 0 0 p) → (∀ p, mm 4 0 2 p = m 4 0 2 p) →
      ∃ m₁ m₂ v, (∀ rs, oc mc rs = rI v m₁ rs) ∧ (∀ rs, om mm rs = rI v m₂ rs) ∧ ccFr 1 mc m₁ ∧ ccFq mm m₂ ∧ Q v) :
    ∃ v, Q v ∧ (∀ mc, ccEq m mc → ccMo4 m mc → ∃ m₁, (∀ rs, bV (F18 1 0 mc rs) oc = rI v m₁ rs) ∧ ccEq m m₁ ∧ ccMo4 m m₁) ∧
      (∀ mm, ccGd m mm → ∃ m₂, (∀ rs, bV (F255 mm rs) (fun m r => bI (om m r) (fun v m r => bV (F256 m r) (fun m r => rI v m r))) = rI v m₂ rs) ∧ ccGd m m₂) := by
  obtain ⟨mc₀, k₁, k₂, k₃, k₄, k₅⟩ := ccGd_18 (ccEq_rfl (m₁ := m))
  obtain ⟨y₁, y₂, y₃⟩ := ccGd_255 (ccEq_t (v := N 0) (ccEq_rfl (m₁ := m)))
  obtain ⟨a₁, a₂, v, a₃, a₄, a₅, a₆, a₇⟩ := hop mc₀ _ k₃ k₄ y₁ y₂ y₃
  refine ⟨v, a₇, fun mc g₁ g₂ => ?_, fun mm g₁ => ?_⟩
  · obtain ⟨mc₁, l₁, l₂, l₃, l₄, l₅⟩ := ccGd_18 g₁
    obtain ⟨c₁, c₂, u, c₃, c₄, c₅, c₆, c₇⟩ := hop mc₁ _ l₃ l₄ y₁ y₂ y₃
    obtain ⟨e₁, e₂⟩ := ccInj (v := v) (u := u) (m₁ := a₂) (m₂ := c₂) (fun rs => by rw [← a₄ rs, ← c₄ rs])
    subst e₁ e₂
    refine ⟨c₁, fun rs => by rw [l₁, ccBv, c₃], fun f a j p z₁ => ?_, fun a j p => ?_⟩
    · have z₂ := l₂ f a j p z₁
      unfold ccJk at z₁
      rw [c₅ f a j p (by omega) (by omega)]
      exact z₂
    · rw [c₅ 4 a j p (by omega) (by omega), l₅]
      exact g₂ a j p
  · obtain ⟨z₁, z₂, z₃⟩ := ccGd_255 g₁.1
    obtain ⟨c₁, c₂, u, c₃, c₄, c₅, c₆, c₇⟩ := hop mc₀ _ k₃ k₄ z₁ z₂ z₃
    obtain ⟨e₁, e₂⟩ := ccInj (v := v) (u := u) (m₁ := a₁) (m₂ := c₁) (fun rs => by rw [← a₃ rs, ← c₃ rs])
    subst e₁ e₂
    exact ⟨ccCp c₂ 3 0 4 0 918, fun rs => by rw [ccE255, ccBv, c₄, ccBi, ccE256, ccBv], ccGd_256 g₁ c₆⟩
/-! tremors that are tried -/
theorem ccStf_ag {C D : Nat → Nat → Int32} {n p : Nat} (q₁ : ccAg C D) (q₂ : ccCd n C) (h₁ : n ≤ 40) (h₂ : p < 96) (h₃ : C 2 p ≠ I (-1)) : ccStf D p = ccStf C p := by
  obtain ⟨a, b, f₁, f₂, f₃, f₄⟩ := q₂.1 p h₂ h₃
  unfold ccStf
  rw [q₁.1 2 p (by omega) (by omega) h₂, q₁.1 3 p (by omega) (by omega) h₂, f₃, f₄, mix_N (by omega), mix_N (by omega), q₁.2.2.2.2.1 11 a (by omega) (by omega) (by omega), q₁.2.2.2.2.1 11 b (by omega) (by omega) (by omega)]
theorem ccWob_ag {C D : Nat → Nat → Int32} {n p : Nat} {f d a : Int32} (q₁ : ccAg C D) (q₂ : ccCd n C) (h₁ : n ≤ 40) (h₂ : p < 96) (h₃ : C 2 p ≠ I (-1)) : ccWob f d a D p = ccWob f d a C p := by
  unfold ccWob
  rw [ccStf_ag q₁ q₂ h₁ h₂ h₃]
theorem ccP_ag {C D : Nat → Nat → Int32} {p : Nat} (q₁ : ccAg C D) (h₂ : p < 96) : ccP D p = ccP C p := by
  unfold ccP
  rw [q₁.1 2 p (by omega) (by omega) h₂]
/-- a pair would wobble too much -/
def ccBad (lm dp a c k : Nat) (C : Nat → Nat → Int32) : Nat → Bool := fun p => ccP C p && decide (N lm < C 5 p + N k * ccWob (N a) (N dp) (N c) C p)
theorem ccOne {x : Int32} : N 1 * x = x := by
  have e₁ : N 1 = 1 := rfl
  rw [e₁, Int32.one_mul]
theorem ccBb : ∀ (z : mRz) (k : Int32 → mMi → mRs → mRz), bI (bI z (fun v m r => rI v m r)) k = bI z k
  | none, _ => rfl
  | some (.inl none, _, _), _ => rfl
  | some (.inl (some (.inl _)), _, _), _ => rfl
  | some (.inl (some (.inr _)), _, _), _ => rfl
  | some (.inr _, _, _), _ => rfl
theorem ccQk_a : ∀ (z : mRz) (g : mMi → mRs → mRz) (k : Int32 → mMi → mRs → mRz), bI (bV z (fun m r => bI (g m r) (fun v m r => rI v m r))) k = bV z (fun m r => bI (g m r) k)
  | none, _, _ => rfl
  | some (.inl none, m, r), g, k => ccBb (g m r) k
  | some (.inl (some _), _, _), _, _ => rfl
  | some (.inr _, _, _), _, _ => rfl
/-- a tremor that is tried -/
def ccQk (x y : Int32) (mi : mMi) (rs : mRs) : mRz := bV (F18 1 0 mi rs) (fun m r => bI (F35 1 x y m r) (fun v m r => rI v m r))
theorem ccQk_bi {x y : Int32} {m : mMi} {rs : mRs} {k : Int32 → mMi → mRs → mRz} : bV (F18 1 0 m rs) (fun m r => bI (F35 1 x y m r) k) = bI (ccQk x y m rs) k := by
  unfold ccQk
  exact Eq.symm (ccQk_a (F18 1 0 m rs) (F35 1 x y) k)
theorem ccTryQ {B : Nat} {m : mMi} {w l n bd lm dp cl a c : Nat} {β : Nat → Int32} {W : Nat → Nat} (hB : B ≤ 900000000) (h₂ : ccLd B m w l n bd lm dp cl β W) :
    ∃ k, k ≤ 192 ∧ (k = 0 ↔ ∀ p, p < 96 → ccBad lm dp a c 1 (m 0 0) p = false) ∧ (∀ mc, ccEq m mc → ccMo4 m mc → ∃ m₁, (∀ rs, ccQk (N a) (N c) mc rs = rI (N k) m₁ rs) ∧ ccEq m m₁ ∧ ccMo4 m m₁) ∧
      (∀ mm, ccGd m mm → ∃ m₂, (∀ rs, F268 (N a) (N c) mm rs = rI (N k) m₂ rs) ∧ ccGd m m₂) := by
  have b₃ : n ≤ 40 := h₂.2.2.1.1.2.2.2.2.2.2.2
  obtain ⟨h₀, t₀, r₀, _⟩ := ccLd_R h₂
  have cd := ccCd_of r₀.2.1
  obtain ⟨v, ⟨k, e₁, e₂, e₃⟩, c₁, c₂⟩ := ccTryV (oc := fun m r => bI (F35 1 (N a) (N c) m r) (fun v m r => rI v m r)) (om := F269 (N a) (N c)) (Q := fun v => ∃ k, v = N k ∧ k ≤ 192 ∧ (k = 0 ↔ ∀ p, p < 96 → ccBad lm dp a c 1 (m 0 0) p = false)) h₂ (fun mc mm g₁ g₂ g₃ g₄ g₅ => by
    obtain ⟨h, t, j₁, j₂, j₃, j₄, j₅, j₆, j₇, j₈⟩ := ccJ_tr' hB h₂ g₁ g₂ g₃ g₄ g₅
    obtain ⟨m₁, m₂, u, v, q₁, q₂, q₃, q₄, q₅, q₆, q₇, q₈, q₉, D, d₁, d₂, d₃⟩ := ccQuake (x1 := N a) (x2 := N c) j₁ j₇ j₈ j₅ j₆
    obtain ⟨d₄, d₅⟩ := d₃ j₃
    refine ⟨m₁, m₂, N v - N t, fun rs => by show bI (F35 1 (N a) (N c) mc rs) _ = _; rw [q₁, ccBi], q₂, q₄, q₅, v - t, N_sub q₈, by omega, ?_⟩
    have bw : ∀ p, p < 96 → ccBdw (N lm) D p = ccBad lm dp a c 1 (m 0 0) p := fun p y₁ => by
      unfold ccBdw ccBad
      have y₂ : ccP D p = ccP (m 0 0) p := by
        rw [← ccP_ag g₁ y₁]
        unfold ccP
        rw [d₁.1 2 p (by omega) (by omega)]
      rw [y₂]
      cases y₃ : ccP (m 0 0) p
      · rw [Bool.false_and, Bool.false_and]
      · have y₄ : ccP (mc 0 1) p = true := by rw [ccP_ag g₁ y₁]; exact y₃
        rw [d₁.2.2 p y₁, if_pos ⟨y₁, y₄⟩, g₁.1 5 p (by omega) (by omega) y₁, ccWob_ag g₁ cd b₃ y₁ (ccP_t y₃), ccOne]
    refine ⟨fun y₁ p y₂ => ?_, fun y₁ => ?_⟩
    · rw [← bw p y₂]
      cases y₃ : ccBdw (N lm) D p
      · rfl
      · have y₄ := d₄ ⟨p, y₂, y₃⟩
        omega
    · have y₂ := (d₅ (fun p y₃ => by rw [bw p y₃]; exact y₁ p y₃)).1
      omega)
  subst e₁
  exact ⟨k, e₂, e₃, c₁, c₂⟩
theorem ccOk_141 {B : Nat} {m : mMi} {x y : Int32} (hB : B ≤ 900000000) (h₁ : ccTop B m) : ccOk B (F141 x y) (F266 x y) [(1, 1), (3, 2)] m := by
  refine ccOk_trem (b := N 0) (km := fun M r => bI (F268 x y M r) (fun v m r => rI v m r)) h₁ (List.mem_cons_self) (List.mem_cons_of_mem _ List.mem_cons_self) (fun m rs => rfl) (fun m rs e₁ => ?_) (fun m rs e₁ e₂ => ?_) (fun m rs e₁ e₂ => ?_) (fun w l n bd lm dp cl β W a c h₂ e₁ e₂ e₃ e₄ e₅ => ?_)
  · unfold F266
    rw [e₁, ccBi, ccIf1]
  · unfold F266
    rw [e₁, ccBi, ccIf0, e₂, ccBi, ccIf1, ccE178f ccT0s, ccBi, ccIf0e]
  · unfold F266
    rw [e₁, ccBi, ccIf0, e₂, ccBi, ccIf0, ccE178t ccT0s (by omega) (by omega), ccBi, ccIf1e]
  · subst e₁ e₂
    obtain ⟨k, _, _, c₁, c₂⟩ := ccTryQ (a := a) (c := c) hB h₂
    obtain ⟨m₁, a₁, a₂, a₃⟩ := c₁ m ccEq_rfl (fun _ _ _ => rfl)
    obtain ⟨m₂, b₁, b₂⟩ := c₂ (ccM0 m₁) ⟨ccEq_t a₂, ccT0s⟩
    refine ccOk_gd (v := N k) (m₁ := m₁) (m₂ := m₂) h₁ (fun rs => ?_) (fun rs => ?_) a₂ a₃ b₂
    · show ccQk (N a) (N c) m rs = _
      rw [a₁]
    · show bI (F268 (N a) (N c) (ccM0 m₁) rs) _ = _
      rw [b₁, ccBi]
/-! the worst column -/
def ccWc2 (val : Nat → Nat) : Nat → Nat → Nat → Nat → Nat
  | 0, _, b, _ => b
  | d + 1, c, b, y => if val c ≤ y then ccWc2 val d (c + 1) b y else ccWc2 val d (c + 1) c (val c)
theorem ccL145 {m : mMi} {w a : Nat} {val : Nat → Nat} (h₀ : m 1 0 1 0 = N w) (b₁ : w ≤ 12) (hv : ∀ c, val c ≤ 192) (hc : ∀ c, c < w → ∀ mc, ccEq m mc → ccMo4 m mc → ∃ m₁, (∀ rs, ccQk (N a) (N c) mc rs = rI (N (val c)) m₁ rs) ∧ ccEq m m₁ ∧ ccMo4 m m₁) : ∀ d c b y mc, c + d = w → y ≤ 192 → ccEq m mc → ccMo4 m mc →
    ∃ m₁, (∀ f rs, F145_13 (f + d + 1) (N a) (N b) (N y) (N c) mc rs = rI (N (ccWc2 val d c b y)) m₁ rs) ∧ ccEq m m₁ ∧ ccMo4 m m₁ := by
  intro d
  induction d with
  | zero =>
    intro c b y mc g₁ g₂ g₃ g₄
    have e₀ : N w ≤ N c := by rw [N_le (by omega) (by omega)]; omega
    have e₁ : mc 1 0 1 0 = N w := by rw [g₃ 1 0 1 0 (by unfold ccJk; omega)]; exact h₀
    refine ⟨mc, fun f rs => ?_, g₃, g₄⟩
    rw [ccL145_13, e₁, ccIte, if_pos e₀]
    rfl
  | succ d i₁ =>
    intro c b y mc g₁ g₂ g₃ g₄
    have e₀ : ¬ N w ≤ N c := by rw [N_le (by omega) (by omega)]; omega
    have e₁ : mc 1 0 1 0 = N w := by rw [g₃ 1 0 1 0 (by unfold ccJk; omega)]; exact h₀
    have v₁ := hv c
    obtain ⟨m₁, a₁, a₂, a₃⟩ := hc c (by omega) mc g₃ g₄
    by_cases g₅ : val c ≤ y
    · obtain ⟨m₂, c₁, c₂, c₃⟩ := i₁ (c + 1) b y m₁ (by omega) g₂ a₂ a₃
      refine ⟨m₂, fun f rs => ?_, c₂, c₃⟩
      have e₂ : f + (d + 1) + 1 = f + d + 1 + 1 := by omega
      have e₃ : N (val c) ≤ N y := by rw [N_le (by omega) (by omega)]; exact g₅
      rw [e₂, ccL145_13, e₁, ccIte, if_neg e₀, ccQk_bi, a₁, ccBi, ccIte, if_pos e₃, N_add, c₁]
      show _ = rI (N (if val c ≤ y then ccWc2 val d (c + 1) b y else ccWc2 val d (c + 1) c (val c))) m₂ rs
      rw [if_pos g₅]
    · obtain ⟨m₂, c₁, c₂, c₃⟩ := i₁ (c + 1) c (val c) m₁ (by omega) v₁ a₂ a₃
      refine ⟨m₂, fun f rs => ?_, c₂, c₃⟩
      have e₂ : f + (d + 1) + 1 = f + d + 1 + 1 := by omega
      have e₃ : ¬ N (val c) ≤ N y := by rw [N_le (by omega) (by omega)]; exact g₅
      rw [e₂, ccL145_13, e₁, ccIte, if_neg e₀, ccQk_bi, a₁, ccBi, ccIte, if_neg e₃, N_add, c₁]
      show _ = rI (N (if val c ≤ y then ccWc2 val d (c + 1) b y else ccWc2 val d (c + 1) c (val c))) m₂ rs
      rw [if_neg g₅]
theorem ccL272 {m : mMi} {w a : Nat} {val : Nat → Nat} (h₀ : m 4 0 0 2 = N w) (b₁ : w ≤ 12) (hv : ∀ c, val c ≤ 192) (hc : ∀ c, c < w → ∀ mm, ccGd m mm → ∃ m₂, (∀ rs, F268 (N a) (N c) mm rs = rI (N (val c)) m₂ rs) ∧ ccGd m m₂) : ∀ d c b y mm, c + d = w → y ≤ 192 → ccGd m mm →
    ∃ m₂, (∀ f rs, F272_39 (f + d + 1) (N a) (N b) (N y) (N c) mm rs = rI (N (ccWc2 val d c b y)) m₂ rs) ∧ ccGd m m₂ := by
  intro d
  induction d with
  | zero =>
    intro c b y mc g₁ g₂ g₃
    have e₀ : N w ≤ N c := by rw [N_le (by omega) (by omega)]; omega
    have e₁ : mc 4 0 0 2 = N w := by rw [g₃.1 4 0 0 2 (by unfold ccJk; omega)]; exact h₀
    refine ⟨mc, fun f rs => ?_, g₃⟩
    rw [ccL272_39, e₁, ccIte, if_pos e₀]
    rfl
  | succ d i₁ =>
    intro c b y mc g₁ g₂ g₃
    have e₀ : ¬ N w ≤ N c := by rw [N_le (by omega) (by omega)]; omega
    have e₁ : mc 4 0 0 2 = N w := by rw [g₃.1 4 0 0 2 (by unfold ccJk; omega)]; exact h₀
    have v₁ := hv c
    obtain ⟨m₁, a₁, a₂⟩ := hc c (by omega) mc g₃
    by_cases g₅ : val c ≤ y
    · obtain ⟨m₂, c₁, c₂⟩ := i₁ (c + 1) b y m₁ (by omega) g₂ a₂
      refine ⟨m₂, fun f rs => ?_, c₂⟩
      have e₂ : f + (d + 1) + 1 = f + d + 1 + 1 := by omega
      have e₃ : N (val c) ≤ N y := by rw [N_le (by omega) (by omega)]; exact g₅
      have e₄ : ¬ N y < N (val c) := by rw [N_lt (by omega) (by omega)]; omega
      rw [e₂, ccL272_39, e₁, ccIte, if_neg e₀, a₁, ccBi, ccIte, if_pos e₃, if_neg e₄, N_add, c₁]
      show _ = rI (N (if val c ≤ y then ccWc2 val d (c + 1) b y else ccWc2 val d (c + 1) c (val c))) m₂ rs
      rw [if_pos g₅]
    · obtain ⟨m₂, c₁, c₂⟩ := i₁ (c + 1) c (val c) m₁ (by omega) v₁ a₂
      refine ⟨m₂, fun f rs => ?_, c₂⟩
      have e₂ : f + (d + 1) + 1 = f + d + 1 + 1 := by omega
      have e₃ : ¬ N (val c) ≤ N y := by rw [N_le (by omega) (by omega)]; exact g₅
      have e₄ : N y < N (val c) := by rw [N_lt (by omega) (by omega)]; omega
      rw [e₂, ccL272_39, e₁, ccIte, if_neg e₀, a₁, ccBi, ccIte, if_neg e₃, if_pos e₄, N_add, c₁]
      show _ = rI (N (if val c ≤ y then ccWc2 val d (c + 1) b y else ccWc2 val d (c + 1) c (val c))) m₂ rs
      rw [if_neg g₅]
theorem ccOk_145 {B : Nat} {m : mMi} {x : Int32} (hB : B ≤ 900000000) (h₁ : ccTop B m) : ccOk B (F145 x) (F272 x) [(1, 1), (3, 2)] m := by
  rcases h₁.2.2.2 with h₃ | ⟨w, l, n, bd, lm, dp, cl, β, W, h₂⟩
  · exact ccOk_un (b := N 0) h₁ h₃ (List.mem_cons_self) (fun rs e₁ => by unfold F145 F142; rw [e₁]; rfl) (fun rs e₁ => by unfold F272; rw [e₁]; rfl)
  have qr : ccRu m 0 w l n := h₂.2.2.1.1
  have b₁ : w ≤ 12 := qr.2.2.2.2.1
  have b₀ : 2 ≤ w := qr.2.2.2.1
  rcases Classical.em (∃ a, x = N a ∧ 1 ≤ a ∧ a ≤ 99) with ⟨a, e₁, e₂, e₃⟩ | g
  rotate_left
  · refine ccOk_x (E := 3) (c := 2) (b := N 0) (m₂ := mset (ccM0 m) 4 0 0 0 (N 2)) h₁ (List.mem_cons_of_mem _ List.mem_cons_self) (fun rs => ?_) (fun rs => ?_) ccT0s (ccEq_t (ccEq_t ccEq_rfl))
    · unfold F145
      rw [ccE142f h₂.1 qr (fun ⟨a, c, y₁, y₂, y₃, y₄, _⟩ => g ⟨a, y₁, y₃, y₄⟩), ccBvX]
    · have e₀ : N 99 = N 100 - N 1 := rfl
      unfold F272
      rw [ccE230t h₂.2.1, ccBi, ccIf0, e₀, ccE177z (fun ⟨a, y₁, y₂, y₃⟩ => g ⟨a, y₁, y₂, by omega⟩) (by omega) (by omega), ccBi, ccIf0, ccE178t ccT0s (by omega) (by omega), ccBi, ccIf1e]
  subst e₁
  have hq := fun c => ccTryQ (a := a) (c := c) hB h₂
  obtain ⟨val, hval⟩ := Classical.axiomOfChoice hq
  have hv : ∀ c, val c ≤ 192 := fun c => (hval c).1
  obtain ⟨d, hd⟩ : ∃ d, w = d + 1 := ⟨w - 1, by omega⟩
  obtain ⟨m₁, a₁, a₂, a₃⟩ := ccL145 (m := m) (a := a) (val := val) qr.1 b₁ hv (fun c _ => (hval c).2.2.1) w 0 0 0 m (by omega) (by omega) ccEq_rfl (fun _ _ _ => rfl)
  obtain ⟨M₁, c₁, c₂⟩ := (hval 0).2.2.2 (ccM0 m₁) ⟨ccEq_t a₂, ccT0s⟩
  obtain ⟨m₂, c₃, c₄⟩ := ccL272 (m := m) (a := a) (val := val) h₂.2.2.1.2.1.1 b₁ hv (fun c _ => (hval c).2.2.2) d 1 0 (val 0) M₁ (by omega) (hv 0) c₂
  have e₄ : ccWc2 val w 0 0 0 = ccWc2 val d 1 0 (val 0) := by
    rw [hd]
    show (if val 0 ≤ 0 then ccWc2 val d 1 0 0 else ccWc2 val d 1 0 (val 0)) = _
    by_cases y₁ : val 0 ≤ 0
    · have y₂ : val 0 = 0 := by omega
      rw [if_pos y₁, y₂]
    · rw [if_neg y₁]
  refine ccOk_gd (v := N (ccWc2 val d 1 0 (val 0))) (m₁ := m₁) (m₂ := m₂) h₁ (fun rs => ?_) (fun rs => ?_) a₂ a₃ c₄
  · obtain ⟨g, hg⟩ := ccFU (k := w) (by omega)
    unfold F145
    rw [ccE142t h₂.1 qr e₂ e₃ (by omega), ccBv, hg, a₁, e₄]
  · obtain ⟨g, hg⟩ := ccFU (k := d + 1) (by omega)
    have o₁ : m₁ 4 0 0 1 = N 1 := by rw [a₃]; exact h₂.2.1
    have o₂ : mset m₁ 4 0 0 0 (N 0) 4 0 0 2 = N w := Eq.trans (ccM0_r (by omega)) (by rw [a₃]; exact h₂.2.2.1.2.1.1)
    have e₀ : ¬ N w ≤ N 0 := by rw [N_le (by omega) (by omega)]; omega
    have v₀ := hv 0
    have e₅ : ¬ N (val 0) ≤ I (-1) := by rw [ccNleM (by omega)]; exact fun h => h
    have e₆ : I (-1) < N (val 0) := by rw [ccMlt (by omega)]; trivial
    have e₇ : g + (d + 1) + 1 = g + d + 1 + 1 := by omega
    unfold F272
    rw [ccE230t o₁, ccBi, ccIf0, ccE177' (by omega) (by omega) (by omega), decide_eq_true e₂, decide_eq_true e₃, ccBi]
    show mifO (decide (N 1 ≠ N 0)) _ _ = _
    rw [ccIf1, ccE178f ccT0s, ccBi, ccIf0e, hg, e₇, ccL272_39, o₂, ccIte, if_neg e₀, c₁, ccBi, ccIte, if_neg e₅, if_pos e₆, N_add, c₃]
