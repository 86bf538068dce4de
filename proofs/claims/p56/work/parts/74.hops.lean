/-! WHAT THE LAW DOES to both. -/
theorem kwGhost {mc mm : mMi} {i w l n bd h t : Nat} {β wt : Nat → Int32} {W : Nat → Nat} {x y : Int32} (q : ccJ mc mm i w l n bd β wt W h t) : ∃ mn, ccJ mc mn i w l n bd β wt W h t ∧ mn 4 0 0 5 = x ∧ mn 4 0 0 4 = y := by
  have q₁ := ccJ_gh (x := x) q
  obtain ⟨mk, hk⟩ : ∃ m, m = mset mm 4 0 0 5 x := ⟨_, rfl⟩
  rw [← hk] at q₁
  have k₅ : mk 4 0 0 5 = x := by rw [hk, ccRd, if_pos ⟨rfl, rfl, rfl, rfl⟩]
  refine ⟨mset mk 4 0 0 4 y, ?_, by rw [ccRd, if_neg (by omega)]; exact k₅, by rw [ccRd, if_pos ⟨rfl, rfl, rfl, rfl⟩]⟩
  obtain ⟨⟨q₁, q₂, q₃, q₄, q₅, q₆, q₇, q₈⟩, a₁, a₂, a₃, a₄⟩ := q₁
  have e₁ : (mset mk 4 0 0 4 y) 4 0 3 = mk 4 0 3 := by
    funext p
    rw [ccRd, if_neg (by omega)]
  refine ⟨⟨q₁, q₂, ?_, by rw [ccRd, if_neg (by omega)]; exact q₄, q₅, by rw [e₁]; exact q₆, q₇, q₈⟩, a₁, a₂, fun k y => by rw [ccRd, if_neg (by omega)]; exact a₃ k y, a₄⟩
  unfold ccMo at q₃ ⊢
  rw [ccRd, if_neg (by omega), ccRd, if_neg (by omega), ccRd, if_neg (by omega)]
  exact q₃
theorem kwJ_tm {mc mw m₁ m₂ : mMi} {i B w l n lm dp cl bd h t h₁ t₁ : Nat} {β wt : Nat → Int32} {W : Nat → Nat} (q : kwJ mc mw i B w l n lm dp cl bd β wt W true h t) (q₁ : kwJ m₁ m₂ i B w l n lm dp cl bd β wt W true h₁ t₁) (s : kwSt B mw m₂) : m₁ 0 i 0 5 = mc 0 i 0 5 := by
  have e₁ := (q.2.2.1.2.2.2.2 rfl).2.2.2.2.1
  have e₂ := (q₁.2.2.1.2.2.2.2 rfl).2.2.2.2.1
  rw [← e₁, ← e₂]
  exact s 0 19 (by omega)
theorem kwG_le {C D : Nat → Nat → Int32} {t v : Nat} (h₁ : ccG C D t v) : v ≤ t + 192 := by
  have y₁ := h₁.2
  have y₂ := ccPcs_le (C := C)
  omega
/-- what a hop begins with -/
theorem kwHop0 {m mc mw : mMi} {B w l n lm dp cl bd T : Nat} {β : Nat → Int32} {W : Nat → Nat} (q : kwT m B w l n lm dp cl bd β W T) (g₁ : mc 0 0 = m 0 0) (g₂ : ∀ j p, mc 1 0 j p = m 1 0 j p) (g₃ : kwSame B m mw) : ∃ h t, kwJ mc mw 0 B w l n lm dp cl bd β (fun k => N (W k)) W true h t ∧ t ≤ T ∧ ccQt W (mc 0 0) w l ∧ ccQn (N lm) (mc 0 0) ∧ mc 1 0 1 2 = N lm ∧ mc 1 0 1 3 = N dp ∧ mc 1 0 1 4 = N cl := by
  obtain ⟨h, t, j₀, a₁, a₀, ⟨a₂, a₃, a₄, a₅⟩, a₆, a₇, a₈, _⟩ := q
  exact ⟨h, t, kwJ_cg j₀ g₁ g₂ g₃, a₈, by rw [g₁]; exact a₆, by rw [g₁]; exact a₇, by rw [g₂]; exact a₂, by rw [g₂]; exact a₃, by rw [g₂]; exact a₄⟩
theorem kwZ_cg {m m₁ : mMi} {Z : Nat} (h₁ : m₁ 0 0 0 5 = m 0 0 0 5) (h₂ : kwZ m Z) : kwZ m₁ Z := by
  unfold kwZ at h₂ ⊢
  rw [h₁]
  exact h₂
theorem kwHop163 {m : mMi} {B w l n lm dp cl bd T Z a c : Nat} {β : Nat → Int32} {W : Nat → Nat} (q : kwT m B w l n lm dp cl bd β W T) (z : kwZ m Z) (h₂ : a ≤ 99) (h₃ : c < w) : kwHop m B w l n lm dp cl bd β W (T + 192) Z (fun m r => bI (F35 0 (N a) (N c) m r) (fun v m r => rI v m r)) (fun mw v m₂ => ∀ rs : mRs, rs.2.1.1 B = true → H196 B (N a) (N c) mw rs = rI v m₂ rs) (fun _ _ => True) := by
  intro mc mw g₁ g₂ g₃
  obtain ⟨h, t, j₀, t₀, qt, qn, e₂, e₃, e₄⟩ := kwHop0 q g₁ g₂ g₃
  have s₀ := j₀.2.1
  have b₁ : w ≤ 12 := s₀.2.2.2.2.2.2.2.2.1
  have b₃ : n ≤ 40 := s₀.2.2.2.2.2.2.2.2.2.2.2.1
  have b₄ : lm ≤ 99 := s₀.2.2.2.2.2.2.2.2.2.2.2.2.1
  have b₅ : dp ≤ 9 := s₀.2.2.2.2.2.2.2.2.2.2.2.2.2.1
  obtain ⟨m₁, m₂, u, v, k₁, k₂, k₃, k₄, k₅, k₆, k₇⟩ := kwQuake (x1 := N a) (x2 := N c) j₀ e₃ e₂
  obtain ⟨mm, jj⟩ := j₀.1
  obtain ⟨mn, jn, n₁, n₂⟩ := kwGhost (x := N dp) (y := N lm) jj
  obtain ⟨m₃, m₄, u₃, v₃, p₁, p₂, p₃, p₄, p₅, p₆, p₇, p₈, p₉, D, d₁, d₂, _⟩ := ccQuake (x1 := N a) (x2 := N c) jn e₃ n₁ e₂ n₂
  obtain ⟨_, i₂⟩ := ccInj (v := N v - N t) (u := N v₃ - N t) (m₁ := m₁) (m₂ := m₃) (fun rs => by rw [← k₁ rs, ← p₁ rs])
  subst i₂
  have tv : N v = N v₃ := by rw [← k₃.2.2.1.2.2.2.1, ← (ccR_tt p₃.1.2.2.2.2.2.1).1]
  obtain ⟨mg, jg⟩ := k₃.1
  have bv : v < 1000000000 := by
    have y := jg.1.2.2.2.2.2.2.2
    omega
  have bv₃ : v₃ < 1000000000 := by
    have y := p₃.1.2.2.2.2.2.2.2
    omega
  have ev : v = v₃ := ccNinj tv (by omega) (by omega)
  have nn : ccNn (m₁ 0 0) := ccNn_G d₂ (ccNn_sh d₁ h₂ b₅ (by omega) b₄ (fun p y₁ y₂ => ccStf_pos jn.1.2.2.2.2.2.1 b₃ y₁ y₂) qn)
  exact ⟨m₁, m₂, N v - N t, u, v, fun rs => by show bI (F35 0 (N a) (N c) mc rs) _ = _; rw [k₁, ccBi], k₂, k₃, k₄, k₅, k₇, ⟨p₇, nn⟩, by omega, kwZ_cg (Eq.trans (kwJ_tm j₀ k₃ k₆) (by rw [g₁])) z, trivial⟩
theorem kwHop159 {m : mMi} {B w l n lm dp cl bd T Z k : Nat} {β : Nat → Int32} {W : Nat → Nat} (q : kwT m B w l n lm dp cl bd β W T) (z : kwZ m Z) (h₂ : k < n) (h₃ : ccLaid (m 0 0) k) : kwHop m B w l n lm dp cl bd β W (T + 192) Z (fun m r => bI (F38 0 (N k) m r) (fun v m r => rI v m r)) (fun mw v m₂ => ∀ rs : mRs, rs.2.1.1 B = true → H197 B (N k) mw rs = rI v m₂ rs) (fun _ _ => True) := by
  intro mc mw g₁ g₂ g₃
  obtain ⟨h, t, j₀, t₀, qt, qn, e₂, e₃, e₄⟩ := kwHop0 q g₁ g₂ g₃
  obtain ⟨m₁, m₂, u, v, k₁, k₂, k₃, kg, k₄, k₅, k₆, k₇⟩ := kwPull j₀ h₂ (by rw [g₁]; exact h₃)
  have bv := kwG_le kg
  exact ⟨m₁, m₂, N v - N t, u, v, fun rs => by show bI (F38 0 (N k) mc rs) _ = _; rw [k₁, ccBi], k₂, k₃, k₄, k₅, k₇, ccQn_G kg qn, by omega, kwZ_cg (Eq.trans (kwJ_tm j₀ k₃ k₆) (by rw [g₁])) z, trivial⟩
/-- leaned, laid, turned, and settled -/
def kwSet0 (B : Nat) (Om : mMi → mMi → Prop) : mMi → Int32 → mMi → Prop := fun mw v m₂ => ∃ mx, Om mw mx ∧ (∀ rs : mRs, rs.2.1.1 B = true → H185 B mx rs = rV m₂ rs) ∧ v = m₂ 6 B 0 20 - mw 6 B 0 20
theorem kwHop158 {m : mMi} {B w l n lm dp cl bd T Z L c a : Nat} {β : Nat → Int32} {W : Nat → Nat} (q : kwT m B w l n lm dp cl bd β W T) (z : kwZ m Z) (bT : T ≤ 800000000) (h₁ : L < l) (h₂ : L + c < w) (h₃ : a < n) (h₄ : ccMayLay (m 0 0) w l L c = true) (h₅ : ccHeld (m 0 0) a = true) : kwHop m B w l n lm dp cl bd β W (T + 192) Z (fun m r => bI (F81 0 (N L) (N c) m r) (fun v m r => bV (F17 0 v (N a) m r) (fun m r => bI (F19 0 m r) (fun v m r => rI v m r)))) (kwSet0 B (fun mw mx => mx = kwMl mw B L c a)) (fun _ _ => True) := by
  intro mc mw g₁ g₂ g₃
  obtain ⟨h, t, j₀, t₀, qt, qn, e₂, e₃, e₄⟩ := kwHop0 q g₁ g₂ g₃
  have s₀ := j₀.2.1
  have b₁ : w ≤ 12 := s₀.2.2.2.2.2.2.2.2.1
  have b₂ : l ≤ 8 := s₀.2.2.2.2.2.2.2.2.2.2.1
  have b₃ : n ≤ 40 := s₀.2.2.2.2.2.2.2.2.2.2.2.1
  obtain ⟨l₁, l₂, l₃, l₄⟩ := ccMayLay_t h₄
  have sp : ccSp w l L c = N (12 * L + c) := if_pos ⟨h₁, h₂⟩
  have hL : 1 ≤ L := by
    cases L with
    | zero => cases h₄
    | succ K => omega
  have j₁ := kwJ_lay (L := L) (c := c) (a := a) j₀ (by omega) hL h₁ h₂ h₃ (by rw [g₁]; exact of_decide_eq_true h₅) (by rw [g₁]; exact l₂) (by rw [g₁]; exact l₃) (by rw [g₁]; exact l₄)
  have d₂ : ∀ j q, j ≠ 6 → j ≠ 13 → mset (mset mc 0 0 6 (12 * L + c) (N a)) 0 0 13 a (N (12 * L + c)) 0 0 j q = mc 0 0 j q := fun j q y₁ y₂ => by
    rw [ccRd, if_neg (by omega), ccRd, if_neg (by omega)]
  obtain ⟨m₁, m₂, u, v, k₁, k₂, k₃, kg, k₄, k₅, k₆, k₇, _⟩ := kwE19 j₁
  have bv := kwG_le kg
  obtain ⟨⟨mm, jj⟩, _⟩ := j₀
  have ru := jj.1.1
  obtain ⟨f₁, f₂⟩ := kwMl_fr (m := mw) (B := B) (L := L) (c := c) (a := a)
  have nn : ccQn (N lm) (m₁ 0 0) := ccQn_G kg ⟨ccQw_co qn.1 (fun q => ⟨d₂ 2 q (by omega) (by omega), d₂ 4 q (by omega) (by omega), d₂ 5 q (by omega) (by omega)⟩), ccNn_co qn.2 (fun q => ⟨d₂ 2 q (by omega) (by omega), d₂ 4 q (by omega) (by omega), d₂ 5 q (by omega) (by omega)⟩)⟩
  have w₁ : m₂ 6 B 0 20 = N v := by rw [k₃.2.2.1.2.2.1.1, k₃.2.2.1.2.2.2.1]
  obtain ⟨h', t', j₉, _⟩ := kwHop0 q g₁ g₂ g₃
  refine ⟨m₁, m₂, N v - N t, u, v, fun rs => ?_, ⟨_, rfl, k₂, ?_⟩, k₃, ccFr_trans (ccFr_set (ccFr_set ccFr_rfl)) k₄, kwFr_trans f₁ k₅, k₇, nn, by omega, kwZ_cg ?_ z, trivial⟩
  · show bI (F81 0 (N L) (N c) mc rs) _ = _
    rw [ccE81 (r := 0) ru (by omega) (by omega), ccBi, sp, ccE17 (by omega) (by omega), ccBv, k₁, ccBi]
  · have w₂ : mw 6 B 0 20 = N t := by rw [← kwMl_o (m := mw) (B := B) (L := L) (c := c) (a := a) (f := 6) (j := 0) (p := 20) (by omega) (by omega), j₁.2.2.1.2.2.1.1, j₁.2.2.1.2.2.2.1]
    rw [w₁, w₂]
  · rw [kwJ_tm j₁ k₃ k₆, d₂ 0 5 (by omega) (by omega), g₁]
theorem kwHop157 {m : mMi} {B w l n lm dp cl bd T Z L c a b u₀ : Nat} {β : Nat → Int32} {W : Nat → Nat} (q : kwT m B w l n lm dp cl bd β W T) (z : kwZ m Z) (bT : T ≤ 800000000) (h₁ : L < l) (h₂ : L + c < w) (h₃ : a < n) (h₃' : b < n) (h₆ : a ≠ b) (h₄ : ccMayLean (m 0 0) w l L c = true) (h₅ : ccHeld (m 0 0) a = true) (h₅' : ccHeld (m 0 0) b = true) (h₇ : 20 ≤ u₀) (h₈ : u₀ ≤ 70) : kwHop m B w l n lm dp cl bd β W (T + 192) Z (fun m r => bI (F81 0 (N L) (N c) m r) (fun v m r => bV (F15 0 v (N a) (N b) (N u₀) m r) (fun m r => bI (F19 0 m r) (fun v m r => rI v m r)))) (kwSet0 B (fun mw mx => mx = kwMe mw B L c a b (N u₀))) (fun _ _ => True) := by
  intro mc mw g₁ g₂ g₃
  obtain ⟨h, t, j₀, t₀, qt, qn, e₂, e₃, e₄⟩ := kwHop0 q g₁ g₂ g₃
  have s₀ := j₀.2.1
  have b₁ : w ≤ 12 := s₀.2.2.2.2.2.2.2.2.1
  have b₂ : l ≤ 8 := s₀.2.2.2.2.2.2.2.2.2.2.1
  have b₃ : n ≤ 40 := s₀.2.2.2.2.2.2.2.2.2.2.2.1
  obtain ⟨l₁, l₂⟩ := ccMayLean_t h₁ h₂ h₄
  have sp : ccSp w l L c = N (12 * L + c) := if_pos ⟨h₁, h₂⟩
  have j₁ := kwJ_lean (L := L) (c := c) (a := a) (b := b) (g := N u₀) j₀ (by omega) h₁ h₂ h₃ h₃' h₆ (by rw [g₁]; exact of_decide_eq_true h₅) (by rw [g₁]; exact of_decide_eq_true h₅') (by rw [g₁]; exact l₁) (fun y => by rw [g₁]; exact l₂ (by omega))
  obtain ⟨m₁, m₂, u, v, k₁, k₂, k₃, kg, k₄, k₅, k₆, k₇, _⟩ := kwE19 j₁
  have bv := kwG_le kg
  obtain ⟨⟨mm, jj⟩, _⟩ := j₀
  have ru := jj.1.1
  obtain ⟨f₁, f₂⟩ := kwMe_fr (m := mw) (B := B) (L := L) (c := c) (a := a) (b := b) (g := N u₀)
  obtain ⟨cm, hcm⟩ : ∃ x, x = mset (mset (mset (mset (mset (mset mc 0 0 2 (12 * L + c) (N a)) 0 0 3 (12 * L + c) (N b)) 0 0 4 (12 * L + c) (N u₀)) 0 0 5 (12 * L + c) (N 0)) 0 0 13 a (N (12 * L + c))) 0 0 13 b (N (12 * L + c)) := ⟨_, rfl⟩
  have x₂ : ∀ p, cm 0 0 2 p = if p = 12 * L + c then N a else mc 0 0 2 p := fun p => by
    rw [hcm]
    simp (disch := omega) only [ccRd, if_neg, Nat.reduceEqDiff, eq_self, true_and, and_true, false_and, and_false, if_true, if_false]
  have x₄ : ∀ p, cm 0 0 4 p = if p = 12 * L + c then N u₀ else mc 0 0 4 p := fun p => by
    rw [hcm]
    simp (disch := omega) only [ccRd, if_neg, Nat.reduceEqDiff, eq_self, true_and, and_true, false_and, and_false, if_true, if_false]
  have x₅ : ∀ p, cm 0 0 5 p = if p = 12 * L + c then N 0 else mc 0 0 5 p := fun p => by
    rw [hcm]
    simp (disch := omega) only [ccRd, if_neg, Nat.reduceEqDiff, eq_self, true_and, and_true, false_and, and_false, if_true, if_false]
  have x₀ : cm 0 0 0 5 = mc 0 0 0 5 := by
    rw [hcm]
    simp (disch := omega) only [ccRd, if_neg]
  have b₄ : lm ≤ 99 := s₀.2.2.2.2.2.2.2.2.2.2.2.2.1
  rw [← hcm] at j₁ k₁ kg k₄
  have nn : ccQn (N lm) (m₁ 0 0) := ccQn_G kg ⟨fun p y₁ => by
    have y₂ := qn.1 p y₁
    unfold ccBdw ccP at y₂ ⊢
    rw [x₂, x₅]
    by_cases y₃ : p = 12 * L + c
    · have y₄ : ¬ N lm < N 0 := by rw [N_lt (by omega) (by omega)]; omega
      rw [if_pos y₃, if_pos y₃, decide_eq_false y₄, Bool.and_false]
    · rw [if_neg y₃, if_neg y₃]
      exact y₂, fun p y₁ y₂ => by
    rw [x₂] at y₂
    rw [x₄, x₅]
    by_cases y₃ : p = 12 * L + c
    · rw [if_pos y₃, if_pos y₃]
      exact ⟨⟨u₀, rfl, h₇, h₈⟩, 0, rfl, by omega⟩
    · rw [if_neg y₃] at y₂
      rw [if_neg y₃, if_neg y₃]
      exact qn.2 p y₁ y₂⟩
  have w₁ : m₂ 6 B 0 20 = N v := by rw [k₃.2.2.1.2.2.1.1, k₃.2.2.1.2.2.2.1]
  refine ⟨m₁, m₂, N v - N t, u, v, fun rs => ?_, ⟨_, rfl, k₂, ?_⟩, k₃, ?_, kwFr_trans f₁ k₅, k₇, nn, by omega, kwZ_cg ?_ z, trivial⟩
  · show bI (F81 0 (N L) (N c) mc rs) _ = _
    rw [ccE81 (r := 0) ru (by omega) (by omega), ccBi, sp, ccE15 (by omega) (by omega) (by omega), ccBv, ← hcm, k₁, ccBi]
  · have w₂ : mw 6 B 0 20 = N t := by rw [← kwMe_o (m := mw) (B := B) (L := L) (c := c) (a := a) (b := b) (g := N u₀) (f := 6) (j := 0) (p := 20) (by omega) (by omega), j₁.2.2.1.2.2.1.1, j₁.2.2.1.2.2.2.1]
    rw [w₁, w₂]
  · rw [hcm] at k₄
    exact ccFr_trans (ccFr_set (ccFr_set (ccFr_set (ccFr_set (ccFr_set (ccFr_set ccFr_rfl)))))) k₄
  · rw [kwJ_tm j₁ k₃ k₆, x₀, g₁]
theorem kwHop165 {m : mMi} {B w l n lm dp cl bd T Z L c u₀ : Nat} {β : Nat → Int32} {W : Nat → Nat} (q : kwT m B w l n lm dp cl bd β W T) (z : kwZ m Z) (h₁ : L < l) (h₂ : L + c < w) (h₇ : 20 ≤ u₀) (h₈ : u₀ ≤ 70) : kwHop m B w l n lm dp cl bd β W (T + 192) Z (fun m r => bI (F81 0 (N L) (N c) m r) (fun v m r => mckO (mIn v 96) (bI (F19 0 (mset m 0 0 4 (mix v) (N u₀)) r) (fun v m r => rI v m r)))) (kwSet0 B (fun mw mx => mx = mset mw 22 B L c (N u₀))) (fun _ _ => True) := by
  intro mc mw g₁ g₂ g₃
  obtain ⟨h, t, j₀, t₀, qt, qn, e₂, e₃, e₄⟩ := kwHop0 q g₁ g₂ g₃
  have s₀ := j₀.2.1
  have b₁ : w ≤ 12 := s₀.2.2.2.2.2.2.2.2.1
  have b₂ : l ≤ 8 := s₀.2.2.2.2.2.2.2.2.2.2.1
  have sp : ccSp w l L c = N (12 * L + c) := if_pos ⟨h₁, h₂⟩
  have j₁ := kwJ_turn (L := L) (c := c) (g := N u₀) j₀ h₁ h₂
  obtain ⟨m₁, m₂, u, v, k₁, k₂, k₃, kg, k₄, k₅, k₆, k₇, _⟩ := kwE19 j₁
  have bv := kwG_le kg
  obtain ⟨⟨mm, jj⟩, _⟩ := j₀
  have ru := jj.1.1
  have oc : ∀ j p, j ≠ 4 → mset mc 0 0 4 (12 * L + c) (N u₀) 0 0 j p = mc 0 0 j p := fun j p y => by rw [ccRd, if_neg (by omega)]
  have nn : ccQn (N lm) (m₁ 0 0) := ccQn_G kg ⟨fun p y₁ => by
    have y₂ := qn.1 p y₁
    unfold ccBdw ccP at y₂ ⊢
    rw [oc 2 p (by omega), oc 5 p (by omega)]
    exact y₂, fun p y₁ y₂ => by
    rw [oc 2 p (by omega)] at y₂
    rw [oc 5 p (by omega)]
    refine ⟨?_, (qn.2 p y₁ y₂).2⟩
    by_cases y₃ : p = 12 * L + c
    · subst y₃
      rw [ccRd, if_pos ⟨rfl, rfl, rfl, rfl⟩]
      exact ⟨u₀, rfl, h₇, h₈⟩
    · rw [ccRd, if_neg (by omega)]
      exact (qn.2 p y₁ y₂).1⟩
  have w₁ : m₂ 6 B 0 20 = N v := by rw [k₃.2.2.1.2.2.1.1, k₃.2.2.1.2.2.2.1]
  refine ⟨m₁, m₂, N v - N t, u, v, fun rs => ?_, ⟨_, rfl, k₂, ?_⟩, k₃, ccFr_trans (ccFr_set ccFr_rfl) k₄, kwFr_trans (kwFr_r kwFr_rfl (by omega)) k₅, k₇, nn, by omega, kwZ_cg ?_ z, trivial⟩
  · show bI (F81 0 (N L) (N c) mc rs) _ = _
    rw [ccE81 (r := 0) ru (by omega) (by omega), ccBi, sp, ccMckIn (by omega : 12 * L + c < 96) (by omega), mix_N (by omega), k₁, ccBi]
  · have w₂ : mw 6 B 0 20 = N t := by
      have w₃ : mset mw 22 B L c (N u₀) 6 B 0 20 = mw 6 B 0 20 := by rw [ccRd, if_neg (by omega)]
      rw [← w₃, j₁.2.2.1.2.2.1.1, j₁.2.2.1.2.2.2.1]
    rw [w₁, w₂]
  · rw [kwJ_tm j₁ k₃ k₆, oc 0 5 (by omega), g₁]
