/-! CALLS: leastForce, tremorsTo. -/
def ccEx (f : Nat → Bool) : Nat → Nat → Bool
  | 0, _ => false
  | d + 1, p => if f p = true then true else ccEx f d (p + 1)
theorem ccEx_f {f : Nat → Bool} : ∀ d p, ccEx f d p = false ↔ ∀ q, p ≤ q → q < p + d → f q = false := by
  intro d
  induction d with
  | zero =>
    intro p
    exact ⟨fun _ q y₁ y₂ => by omega, fun _ => rfl⟩
  | succ d i₁ =>
    intro p
    show (if f p = true then true else ccEx f d (p + 1)) = false ↔ _
    cases g₁ : f p
    · rw [if_neg (by decide), i₁]
      refine ⟨fun y₁ q y₂ y₃ => ?_, fun y₁ q y₂ y₃ => y₁ q (by omega) (by omega)⟩
      by_cases y₄ : q = p
      · rw [y₄]; exact g₁
      · exact y₁ q (by omega) (by omega)
    · rw [if_pos rfl]
      refine ⟨fun y₁ => (by cases y₁), fun y₁ => ?_⟩
      have y₂ := y₁ p (by omega) (by omega)
      rw [g₁] at y₂
      exact y₂
theorem ccL37 {m : mMi} {i n lm dp a c k : Nat} {C : Nat → Nat → Int32} (h₀ : m 0 i = C) (h₁ : ccCd n C) (h₂ : n ≤ 40) (hs : ∀ p, p < 96 → C 2 p ≠ I (-1) → ∃ z, ccStf C p = N z ∧ 2 ≤ z ∧ z ≤ 18) (hd : m 1 (RO i) 1 3 = N dp) (hl : m 1 (RO i) 1 2 = N lm) : ∀ d p f rs, p + d = 96 → F37_3 i (f + d + 1) (N a) (N c) (N k) (N p) m rs = rI (ccT (ccEx (ccBad lm dp a c k C) d p)) m rs := by
  intro d
  induction d with
  | zero =>
    intro p f rs g₁
    have e₀ : N 96 ≤ N p := by rw [N_le (by omega) (by omega)]; omega
    rw [ccL37_3, ccIte, if_pos e₀]
    rfl
  | succ d i₁ =>
    intro p f rs g₁
    have e₁ : f + (d + 1) + 1 = f + d + 1 + 1 := by omega
    have e₀ : ¬ N 96 ≤ N p := by rw [N_le (by omega) (by omega)]; omega
    have e₂ := i₁ (p + 1) f rs (by omega)
    rw [e₁, ccL37_3, ccIte, if_neg e₀, ccE51 (by omega), ccBi, h₀, N_add]
    show _ = rI (ccT (if (ccP C p && decide (N lm < C 5 p + N k * ccWob (N a) (N dp) (N c) C p)) = true then true else ccEx (ccBad lm dp a c k C) d (p + 1))) m rs
    cases g₂ : ccP C p
    · rw [ccT_f, ccIf0e, Bool.false_and, if_neg (by decide)]
      exact e₂
    · have g₃ := ccP_t g₂
      obtain ⟨z, z₁, z₂, z₃⟩ := hs p (by omega) g₃
      rw [ccT_t, ccIf1e, ccMckIn (by omega : p < 96) (by omega), ccE36 h₀ h₁ h₂ (by omega) g₃ z₁ z₂ z₃, ccBi, hd, hl, mix_N (by omega), Bool.true_and, ccIte]
      by_cases g₄ : C 5 p + N k * ccWob (N a) (N dp) (N c) C p ≤ N lm
      · have g₅ : ¬ N lm < C 5 p + N k * ccWob (N a) (N dp) (N c) C p := ccLeLt.mp g₄
        rw [if_pos g₄, decide_eq_false g₅, if_neg (by decide)]
        exact e₂
      · have g₅ : N lm < C 5 p + N k * ccWob (N a) (N dp) (N c) C p := by
          rcases Classical.em (N lm < C 5 p + N k * ccWob (N a) (N dp) (N c) C p) with y₁ | y₁
          · exact y₁
          · exact absurd (ccLeLt.mpr y₁) g₄
        rw [if_neg g₄, decide_eq_true g₅, if_pos rfl, ccT_t]
theorem ccE37 {m : mMi} {rs : mRs} {i n lm dp a c k : Nat} {C : Nat → Nat → Int32} (h₀ : m 0 i = C) (h₁ : ccCd n C) (h₂ : n ≤ 40) (hs : ∀ p, p < 96 → C 2 p ≠ I (-1) → ∃ z, ccStf C p = N z ∧ 2 ≤ z ∧ z ≤ 18) (hd : m 1 (RO i) 1 3 = N dp) (hl : m 1 (RO i) 1 2 = N lm) : F37 i (N a) (N c) (N k) m rs = rI (ccT (ccEx (ccBad lm dp a c k C) 96 0)) m rs := by
  obtain ⟨g, hg⟩ := ccFU (k := 96) (by omega)
  unfold F37
  rw [hg]
  exact ccL37 h₀ h₁ h₂ hs hd hl 96 0 g rs (by omega)
/-- the least force -/
theorem ccL144 {m : mMi} {n lm dp c : Nat} {C : Nat → Nat → Int32} (h₀ : m 0 0 = C) (h₁ : ccCd n C) (h₂ : n ≤ 40) (hs : ∀ p, p < 96 → C 2 p ≠ I (-1) → ∃ z, ccStf C p = N z ∧ 2 ≤ z ∧ z ≤ 18) (hd : m 1 0 1 3 = N dp) (hl : m 1 0 1 2 = N lm) : ∀ d a f rs, a + d = 100 → F144_9 (f + d + 1) (N c) (N a) m rs = rI (ccFst (fun a => ccEx (ccBad lm dp a c 1 C) 96 0) d a) m rs := by
  intro d
  induction d with
  | zero =>
    intro a f rs g₁
    have e₀ : N 99 < N a := by rw [N_lt (by omega) (by omega)]; omega
    rw [ccL144_9, ccIte, if_pos e₀]
    rfl
  | succ d i₁ =>
    intro a f rs g₁
    have e₁ : f + (d + 1) + 1 = f + d + 1 + 1 := by omega
    have e₀ : ¬ N 99 < N a := by rw [N_lt (by omega) (by omega)]; omega
    rw [e₁, ccL144_9, ccIte, if_neg e₀, ccE37 (i := 0) h₀ h₁ h₂ hs hd hl, ccBi, N_add]
    show _ = rI (if ccEx (ccBad lm dp a c 1 C) 96 0 = true then N a else ccFst (fun a => ccEx (ccBad lm dp a c 1 C) 96 0) d (a + 1)) m rs
    cases g₂ : ccEx (ccBad lm dp a c 1 C) 96 0
    · rw [ccT_f, ccIf0e, if_neg (by decide)]
      exact i₁ (a + 1) f rs (by omega)
    · rw [ccT_t, ccIf1e, if_pos rfl]
theorem ccL271 {m : mMi} {c : Nat} {bd : Nat → Bool} (hc : ∀ a, ∃ k, k ≤ 192 ∧ (k = 0 ↔ bd a = false) ∧ ∀ mm, ccGd m mm → ∃ m₂, (∀ rs, F268 (N a) (N c) mm rs = rI (N k) m₂ rs) ∧ ccGd m m₂) : ∀ d a mm, a + d = 100 → ccGd m mm →
    ∃ m₂, (∀ f rs, F271_38 (f + d + 1) (N c) (N a) mm rs = rI (ccFst bd d a) m₂ rs) ∧ ccGd m m₂ := by
  intro d
  induction d with
  | zero =>
    intro a mm g₁ g₂
    have e₀ : N 99 < N a := by rw [N_lt (by omega) (by omega)]; omega
    refine ⟨mm, fun f rs => ?_, g₂⟩
    rw [ccL271_38, ccIte, if_pos e₀]
    rfl
  | succ d i₁ =>
    intro a mm g₁ g₂
    have e₀ : ¬ N 99 < N a := by rw [N_lt (by omega) (by omega)]; omega
    obtain ⟨k, k₁, k₂, k₃⟩ := hc a
    obtain ⟨m₁, a₁, a₂⟩ := k₃ mm g₂
    cases g₃ : bd a
    · have k₀ : N k ≤ N 0 := by rw [N_le (by omega) (by omega), k₂.mpr g₃]; omega
      obtain ⟨m₂, c₁, c₂⟩ := i₁ (a + 1) m₁ (by omega) a₂
      refine ⟨m₂, fun f rs => ?_, c₂⟩
      have e₁ : f + (d + 1) + 1 = f + d + 1 + 1 := by omega
      rw [e₁, ccL271_38, ccIte, if_neg e₀, a₁, ccBi, ccIte, if_pos k₀, N_add, c₁]
      show _ = rI (if bd a = true then N a else ccFst bd d (a + 1)) m₂ rs
      rw [g₃, if_neg (by decide)]
    · have k₀ : ¬ N k ≤ N 0 := by
        rw [N_le (by omega) (by omega)]
        intro y₁
        have y₂ := k₂.mp (by omega)
        rw [g₃] at y₂
        cases y₂
      refine ⟨m₁, fun f rs => ?_, a₂⟩
      have e₁ : f + (d + 1) + 1 = f + d + 1 + 1 := by omega
      rw [e₁, ccL271_38, ccIte, if_neg e₀, a₁, ccBi, ccIte, if_neg k₀]
      show _ = rI (if bd a = true then N a else ccFst bd d (a + 1)) m₁ rs
      rw [g₃, if_pos rfl]
theorem ccOk_144 {B : Nat} {m : mMi} {x : Int32} (hB : B ≤ 900000000) (h₁ : ccTop B m) : ccOk B (F144 x) (F271 x) [(1, 1), (3, 2)] m := by
  rcases h₁.2.2.2 with h₃ | ⟨w, l, n, bd, lm, dp, cl, β, W, h₂⟩
  · exact ccOk_un (b := N 0) h₁ h₃ (List.mem_cons_self) (fun rs e₁ => by unfold F144 F142; rw [e₁]; rfl) (fun rs e₁ => by unfold F271; rw [e₁]; rfl)
  have qr : ccRu m 0 w l n := h₂.2.2.1.1
  have b₁ : w ≤ 12 := qr.2.2.2.2.1
  have b₃ : n ≤ 40 := qr.2.2.2.2.2.2.2
  have gw : mset m 4 0 0 0 (N 0) 4 0 0 2 = N w := Eq.trans (ccM0_r (by omega)) h₂.2.2.1.2.1.1
  rcases Classical.em (∃ c, x = N c ∧ c < w) with ⟨c, e₁, e₂⟩ | g
  rotate_left
  · refine ccOk_x (E := 3) (c := 2) (b := N 0) (m₂ := mset (ccM0 m) 4 0 0 0 (N 2)) h₁ (List.mem_cons_of_mem _ List.mem_cons_self) (fun rs => ?_) (fun rs => ?_) ccT0s (ccEq_t (ccEq_t ccEq_rfl))
    · unfold F144
      rw [ccE142f h₂.1 qr (fun ⟨a, c, y₁, y₂, y₃, y₄, y₅⟩ => g ⟨c, y₂, y₅⟩), ccBvX]
    · unfold F271
      rw [ccE230t h₂.2.1, ccBi, ccIf0, gw, ccE177z (fun ⟨a, y₁, _, y₃⟩ => g ⟨a, y₁, y₃⟩) (by omega) (by omega), ccBi, ccIf0, ccE178t ccT0s (by omega) (by omega), ccBi, ccIf1e]
  subst e₁
  obtain ⟨h, t, q₁, _⟩ := ccLd_R h₂
  have cd := ccCd_of q₁.2.1
  have hs : ∀ p, p < 96 → m 0 0 2 p ≠ I (-1) → ∃ z, ccStf (m 0 0) p = N z ∧ 2 ≤ z ∧ z ≤ 18 := fun p y₁ y₂ => ccStf_pos q₁ b₃ y₁ y₂
  obtain ⟨m₂, c₁, c₂⟩ := ccL271 (m := m) (c := c) (bd := fun a => ccEx (ccBad lm dp a c 1 (m 0 0)) 96 0) (fun a => by
    obtain ⟨k, k₁, k₂, k₃, k₄⟩ := ccTryQ (a := a) (c := c) hB h₂
    refine ⟨k, k₁, ?_, k₄⟩
    rw [k₂, ccEx_f]
    exact ⟨fun y₁ q y₂ y₃ => y₁ q (by omega), fun y₁ q y₂ => y₁ q (by omega) (by omega)⟩) 99 1 (ccM0 m) (by omega) ⟨ccEq_t ccEq_rfl, ccT0s⟩
  obtain ⟨g, hg⟩ := ccFU (k := 99) (by omega)
  refine ccOk_gd (v := ccFst (fun a => ccEx (ccBad lm dp a c 1 (m 0 0)) 96 0) 99 1) (m₁ := m) (m₂ := m₂) h₁ (fun rs => ?_) (fun rs => ?_) ccEq_rfl (fun _ _ _ => rfl) c₂
  · unfold F144
    rw [ccE142t h₂.1 qr (by omega) (by omega) e₂, ccBv, hg]
    exact ccL144 rfl cd b₃ hs h₂.2.2.1.2.2.2.2.1.1 h₂.2.2.1.2.2.2.1.1 99 1 g rs (by omega)
  · unfold F271
    rw [ccE230t h₂.2.1, ccBi, ccIf0, gw, ccE177i e₂ (by omega), ccBi, ccIf1, ccE178f ccT0s, ccBi, ccIf0e, hg, c₁]
/-! tremors until something falls -/
def ccShk2 (dp a c k : Nat) (C E : Nat → Nat → Int32) : Prop := ∀ p, p < 96 → ccP E p = ccP C p ∧ (ccP C p = true → ccWob (N a) (N dp) (N c) E p = ccWob (N a) (N dp) (N c) C p ∧ E 5 p = C 5 p + N k * ccWob (N a) (N dp) (N c) C p)
theorem ccL147 {m : mMi} {n lm dp a c : Nat} {C : Nat → Nat → Int32} (h₀ : m 0 0 = C) (h₁ : ccCd n C) (h₂ : n ≤ 40) (hs : ∀ p, p < 96 → C 2 p ≠ I (-1) → ∃ z, ccStf C p = N z ∧ 2 ≤ z ∧ z ≤ 18) (hd : m 1 0 1 3 = N dp) (hl : m 1 0 1 2 = N lm) : ∀ d k f rs, k + d = 51 → F147_8 (f + d + 1) (N a) (N c) (N k) m rs = rI (ccFst (fun k => ccEx (ccBad lm dp a c k C) 96 0) d k) m rs := by
  intro d
  induction d with
  | zero =>
    intro k f rs g₁
    have e₀ : N 50 < N k := by rw [N_lt (by omega) (by omega)]; omega
    rw [ccL147_8, ccIte, if_pos e₀]
    rfl
  | succ d i₁ =>
    intro k f rs g₁
    have e₁ : f + (d + 1) + 1 = f + d + 1 + 1 := by omega
    have e₀ : ¬ N 50 < N k := by rw [N_lt (by omega) (by omega)]; omega
    rw [e₁, ccL147_8, ccIte, if_neg e₀, ccE37 (i := 0) h₀ h₁ h₂ hs hd hl, ccBi, N_add]
    show _ = rI (if ccEx (ccBad lm dp a c k C) 96 0 = true then N k else ccFst (fun k => ccEx (ccBad lm dp a c k C) 96 0) d (k + 1)) m rs
    cases g₂ : ccEx (ccBad lm dp a c k C) 96 0
    · rw [ccT_f, ccIf0e, if_neg (by decide)]
      exact i₁ (k + 1) f rs (by omega)
    · rw [ccT_t, ccIf1e, if_pos rfl]
theorem ccL274 {w l n bd lm dp a c : Nat} {β wt : Nat → Int32} {W : Nat → Nat} {C : Nat → Nat → Int32} : ∀ d k mc mm h t, k + d = 50 → ccJ mc mm 1 w l n bd β wt W h t → ccShk2 dp a c k C (mc 0 1) → ccQt W (mc 0 1) w l → mc 1 0 1 2 = N lm → mm 4 0 0 4 = N lm → mc 1 0 1 3 = N dp → mm 4 0 0 5 = N dp →
    ∃ m₂, (∀ f rs, F274_37 (f + d + 1) (N a) (N c) (N (k + 1)) mm rs = bV (F256 m₂ rs) (fun m r => rI (ccFst (fun k => ccEx (ccBad lm dp a c k C) 96 0) d (k + 1)) m r)) ∧ ccFq mm m₂ := by
  intro d
  induction d with
  | zero =>
    intro k mc mm h t g₁ _ _ _ _ _ _ _
    have e₀ : N 50 < N (k + 1) := by rw [N_lt (by omega) (by omega)]; omega
    refine ⟨mm, fun f rs => ?_, ccFq_rfl⟩
    rw [ccL274_37]
    simp only [ccIte, if_pos e₀]
    rfl
  | succ d i₁ =>
    intro k mc mm h t g₁ j₁ s₁ j₃ l₁ l₂ l₃ l₄
    have e₀ : ¬ N 50 < N (k + 1) := by rw [N_lt (by omega) (by omega)]; omega
    obtain ⟨m₁, m₂, u, v, q₁, q₂, q₃, q₄, q₅, q₆, q₇, q₈, q₉, D, d₁, d₂, d₃⟩ := ccQuake (x1 := N a) (x2 := N c) j₁ l₃ l₄ l₁ l₂
    obtain ⟨d₄, d₅⟩ := d₃ j₃
    have s₂ : ccShk2 dp a c (k + 1) C D := fun p y₁ => by
      obtain ⟨y₂, y₃⟩ := s₁ p y₁
      have y₄ : ccP D p = ccP (mc 0 1) p := by
        unfold ccP
        rw [d₁.1 2 p (by omega) (by omega)]
      refine ⟨by rw [y₄, y₂], fun y₅ => ?_⟩
      obtain ⟨y₆, y₇⟩ := y₃ y₅
      refine ⟨?_, ?_⟩
      · rw [← y₆]
        unfold ccWob ccStf
        rw [d₁.1 2 p (by omega) (by omega), d₁.1 3 p (by omega) (by omega), d₁.1 11 _ (by omega) (by omega), d₁.1 11 _ (by omega) (by omega)]
      · have y₈ : N (k + 1) = N k + N 1 := by rw [N_add]
        rw [d₁.2.2 p y₁, if_pos ⟨y₁, by rw [y₂]; exact y₅⟩, y₆, y₇, y₈, Int32.add_mul, ccOne, Int32.add_assoc]
    have bw : ∀ p, p < 96 → ccBdw (N lm) D p = ccBad lm dp a c (k + 1) C p := fun p y₁ => by
      obtain ⟨y₂, y₃⟩ := s₂ p y₁
      unfold ccBdw ccBad
      rw [y₂]
      cases y₄ : ccP C p
      · rw [Bool.false_and, Bool.false_and]
      · rw [(y₃ y₄).2]
    cases g₂ : ccEx (ccBad lm dp a c (k + 1) C) 96 0
    · have y₁ := (ccEx_f 96 0).mp g₂
      obtain ⟨y₂, y₃⟩ := d₅ (fun p y₄ => by rw [bw p y₄]; exact y₁ p (by omega) (by omega))
      obtain ⟨m₃, c₁, c₂⟩ := i₁ (k + 1) m₁ m₂ u v (by omega) q₃ (by rw [y₃]; exact s₂) q₆ (by rw [q₄ 1 0 1 2 (by omega) (by omega)]; exact l₁) (by rw [q₅ 4 0 0 4 (by omega) (by omega)]; exact l₂) (by rw [q₄ 1 0 1 3 (by omega) (by omega)]; exact l₃) (by rw [q₅ 4 0 0 5 (by omega) (by omega)]; exact l₄)
      refine ⟨m₃, fun f rs => ?_, ccFq_trans q₅ c₂⟩
      have e₁ : f + (d + 1) + 1 = f + d + 1 + 1 := by omega
      have e₂ : N v - N t = N 0 := by rw [y₂, N_sub (by omega), Nat.sub_self]
      have e₃ : N (k + 1) + N 1 = N (k + 1 + 1) := by rw [N_add]
      rw [e₁, ccL274_37, ccIte, if_neg e₀, q₂, ccBi, e₂, ccIf0, e₃, c₁]
      show _ = bV (F256 m₃ rs) (fun m r => rI (if ccEx (ccBad lm dp a c (k + 1) C) 96 0 = true then N (k + 1) else ccFst (fun k => ccEx (ccBad lm dp a c k C) 96 0) d (k + 1 + 1)) m r)
      rw [g₂, if_neg (by decide)]
    · have y₁ : t < v := by
        refine d₄ ?_
        rcases Classical.em (∃ p, p < 96 ∧ ccBdw (N lm) D p = true) with y₂ | y₂
        · exact y₂
        · have y₃ : ccEx (ccBad lm dp a c (k + 1) C) 96 0 = false := (ccEx_f 96 0).mpr (fun p _ y₄ => by
            rw [← bw p (by omega)]
            cases y₅ : ccBdw (N lm) D p
            · rfl
            · exact absurd ⟨p, by omega, y₅⟩ y₂)
          rw [g₂] at y₃
          cases y₃
      refine ⟨m₂, fun f rs => ?_, q₅⟩
      have e₁ : f + (d + 1) + 1 = f + d + 1 + 1 := by omega
      have e₂ : N v - N t = N (v - t) := N_sub (by omega)
      have e₃ : N (v - t) ≠ N 0 := by rw [ne_eq, N_eq (by omega) (by omega)]; omega
      rw [e₁, ccL274_37, ccIte, if_neg e₀, q₂, ccBi, e₂, ccIte, if_pos e₃]
      simp only [ccIte, if_neg e₀]
      show _ = bV (F256 m₂ rs) (fun m r => rI (if ccEx (ccBad lm dp a c (k + 1) C) 96 0 = true then N (k + 1) else ccFst (fun k => ccEx (ccBad lm dp a c k C) 96 0) d (k + 1 + 1)) m r)
      rw [g₂, if_pos rfl]
theorem ccOk_147 {B : Nat} {m : mMi} {x y : Int32} (hB : B ≤ 900000000) (h₁ : ccTop B m) : ccOk B (F147 x y) (F274 x y) [(1, 1), (3, 2)] m := by
  refine ccOk_trem (b := N 0) (km := fun M r => bV (F255 M r) (fun m r => F274_37 FU x y (N 1) m r)) h₁ (List.mem_cons_self) (List.mem_cons_of_mem _ List.mem_cons_self) (fun m rs => rfl) (fun m rs e₁ => ?_) (fun m rs e₁ e₂ => ?_) (fun m rs e₁ e₂ => ?_) (fun w l n bd lm dp cl β W a c h₂ e₁ e₂ e₃ e₄ e₅ => ?_)
  · unfold F274
    rw [e₁, ccBi, ccIf1]
  · unfold F274
    rw [e₁, ccBi, ccIf0, e₂, ccBi, ccIf1, ccE178f ccT0s, ccBi, ccIf0e]
  · unfold F274
    rw [e₁, ccBi, ccIf0, e₂, ccBi, ccIf0, ccE178t ccT0s (by omega) (by omega), ccBi, ccIf1e]
  · subst e₁ e₂
    have b₃ : n ≤ 40 := h₂.2.2.1.1.2.2.2.2.2.2.2
    obtain ⟨h₀, t₀, r₀, _⟩ := ccLd_R h₂
    have cd := ccCd_of r₀.2.1
    have hs : ∀ p, p < 96 → m 0 0 2 p ≠ I (-1) → ∃ z, ccStf (m 0 0) p = N z ∧ 2 ≤ z ∧ z ≤ 18 := fun p y₁ y₂ => ccStf_pos r₀ b₃ y₁ y₂
    obtain ⟨mc, k₁, k₂, k₃, k₄, k₅⟩ := ccGd_18 (ccEq_rfl (m₁ := m))
    obtain ⟨y₁, y₂, y₃⟩ := ccGd_255 (ccEq_t (v := N 0) (ccEq_rfl (m₁ := m)))
    obtain ⟨h, t, j₁, j₂, j₃, j₄, j₅, j₆, j₇, j₈⟩ := ccJ_tr' hB h₂ k₃ k₄ y₁ y₂ y₃
    have s₀ : ccShk2 dp a c 0 (m 0 0) (mc 0 1) := fun p z₁ => by
      refine ⟨ccP_ag k₃ z₁, fun z₂ => ⟨ccWob_ag k₃ cd b₃ z₁ (ccP_t z₂), ?_⟩⟩
      have z₃ : N 0 = 0 := rfl
      rw [k₃.1 5 p (by omega) (by omega) z₁, z₃, Int32.zero_mul, Int32.add_zero]
    obtain ⟨m₂, c₁, c₂⟩ := ccL274 (a := a) (c := c) 50 0 mc _ h t (by omega) j₁ s₀ j₃ j₅ j₆ j₇ j₈
    obtain ⟨g, hg⟩ := ccFU (k := 50) (by omega)
    refine ccOk_gd (v := ccFst (fun k => ccEx (ccBad lm dp a c k (m 0 0)) 96 0) 50 1) (m₁ := m) (m₂ := ccCp m₂ 3 0 4 0 918) h₁ (fun rs => ?_) (fun rs => ?_) ccEq_rfl (fun _ _ _ => rfl) (ccGd_256 ⟨ccEq_t ccEq_rfl, ccT0s⟩ c₂)
    · show F147_8 FU (N a) (N c) (N 1) m rs = _
      rw [hg]
      exact ccL147 rfl cd b₃ hs h₂.2.2.1.2.2.2.2.1.1 h₂.2.2.1.2.2.2.1.1 50 1 g rs (by omega)
    · show bV (F255 (ccM0 m) rs) _ = _
      rw [ccE255, ccBv, hg, c₁, ccE256, ccBv]
