/-! THE CLASS READS WHAT THE WORLD TOLD: the whole text. -/
def kwCardF (z W : Nat → Nat) : Nat → Nat → List Nat
  | _, 0 => []
  | k, d + 1 => [59] ++ ([99, 97, 114, 100] ++ ([32] ++ ([97 + k] ++ ([32] ++ (ccNl (z k) ++ ([32] ++ (ccNl (W k) ++ kwCardF z W (k + 1) d)))))))
theorem kwCardF_t {z W : Nat → Nat} : ∀ d k, kwCardT z W k ++ kwCardF z W k d = kwCardT z W (k + d) := by
  intro d
  induction d with
  | zero => intro k; exact List.append_nil _
  | succ d h =>
    intro k
    have e : k + (d + 1) = k + 1 + d := by omega
    rw [e, ← h (k + 1)]
    show kwCardT z W k ++ ([59] ++ ([99, 97, 114, 100] ++ ([32] ++ ([97 + k] ++ ([32] ++ (ccNl (z k) ++ ([32] ++ (ccNl (W k) ++ kwCardF z W (k + 1) d)))))))) = (kwCardT z W k ++ ([59, 99, 97, 114, 100, 32] ++ ([97 + k] ++ ([32] ++ (ccNl (z k) ++ ([32] ++ ccNl (W k))))))) ++ kwCardF z W (k + 1) d
    simp only [List.append_assoc, List.cons_append, List.nil_append]
theorem kwCardF_s {z W : Nat → Nat} {t : List Nat} (k : kwSep t) : ∀ d i, kwSep (kwCardF z W i d ++ t) := by
  intro d i
  cases d with
  | zero => exact k
  | succ d => exact Or.inr rfl
theorem kwOpsT_s : ∀ os, kwSep (kwOpsT os) := by
  intro os
  cases os with
  | nil => exact True.intro
  | cons o os =>
    show kwSep (kwOpT o ++ kwOpsT os)
    unfold kwOpT
    by_cases g : o.1 = 0
    · rw [if_pos g]
      exact Or.inr rfl
    · rw [if_neg g]
      exact Or.inr rfl
/-- the cards, a line each -/
theorem kwFwCs {b : Nat → Nat} {L e : Nat} {σ z W : Nat → Nat} {t : List Nat} (k : kwSep t) : ∀ d n i (m : mMi) (p : Nat), n + d ≤ 20 → i + d ≤ 100 → (∀ j, j < n + d → 1 ≤ z j ∧ z j ≤ 9 ∧ 1 ≤ W j ∧ W j ≤ 9) → ccCx m b L e p → kwTl b L p (kwCardF z W n d ++ t) → kwPc m n σ z W → ∃ m₁ p₁, (∀ f x rs, F67_43 (f + d) x (N i) m rs = F67_43 f x (N (i + d)) m₁ rs) ∧ ccCx m₁ b L e p₁ ∧ kwTl b L p₁ t ∧ kwPc m₁ (n + d) σ z W ∧ ccFrc m m₁ := by
  intro d
  induction d with
  | zero =>
    intro n i m p _ _ _ c x q
    exact ⟨m, p, fun f x rs => rfl, c, x, q, fun _ _ _ _ _ _ _ _ => rfl⟩
  | succ d h =>
    intro n i m p h₁ h₂ h₃ c x q
    have x' : kwTl b L p ([59] ++ ([99, 97, 114, 100] ++ ([32] ++ ([97 + n] ++ ([32] ++ (ccNl (z n) ++ ([32] ++ (ccNl (W n) ++ (kwCardF z W (n + 1) d ++ t))))))))) := by
      have y : kwCardF z W n (d + 1) ++ t = [59] ++ ([99, 97, 114, 100] ++ ([32] ++ ([97 + n] ++ ([32] ++ (ccNl (z n) ++ ([32] ++ (ccNl (W n) ++ (kwCardF z W (n + 1) d ++ t)))))))) := by
        show ([59] ++ ([99, 97, 114, 100] ++ ([32] ++ ([97 + n] ++ ([32] ++ (ccNl (z n) ++ ([32] ++ (ccNl (W n) ++ kwCardF z W (n + 1) d)))))))) ++ t = _
        simp only [List.append_assoc, List.cons_append, List.nil_append]
      rw [← y]
      exact x
    obtain ⟨m₁, p₁, a₁, a₂, a₃, a₄, a₅⟩ := kwRdC c x'
    obtain ⟨y₁, y₂, y₃, y₄⟩ := h₃ n (by omega)
    obtain ⟨m₂, p₂, b₁, b₂, b₃, b₄, b₅⟩ := kwFwC (kwCardF_s k d (n + 1)) a₃ a₄ (kwPc_fr q a₅) (by omega) ⟨y₁, y₂⟩ ⟨y₃, y₄⟩
    have e₀ : n + (d + 1) = n + 1 + d := by omega
    have e₁ : i + (d + 1) = i + 1 + d := by omega
    rw [e₀] at h₃
    obtain ⟨m₃, p₃, d₁, d₂, d₃, d₄, d₅⟩ := h (n + 1) (i + 1) m₂ p₂ (by omega) (by omega) h₃ b₂ b₃ b₄
    rw [e₀, e₁]
    refine ⟨m₃, p₃, fun f x rs => ?_, d₂, d₃, d₄, ccFrc_tr (ccFrc_0 a₅) (ccFrc_tr b₅ d₅)⟩
    have e₂ : f + (d + 1) = f + d + 1 := by omega
    have g₁ : ¬ N 900 ≤ N i := by rw [N_le (by omega) (by omega)]; omega
    rw [e₂, ccL67_43, ccIte, if_neg g₁, a₁, ccBv, a₂, ccIte, if_pos (show N 3 ≠ N 0 by decide), ccIte, if_pos rfl, b₁, ccBi, ccIf1, N_add]
    exact d₁ f x rs
/-- what is built, a line each -/
theorem kwFwOs {b : Nat → Nat} {L e B w l n lm dp cl bd h : Nat} {β wt : Nat → Int32} {W : Nat → Nat} {bx : Bool} (hn : n ≤ 20) {M : mMi} : ∀ (os : List (Nat × Nat × Nat × Nat × Nat × Nat)) i (m mw : mMi) (p : Nat), i + os.length ≤ 100 → ccCx m b L e p → kwTl b L p (kwOpsT os) → kwJ m mw 2 B w l n lm dp cl bd β wt W bx h 0 → (∀ k, k < n → m 1 1 2 k = N (k + 1)) → kwNg (m 0 2) → kwOps B w l n os mw M → ∃ m₁, (∀ f x rs, F67_43 (f + os.length + 1) x (N i) m rs = rI (N 1) m₁ rs) ∧ kwJ m₁ M 2 B w l n lm dp cl bd β wt W bx h 0 ∧ (∀ j p, m₁ 1 1 j p = m 1 1 j p) ∧ kwNg (m₁ 0 2) ∧ ccFrc m m₁ ∧ m₁ 2 3 0 3 = N 0 ∧ m₁ 2 3 0 4 = I (-1) := by
  intro os
  induction os with
  | nil =>
    intro i m mw p h₁ c x q nm ng ok
    obtain ⟨m₁, a₁, a₂, a₃, a₄⟩ := kwRdE c x
    have h₁ : i + 0 ≤ 100 := h₁
    have g₁ : ¬ N 900 ≤ N i := by rw [N_le (by omega) (by omega)]; omega
    have r : m₁ 0 2 = m 0 2 := by funext j s; exact a₄ 0 2 j s (by omega) (by omega)
    refine ⟨m₁, fun f x rs => ?_, kwJ_rw (kwJ_c2 q r (fun j s => a₄ 1 1 j s (by omega) (by omega))) ok, fun j s => a₄ 1 1 j s (by omega) (by omega), by rw [r]; exact ng, ccFrc_0 a₄, a₃.2.2.2.2.1, a₃.2.2.2.2.2⟩
    show F67_43 (f + 1) x (N i) m rs = _
    rw [ccL67_43, ccIte, if_neg g₁, a₁, ccBv, a₂, ccIte, if_neg (fun y => y rfl)]
  | cons o os hh =>
    intro i m mw p h₁ c x q nm ng ok
    have h₁ : i + (os.length + 1) ≤ 100 := h₁
    obtain ⟨mw₁, k₁, k₂, k₃⟩ := ok
    have sp := kwOpsT_s os
    have g₁ : ¬ N 900 ≤ N i := by rw [N_le (by omega) (by omega)]; omega
    have main : ∃ m₁ p₁ m₂ p₂, (∀ rs, F94 m rs = rV m₁ rs) ∧ m₁ 2 4 0 4 = N 3 ∧ (∀ rs, F71 m₁ rs = rI (N 1) m₂ rs) ∧ ccCx m₁ b L e p₁ ∧ ccCx m₂ b L e p₂ ∧ kwTl b L p₂ (kwOpsT os) ∧ kwJ m₂ (kwOpM B o mw) 2 B w l n lm dp cl bd β wt W bx h 0 ∧ (∀ j p, m₂ 1 1 j p = m 1 1 j p) ∧ ccFrc m m₂ ∧ kwNg (m₂ 0 2) := by
      obtain ⟨z, x₁, y₁, a, d, g⟩ := o
      by_cases hz : z = 0
      · have e₁ : kwOpsT ((z, x₁, y₁, a, d, g) :: os) = [59] ++ ([108, 101, 97, 110] ++ ([32] ++ (ccNl x₁ ++ ([32] ++ (ccNl y₁ ++ ([32] ++ ([97 + a] ++ ([32] ++ ([97 + d] ++ ([32] ++ (ccNl g ++ kwOpsT os))))))))))) := by
          show kwOpT (z, x₁, y₁, a, d, g) ++ kwOpsT os = _
          unfold kwOpT
          rw [if_pos hz]
          simp only [List.append_assoc, List.cons_append, List.nil_append]
        rw [e₁] at x
        obtain ⟨m₁, p₁, a₁, a₂, a₃, a₄, a₅⟩ := kwRdC c x
        have r : m₁ 0 2 = m 0 2 := by funext j s; exact a₅ 0 2 j s (by omega) (by omega)
        have q₁ := kwJ_c2 q r (fun j s => a₅ 1 1 j s (by omega) (by omega))
        obtain ⟨m₂, p₂, b₁, b₂, b₃, b₄, b₅, b₆, b₇⟩ := kwFwLn sp a₃ a₄ q₁ hn (fun k y => by rw [a₅ 1 1 2 k (by omega) (by omega)]; exact nm k y) k₁ hz
        exact ⟨m₁, p₁, m₂, p₂, a₁, a₂, b₁, a₃, b₂, b₃, b₄, fun j s => by rw [b₅, a₅ 1 1 j s (by omega) (by omega)], ccFrc_tr (ccFrc_0 a₅) b₆, b₇ (by rw [r]; exact ng)⟩
      · have e₁ : kwOpsT ((z, x₁, y₁, a, d, g) :: os) = [59] ++ ([108, 97, 121] ++ ([32] ++ (ccNl x₁ ++ ([32] ++ (ccNl y₁ ++ ([32] ++ ([97 + a] ++ kwOpsT os))))))) := by
          show kwOpT (z, x₁, y₁, a, d, g) ++ kwOpsT os = _
          unfold kwOpT
          rw [if_neg hz]
          simp only [List.append_assoc, List.cons_append, List.nil_append]
        rw [e₁] at x
        obtain ⟨m₁, p₁, a₁, a₂, a₃, a₄, a₅⟩ := kwRdC c x
        have r : m₁ 0 2 = m 0 2 := by funext j s; exact a₅ 0 2 j s (by omega) (by omega)
        have q₁ := kwJ_c2 q r (fun j s => a₅ 1 1 j s (by omega) (by omega))
        obtain ⟨m₂, p₂, b₁, b₂, b₃, b₄, b₅, b₆, b₇⟩ := kwFwLy sp a₃ a₄ q₁ hn (fun k y => by rw [a₅ 1 1 2 k (by omega) (by omega)]; exact nm k y) k₁ hz
        exact ⟨m₁, p₁, m₂, p₂, a₁, a₂, b₁, a₃, b₂, b₃, b₄, fun j s => by rw [b₅, a₅ 1 1 j s (by omega) (by omega)], ccFrc_tr (ccFrc_0 a₅) b₆, b₇ (by rw [r]; exact ng)⟩
    obtain ⟨m₁, p₁, m₂, p₂, a₁, a₂, b₁, a₃, b₂, b₃, b₄, b₅, b₆, b₇⟩ := main
    obtain ⟨m₃, d₁, d₂, d₃, d₄, d₅, d₆⟩ := hh (i + 1) m₂ mw₁ p₂ (by omega) b₂ b₃ (kwJ_rw b₄ k₂) (fun k y => by rw [b₅]; exact nm k y) b₇ k₃
    refine ⟨m₃, fun f x rs => ?_, d₂, fun j s => by rw [d₃, b₅], d₄, ccFrc_tr b₆ d₅, d₆⟩
    show F67_43 (f + (os.length + 1) + 1) x (N i) m rs = _
    have e₂ : f + (os.length + 1) + 1 = f + os.length + 1 + 1 := by omega
    rw [e₂, ccL67_43, ccIte, if_neg g₁, a₁, ccBv, a₂, ccIte, if_pos (show N 3 ≠ N 0 by decide), ccIte, if_pos rfl, b₁, ccBi, ccIf1, N_add]
    exact d₁ f x rs
/-- what the class has read -/
theorem kwFwT {m mw₀ mwK : mMi} {b : Nat → Nat} {L e B w l n lm dp cl bd : Nat} {z W : Nat → Nat} {os : List (Nat × Nat × Nat × Nat × Nat × Nat)} (q : ccBt m e b) (hL : L ≤ e) (lim : ccLim m) (x : kwTl b L 0 (kwText (kwSg w l lm dp cl bd) z W n os)) (hb : 2 ≤ w ∧ w ≤ 12 ∧ 1 ≤ l ∧ l ≤ 8 ∧ 1 ≤ lm ∧ lm ≤ 99 ∧ dp ≤ 9 ∧ cl ≤ 20 ∧ bd ≤ 8 ∧ n ≤ 20 ∧ os.length ≤ 14) (hz : ∀ k, k < n → 1 ≤ z k ∧ z k ≤ 9 ∧ 1 ≤ W k ∧ W k ≤ 9) (s : kwS mw₀ B w l n lm dp cl bd) (ew : kwEw mw₀ B n z W) (ops : kwOps B w l n os mw₀ mwK) : ∃ m₁, (∀ rs, F67 (N L) m rs = rI (N 1) m₁ rs) ∧ kwJ m₁ mwK 2 B w l n lm dp cl bd (fun k => N (z k)) (fun k => N (W k)) W true 0 0 ∧ (∀ u, u < 6 → m₁ 1 1 1 u = N (kwSg w l lm dp cl bd u)) ∧ (∀ k, k < n → m₁ 1 1 2 k = N (k + 1) ∧ m₁ 1 1 3 k = N (z k) ∧ m₁ 1 1 4 k = N (W k)) ∧ m₁ 1 1 0 4 = N n ∧ kwNg (m₁ 0 2) ∧ m₁ 2 3 0 3 = N 0 ∧ m₁ 2 3 0 4 = I (-1) ∧ ∀ f a j i, ¬ (f = 2 ∧ a = 4) → ¬ (f = 2 ∧ a = 3 ∧ j = 0 ∧ 3 ≤ i ∧ i ≤ 6) → ¬ (f = 1 ∧ a = 1) → ¬ (f = 0 ∧ a = 2) → m₁ f a j i = m f a j i := by
  obtain ⟨b₁, b₂, b₃, b₄, b₅, b₆, b₇, b₈, b₉, b₁₀, b₁₁⟩ := hb
  have q₀ := q.1
  have h₀ : ¬ m 2 1 0 1 < N L := by rw [q.2.1, N_lt (by omega) (by omega)]; omega
  obtain ⟨M, a₁, a₂, a₃, a₄, a₅, ⟨c₁, c₂, c₃, c₄, c₅, c₆, c₇, c₈⟩, a₇⟩ := ccE67 h₀
  obtain ⟨σ, hσ⟩ : ∃ σ, σ = kwSg w l lm dp cl bd := ⟨_, rfl⟩
  have s₀ : ∀ u, u < 6 → ccLo u ≤ σ u ∧ σ u ≤ ccUp u := fun u y => by
    have g : u = 0 ∨ u = 1 ∨ u = 2 ∨ u = 3 ∨ u = 4 ∨ u = 5 := by omega
    rw [hσ]
    rcases g with g | g | g | g | g | g <;> subst g
    · exact ⟨b₁, b₂⟩
    · exact ⟨b₃, b₄⟩
    · exact ⟨b₅, b₆⟩
    · exact ⟨Nat.zero_le _, b₇⟩
    · exact ⟨Nat.zero_le _, b₈⟩
    · exact ⟨Nat.zero_le _, b₉⟩
  have x' : kwTl b L 0 ([116, 97, 98, 108, 101] ++ (kwSetF σ 0 6 ++ (kwCardF z W 0 n ++ kwOpsT os))) := by
    have y : kwText σ z W n os = [116, 97, 98, 108, 101] ++ (kwSetF σ 0 6 ++ (kwCardF z W 0 n ++ kwOpsT os)) := by
      have y₁ := kwCardF_t (z := z) (W := W) n 0
      have y₂ : kwCardT z W 0 ++ kwCardF z W 0 n = kwCardF z W 0 n := rfl
      rw [y₂, Nat.zero_add] at y₁
      unfold kwText
      rw [← y₁]
      simp only [kwSetT, kwSetF, if_pos, List.append_assoc, List.cons_append, List.nil_append, if_neg (show ¬ 0 + 1 = 0 by omega), if_neg (show ¬ 0 + 1 + 1 = 0 by omega), if_neg (show ¬ 0 + 1 + 1 + 1 = 0 by omega), if_neg (show ¬ 0 + 1 + 1 + 1 + 1 = 0 by omega), if_neg (show ¬ 0 + 1 + 1 + 1 + 1 + 1 = 0 by omega), if_neg (show ¬ 1 = 0 by omega), if_neg (show ¬ 2 = 0 by omega), if_neg (show ¬ 3 = 0 by omega), if_neg (show ¬ 4 = 0 by omega), if_neg (show ¬ 5 = 0 by omega), Nat.zero_add, Nat.reduceAdd]
    rw [← y, hσ]
    exact x
  have cM : ccCx M b L e 0 := ⟨hL, ⟨q.1, by rw [a₇ 2 1 0 1 (by omega) (by omega) (by omega) (by omega)]; exact q.2.1, fun k y => ⟨(q.2.2 k y).1, by rw [a₇ 2 1 1 k (by omega) (by omega) (by omega) (by omega)]; exact (q.2.2 k y).2⟩⟩, a₂, a₃, a₄, a₅⟩
  have sep₁ := kwCardF_s (z := z) (W := W) (kwOpsT_s os) n 0
  obtain ⟨m₁, p₁, d₁, d₂, d₃, d₄, d₅⟩ := kwE68 sep₁ s₀ cM x' (fun u y => by rw [a₇ 3 1 0 u (by omega) (by omega) (by omega) (by omega), a₇ 3 2 0 u (by omega) (by omega) (by omega) (by omega)]; exact lim u y)
  have rw₁ : ∀ j i, m₁ 0 2 j i = M 0 2 j i := fun j i => d₅ 0 2 j i (by omega) (by omega) (by omega)
  have pc : kwPc m₁ 0 σ z W := ⟨by rw [d₅ 1 1 0 4 (by omega) (by omega) (by omega)]; exact c₁, d₄, fun k y => by omega, fun p y => by rw [rw₁, rw₁]; exact c₂ p y, fun k y => by rw [rw₁, rw₁]; exact c₃ k y, by rw [rw₁]; exact c₄, by rw [rw₁]; exact c₅, fun u y => by rw [rw₁]; exact c₆ u y, by rw [rw₁]; exact c₇, by rw [rw₁]; exact c₈⟩
  obtain ⟨m₂, p₂, e₁, e₂, e₃, e₄, e₅⟩ := kwFwCs (kwOpsT_s os) n 0 0 m₁ p₁ (by omega) (by omega) (fun j y => hz j (by omega)) d₂ d₃ pc
  rw [Nat.zero_add] at e₁ e₄
  obtain ⟨f₁, f₂, f₃, f₄, f₅, f₆, f₇, f₈, f₉, f₁₀⟩ := e₄
  have ru : ccRu m₂ 1 w l n := ⟨by rw [f₂ 0 (by omega), hσ]; rfl, by rw [f₂ 1 (by omega), hσ]; rfl, f₁, b₁, b₂, b₃, b₄, by omega⟩
  have J := kwJ_init (mc := m₂) (i := 2) ru (by show m₂ 1 1 1 5 = N bd; rw [f₂ 5 (by omega), hσ]; rfl) b₉ ⟨f₄, f₆, f₇, f₈, f₉, f₁₀, fun k y => ⟨(f₅ k (by omega)).2, (f₅ k (by omega)).1, (f₃ k y).2.2.2, (hz k y).1, (hz k y).2.1⟩⟩ (fun k y => (f₃ k y).2.2.1) (fun k y => (hz k y).2.2) s ew
  have ng : kwNg (m₂ 0 2) := fun p y₁ y₂ => absurd (f₄ p y₁).1 y₂
  obtain ⟨m₃, g₁, g₂, g₃, g₄, g₅, g₆, g₇⟩ := kwFwOs b₁₀ os n m₂ mw₀ p₂ (by omega) e₂ e₃ J (fun k y => (f₃ k y).1) ng ops
  obtain ⟨f, hf⟩ := ccFU (k := os.length + n) (by omega)
  refine ⟨m₃, fun rs => ?_, g₂, fun u y => by rw [g₃, f₂ u y, hσ], fun k y => ⟨by rw [g₃]; exact (f₃ k y).1, by rw [g₃]; exact (f₃ k y).2.1, by rw [g₃]; exact (f₃ k y).2.2.1⟩, by rw [g₃]; exact f₁, g₄, g₆, g₇, fun f a j i y₁ y₂ y₃ y₄ => ?_⟩
  · have e₈ : f + (os.length + n) + 1 = f + os.length + 1 + n := by omega
    rw [a₁, d₁, ccBi, ccIf1, hf, e₈, e₁, g₁]
  · rw [g₅ f a j i (by omega) (by omega) y₃ y₄, e₅ f a j i (by omega) (by omega) y₃ y₄, d₅ f a j i (by omega) (by omega) (by omega), a₇ f a j i (by omega) (by omega) y₃ y₄]
