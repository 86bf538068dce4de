/-! THE WORLD IS MADE: what is built. -/
/-- a change that builds: kind (0 a pair, 1 a flat card), layer, column, card, card, angle -/
def kwOpT (o : Nat × Nat × Nat × Nat × Nat × Nat) : List Nat := if o.1 = 0 then [59, 108, 101, 97, 110, 32] ++ (ccNl o.2.1 ++ ([32] ++ (ccNl o.2.2.1 ++ ([32] ++ ([97 + o.2.2.2.1] ++ ([32] ++ ([97 + o.2.2.2.2.1] ++ ([32] ++ ccNl o.2.2.2.2.2)))))))) else [59, 108, 97, 121, 32] ++ (ccNl o.2.1 ++ ([32] ++ (ccNl o.2.2.1 ++ ([32] ++ [97 + o.2.2.2.1]))))
def kwOpOk (B w l n : Nat) (o : Nat × Nat × Nat × Nat × Nat × Nat) (m : mMi) : Prop := (o.2.1 < l ∧ o.2.1 + o.2.2.1 < w ∧ o.2.2.2.1 < n ∧ m 6 B 4 o.2.2.2.1 = N 0) ∧ (o.1 = 0 → o.2.2.2.2.1 < n ∧ o.2.2.2.2.1 ≠ o.2.2.2.1 ∧ m 6 B 4 o.2.2.2.2.1 = N 0 ∧ 20 ≤ o.2.2.2.2.2 ∧ o.2.2.2.2.2 ≤ 70 ∧ m 20 B o.2.1 o.2.2.1 = I (-1) ∧ (1 ≤ o.2.1 → m 24 B o.2.1 o.2.2.1 ≠ I (-1))) ∧ (o.1 ≠ 0 → 1 ≤ o.2.1 ∧ m 24 B o.2.1 o.2.2.1 = I (-1) ∧ m 20 B (o.2.1 - 1) o.2.2.1 ≠ I (-1) ∧ m 20 B (o.2.1 - 1) (o.2.2.1 + 1) ≠ I (-1))
def kwOpM (B : Nat) (o : Nat × Nat × Nat × Nat × Nat × Nat) (m : mMi) : mMi := if o.1 = 0 then kwMe m B o.2.1 o.2.2.1 o.2.2.2.1 o.2.2.2.2.1 (N o.2.2.2.2.2) else kwMl m B o.2.1 o.2.2.1 o.2.2.2.1
/-- the World's rows are the same -/
def kwRw (B : Nat) (m M : mMi) : Prop := ∀ f j p, f = 6 ∨ (20 ≤ f ∧ f ≤ 25) → M f B j p = m f B j p
def kwOps (B w l n : Nat) : List (Nat × Nat × Nat × Nat × Nat × Nat) → mMi → mMi → Prop
  | [], m, M => kwRw B m M
  | o :: os, m, M => ∃ m₁, kwOpOk B w l n o m ∧ kwRw B (kwOpM B o m) m₁ ∧ kwOps B w l n os m₁ M
def kwOpsT : List (Nat × Nat × Nat × Nat × Nat × Nat) → List Nat
  | [] => []
  | o :: os => kwOpT o ++ kwOpsT os
theorem kwRw_t {B : Nat} {m m₁ m₂ : mMi} (h₁ : kwRw B m m₁) (h₂ : kwRw B m₁ m₂) : kwRw B m m₂ := fun f j p y => Eq.trans (h₂ f j p y) (h₁ f j p y)
theorem kwMset_w {B f j p : Nat} {v : Int32} {m M : mMi} (h : kwRw B m M) : kwRw B (mset m f B j p v) (mset M f B j p v) := fun f₁ j₁ p₁ y => by
  rw [ccRd, ccRd, h f₁ j₁ p₁ y]
theorem kwOpM_w {B : Nat} {o : Nat × Nat × Nat × Nat × Nat × Nat} {m M : mMi} (h : kwRw B m M) : kwRw B (kwOpM B o m) (kwOpM B o M) := by
  unfold kwOpM
  by_cases g : o.1 = 0
  · rw [if_pos g, if_pos g]
    unfold kwMe
    exact kwMset_w (kwMset_w (kwMset_w (kwMset_w (kwMset_w (kwMset_w (kwMset_w (kwMset_w (kwMset_w (kwMset_w h)))))))))
  · rw [if_neg g, if_neg g]
    unfold kwMl
    exact kwMset_w (kwMset_w (kwMset_w (kwMset_w h)))
theorem kwOpOk_w {B w l n : Nat} {o : Nat × Nat × Nat × Nat × Nat × Nat} {m M : mMi} (h : kwRw B m M) (h₁ : kwOpOk B w l n o M) : kwOpOk B w l n o m := by
  obtain ⟨⟨a₁, a₂, a₃, a₄⟩, b, c⟩ := h₁
  refine ⟨⟨a₁, a₂, a₃, by rw [← h 6 4 _ (by omega)]; exact a₄⟩, fun y => ?_, fun y => ?_⟩
  · obtain ⟨b₁, b₂, b₃, b₄, b₅, b₆, b₇⟩ := b y
    exact ⟨b₁, b₂, by rw [← h 6 4 _ (by omega)]; exact b₃, b₄, b₅, by rw [← h 20 _ _ (by omega)]; exact b₆, fun z => by rw [← h 24 _ _ (by omega)]; exact b₇ z⟩
  · obtain ⟨c₁, c₂, c₃, c₄⟩ := c y
    exact ⟨c₁, by rw [← h 24 _ _ (by omega)]; exact c₂, by rw [← h 20 _ _ (by omega)]; exact c₃, by rw [← h 20 _ _ (by omega)]; exact c₄⟩
theorem kwOps_w {B w l n : Nat} {os : List (Nat × Nat × Nat × Nat × Nat × Nat)} {m m' M : mMi} (h : kwRw B m m') (h₁ : kwOps B w l n os m' M) : kwOps B w l n os m M := by
  cases os with
  | nil => exact kwRw_t h h₁
  | cons o os =>
    obtain ⟨m₁, a, b, c⟩ := h₁
    exact ⟨m₁, kwOpOk_w h a, kwRw_t (kwOpM_w h) b, c⟩
theorem kwJ_rw {mc mw M : mMi} {i B w l n lm dp cl bd h t : Nat} {β wt : Nat → Int32} {W : Nat → Nat} {bx : Bool} (q : kwJ mc mw i B w l n lm dp cl bd β wt W bx h t) (h₁ : kwRw B mw M) : kwJ mc M i B w l n lm dp cl bd β wt W bx h t := by
  obtain ⟨j₀, s₀, u₀, w₀⟩ := q
  exact ⟨j₀, kwS_st (fun j p _ => h₁ 6 j p (Or.inl rfl)) s₀, kwU_cg u₀ h₁, kwW_st (fun j p _ => h₁ 6 j p (Or.inl rfl)) w₀⟩
/-- a change in class and World -/
theorem kwJ_op {mc mw : mMi} {i B w l n lm dp cl bd h : Nat} {β wt : Nat → Int32} {W : Nat → Nat} {bx : Bool} {o : Nat × Nat × Nat × Nat × Nat × Nat} (q : kwJ mc mw i B w l n lm dp cl bd β wt W bx h 0) (ok : kwOpOk B w l n o mw) : (o.1 = 0 → kwJ (mset (mset (mset (mset (mset (mset mc 0 i 2 (12 * o.2.1 + o.2.2.1) (N o.2.2.2.1)) 0 i 3 (12 * o.2.1 + o.2.2.1) (N o.2.2.2.2.1)) 0 i 4 (12 * o.2.1 + o.2.2.1) (N o.2.2.2.2.2)) 0 i 5 (12 * o.2.1 + o.2.2.1) (N 0)) 0 i 13 o.2.2.2.1 (N (12 * o.2.1 + o.2.2.1))) 0 i 13 o.2.2.2.2.1 (N (12 * o.2.1 + o.2.2.1))) (kwOpM B o mw) i B w l n lm dp cl bd β wt W bx h 0) ∧ (o.1 ≠ 0 → kwJ (mset (mset mc 0 i 6 (12 * o.2.1 + o.2.2.1) (N o.2.2.2.1)) 0 i 13 o.2.2.2.1 (N (12 * o.2.1 + o.2.2.1))) (kwOpM B o mw) i B w l n lm dp cl bd β wt W bx h 0) := by
  obtain ⟨⟨a₁, a₂, a₃, a₄⟩, b, c⟩ := ok
  have b₁ : w ≤ 12 := q.2.1.2.2.2.2.2.2.2.2.1
  have b₂ : l ≤ 8 := q.2.1.2.2.2.2.2.2.2.2.2.2.1
  have gg := q.2.2.1.1
  have kk := q.2.2.1.2.1
  have held : ∀ k, k < n → mw 6 B 4 k = N 0 → mc 0 i 13 k = I (-1) := fun k y₁ y₂ => by
    rcases (kk k y₁).2 with y | y
    · exact absurd y kwXno
    · rcases y with ⟨_, y₃⟩ | ⟨y₃, _⟩ | ⟨L, c, _, _, _, _, _, y₄⟩
      · exact y₃
      · rw [y₂] at y₃
        exact absurd y₃ (by decide)
      · rcases y₄ with ⟨y₅, _⟩ | ⟨y₅, _⟩
        · rw [y₂] at y₅
          exact absurd y₅ (by decide)
        · rw [y₂] at y₅
          exact absurd y₅ (by decide)
  constructor
  · intro y
    obtain ⟨d₁, d₂, d₃, d₄, d₅, d₆, d₇⟩ := b y
    obtain ⟨g₁, g₂, _⟩ := gg o.2.1 o.2.2.1 (by omega) (by omega)
    have z := kwJ_lean (g := N o.2.2.2.2.2) q (by omega) a₁ a₂ a₃ d₁ (Ne.symm d₂) (held _ a₃ a₄) (held _ d₁ d₃) (by rw [← g₁]; exact d₆) (fun u => by rw [← g₂]; exact d₇ (by omega))
    unfold kwOpM
    rw [if_pos y]
    exact z
  · intro y
    obtain ⟨d₁, d₂, d₃, d₄⟩ := c y
    obtain ⟨_, g₂, _⟩ := gg o.2.1 o.2.2.1 (by omega) (by omega)
    obtain ⟨g₃, _, _⟩ := gg (o.2.1 - 1) o.2.2.1 (by omega) (by omega)
    obtain ⟨g₄, _, _⟩ := gg (o.2.1 - 1) (o.2.2.1 + 1) (by omega) (by omega)
    have e₃ : 12 * (o.2.1 - 1) + o.2.2.1 = 12 * o.2.1 + o.2.2.1 - 12 := by omega
    have e₄ : 12 * (o.2.1 - 1) + (o.2.2.1 + 1) = 12 * o.2.1 + o.2.2.1 - 11 := by omega
    rw [e₃] at g₃
    rw [e₄] at g₄
    have z := kwJ_lay q (by omega) d₁ a₁ a₂ a₃ (held _ a₃ a₄) (by rw [← g₂]; exact d₂) (by rw [← g₃]; exact d₃) (by rw [← g₄]; exact d₄)
    unfold kwOpM
    rw [if_neg y]
    exact z
theorem kwNth_ex {f : Nat → Bool} : ∀ d e p, ccCnt f p + e < ccCnt f (p + d) → e < 1000 → ∃ q, kwNth f d e p = N q ∧ p ≤ q ∧ q < p + d ∧ f q = true := by
  intro d
  induction d with
  | zero =>
    intro e p h _
    rw [Nat.add_zero] at h
    omega
  | succ d i₁ =>
    intro e p h he
    have e₁ : p + (d + 1) = p + 1 + d := by omega
    rw [e₁] at h
    have cs := ccCnt_s (f := f) (k := p)
    cases e with
    | zero =>
      show ∃ q, (if f p = true then N p else kwNth f d 0 (p + 1)) = N q ∧ p ≤ q ∧ q < p + (d + 1) ∧ f q = true
      cases g : f p
      · rw [g, if_neg (by intro v; cases v)] at cs
        obtain ⟨q, h₁, h₂, h₃, h₄⟩ := i₁ 0 (p + 1) (by omega) he
        rw [if_neg (by intro v; cases v)]
        exact ⟨q, h₁, by omega, by omega, h₄⟩
      · rw [if_pos rfl]
        exact ⟨p, rfl, Nat.le_refl p, by omega, g⟩
    | succ e =>
      show ∃ q, (if f p = true then kwNth f d e (p + 1) else kwNth f d (e + 1) (p + 1)) = N q ∧ p ≤ q ∧ q < p + (d + 1) ∧ f q = true
      cases g : f p
      · rw [g, if_neg (by intro v; cases v)] at cs
        obtain ⟨q, h₁, h₂, h₃, h₄⟩ := i₁ (e + 1) (p + 1) (by omega) he
        rw [if_neg (by intro v; cases v)]
        exact ⟨q, h₁, by omega, by omega, h₄⟩
      · rw [g, if_pos rfl] at cs
        rw [if_pos rfl]
        obtain ⟨q, h₁, h₂, h₃, h₄⟩ := i₁ e (p + 1) (by omega) (by omega)
        exact ⟨q, h₁, by omega, by omega, h₄⟩
