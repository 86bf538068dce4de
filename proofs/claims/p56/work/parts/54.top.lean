/-! ALL OF THE STATE, as it stands between two calls. -/
def ccNum (g : Nat → Nat) : Nat → Nat
  | 0 => 0
  | k + 1 => 32 * ccNum g k + (g k - 96)
/-- a name: six letters of the reference, one number of the class -/
def ccNm6 (m : mMi) (r k : Nat) : Prop := ∃ g e, 1 ≤ e ∧ e ≤ 6 ∧ (∀ i, i < e → 97 ≤ g i ∧ g i ≤ 122 ∧ m 4 0 1 (6 * k + i) = N (g i)) ∧ (∀ i, e ≤ i → i < 6 → m 4 0 1 (6 * k + i) = N 0) ∧ m 1 r 2 k = N (ccNum g e)
def ccPar (m : mMi) (r w l n bd lm dp cl : Nat) (β : Nat → Int32) (W : Nat → Nat) : Prop := ccRu m r w l n ∧ ccMo m w l n ∧ (m 1 r 1 5 = N bd ∧ m 4 0 0 7 = N bd ∧ bd ≤ 8) ∧ (m 1 r 1 2 = N lm ∧ m 4 0 0 4 = N lm ∧ lm ≤ 99) ∧ (m 1 r 1 3 = N dp ∧ m 4 0 0 5 = N dp ∧ dp ≤ 9) ∧ (m 1 r 1 4 = N cl ∧ m 4 0 0 6 = N cl ∧ cl ≤ 20) ∧ ccWt m r n W ∧ (∀ k, k < n → m 4 0 2 k = N (W k)) ∧ ccWok n W ∧ (∀ k, k < n → m 1 r 3 k = β k) ∧ ∀ k, k < n → ccNm6 m r k
def ccIn (m : mMi) : Prop := ∃ e, e ≤ 900 ∧ m 2 1 0 1 = N e ∧ m 4 0 0 17 = N e ∧ ∀ k, k < e → ∃ b, b < 256 ∧ m 4 0 7 k = N b ∧ m 2 1 1 k = Int8.toInt32 (Int32.toInt8 (N b))
def ccEr (m : mMi) : Prop := m 2 3 0 3 = m 4 0 0 18 ∧ m 2 3 0 4 = m 4 0 0 19
def ccTx (m : mMi) : Prop := ∃ e, e ≤ 240 ∧ m 2 7 0 1 = N e ∧ m 4 0 0 36 = N e ∧ ∀ k, k < e → m 2 7 1 k = m 4 0 15 k
def ccRow (m : mMi) (t : Nat) : Nat → Int32 := fun q => m 4 0 5 (918 * t + q)
def ccRing (m : mMi) (K : (Nat → Nat → Int32) → (Nat → Int32) → Prop) : Prop := ∃ k x, k ≤ 8 ∧ x < 8 ∧ m 2 5 0 1 = N k ∧ m 4 0 0 14 = N k ∧ m 2 5 0 2 = N x ∧ ∀ t, t < k → K (m 0 (3 + (x + 8 - k + t) % 8)) (ccRow m t)
def ccSav (m : mMi) (K : (Nat → Nat → Int32) → (Nat → Int32) → Prop) : Prop := ∀ e, e < 2 → (m 2 6 1 e = N 0 ∧ m 4 0 6 e = N 0) ∨ (m 2 6 1 e = N 1 ∧ m 4 0 6 e = N 1 ∧ K (m 0 (11 + e)) (ccRow m (8 + e)))
def ccUn (m : mMi) : Prop := m 2 0 0 10 = N 0 ∧ m 4 0 0 1 = N 0 ∧ ccRing m (fun _ _ => False) ∧ ccSav m (fun _ _ => False)
def ccKK (w l n lm : Nat) (β : Nat → Int32) (W : Nat → Nat) (B : Nat) : (Nat → Nat → Int32) → (Nat → Int32) → Prop := ccK w l n (N lm) β (fun k => N (W k)) W B
def ccLd (B : Nat) (m : mMi) (w l n bd lm dp cl : Nat) (β : Nat → Int32) (W : Nat → Nat) : Prop := m 2 0 0 10 = N 1 ∧ m 4 0 0 1 = N 1 ∧ ccPar m 0 w l n bd lm dp cl β W ∧ ccKK w l n lm β W B (m 0 0) (m 4 0 3) ∧ ccRing m (ccKK w l n lm β W B) ∧ ccSav m (ccKK w l n lm β W B)
def ccTop (B : Nat) (m : mMi) : Prop := ccIn m ∧ ccEr m ∧ ccTx m ∧ (ccUn m ∨ ∃ w l n bd lm dp cl β W, ccLd B m w l n bd lm dp cl β W)
/-- cells that nobody looks at between calls -/
def ccJk (f a j p : Nat) : Prop := (f = 2 ∧ a = 2) ∨ (f = 0 ∧ (a = 1 ∨ a = 2)) ∨ (f = 1 ∧ a = 1) ∨ (f = 2 ∧ a = 4) ∨ (f = 2 ∧ a = 3 ∧ j = 0 ∧ (p = 5 ∨ p = 6)) ∨ (f = 4 ∧ a = 0 ∧ (j = 4 ∨ (8 ≤ j ∧ j ≤ 14))) ∨ (f = 4 ∧ a = 0 ∧ j = 0 ∧ (p = 0 ∨ (20 ≤ p ∧ p ≤ 26) ∨ p = 34)) ∨ (f = 4 ∧ a = 0 ∧ j = 3 ∧ 918 ≤ p)
def ccEq (m₁ m₂ : mMi) : Prop := ∀ f a j p, ¬ ccJk f a j p → m₂ f a j p = m₁ f a j p
theorem ccEq_rfl {m₁ : mMi} : ccEq m₁ m₁ := fun _ _ _ _ _ => rfl
theorem ccEq_trans {m₁ m₂ m₃ : mMi} (h₁ : ccEq m₁ m₂) (h₂ : ccEq m₂ m₃) : ccEq m₁ m₃ := fun f a j p g₁ => Eq.trans (h₂ f a j p g₁) (h₁ f a j p g₁)
theorem ccEq_set {m₁ m₂ : mMi} {f a j p : Nat} {v : Int32} (h₁ : ccEq m₁ m₂) (h₂ : ccJk f a j p) : ccEq m₁ (mset m₂ f a j p v) := fun f₁ a₁ j₁ p₁ g₁ => by
  rw [ccRd, if_neg (fun q₁ => g₁ (by rw [q₁.1, q₁.2.1, q₁.2.2.1, q₁.2.2.2]; exact h₂))]
  exact h₁ f₁ a₁ j₁ p₁ g₁
theorem ccEq_fs {m₁ m₂ : mMi} (h₁ : ccFs m₁ m₂) : ccEq m₁ m₂ := fun f a j p g₁ => h₁ f a j p (fun g₂ => g₁ (Or.inl g₂))
theorem ccEq_ft {m₁ m₂ : mMi} (h₁ : ccFt m₁ m₂) : ccEq m₁ m₂ := fun f a j p g₁ => h₁ f a j p (fun g₂ => g₁ (by unfold ccJk; omega))
theorem ccEq_0 {m₁ m₂ : mMi} {a : Nat} (h₁ : ccEq m₁ m₂) (h₂ : a ≠ 1) (h₃ : a ≠ 2) : m₂ 0 a = m₁ 0 a := by
  funext j p
  exact h₁ 0 a j p (by unfold ccJk; omega)
theorem ccEq_3 {m₁ m₂ : mMi} (h₁ : ccEq m₁ m₂) : ccAr (m₁ 4 0 3) (m₂ 4 0 3) := fun p y₁ => h₁ 4 0 3 p (by unfold ccJk; omega)
theorem ccEq_row {m₁ m₂ : mMi} {t : Nat} (h₁ : ccEq m₁ m₂) : ccRow m₂ t = ccRow m₁ t := by
  funext q
  exact h₁ 4 0 5 _ (by unfold ccJk; omega)
theorem ccIn_eq {m₁ m₂ : mMi} (h₁ : ccEq m₁ m₂) (q₁ : ccIn m₁) : ccIn m₂ := by
  obtain ⟨e, e₁, e₂, e₃, e₄⟩ := q₁
  refine ⟨e, e₁, by rw [h₁ 2 1 0 1 (by unfold ccJk; omega)]; exact e₂, by rw [h₁ 4 0 0 17 (by unfold ccJk; omega)]; exact e₃, fun k g₁ => ?_⟩
  rw [h₁ 4 0 7 k (by unfold ccJk; omega), h₁ 2 1 1 k (by unfold ccJk; omega)]
  exact e₄ k g₁
theorem ccEr_eq {m₁ m₂ : mMi} (h₁ : ccEq m₁ m₂) (q₁ : ccEr m₁) : ccEr m₂ := by
  unfold ccEr at q₁ ⊢
  rw [h₁ 2 3 0 3 (by unfold ccJk; omega), h₁ 2 3 0 4 (by unfold ccJk; omega), h₁ 4 0 0 18 (by unfold ccJk; omega), h₁ 4 0 0 19 (by unfold ccJk; omega)]
  exact q₁
theorem ccTx_eq {m₁ m₂ : mMi} (h₁ : ccEq m₁ m₂) (q₁ : ccTx m₁) : ccTx m₂ := by
  obtain ⟨e, e₁, e₂, e₃, e₄⟩ := q₁
  refine ⟨e, e₁, by rw [h₁ 2 7 0 1 (by unfold ccJk; omega)]; exact e₂, by rw [h₁ 4 0 0 36 (by unfold ccJk; omega)]; exact e₃, fun k g₁ => ?_⟩
  rw [h₁ 4 0 15 k (by unfold ccJk; omega), h₁ 2 7 1 k (by unfold ccJk; omega)]
  exact e₄ k g₁
theorem ccRing_eq {m₁ m₂ : mMi} {K : (Nat → Nat → Int32) → (Nat → Int32) → Prop} (h₁ : ccEq m₁ m₂) (q₁ : ccRing m₁ K) : ccRing m₂ K := by
  obtain ⟨k, x, e₁, e₂, e₃, e₄, e₅, e₆⟩ := q₁
  refine ⟨k, x, e₁, e₂, by rw [h₁ 2 5 0 1 (by unfold ccJk; omega)]; exact e₃, by rw [h₁ 4 0 0 14 (by unfold ccJk; omega)]; exact e₄, by rw [h₁ 2 5 0 2 (by unfold ccJk; omega)]; exact e₅, fun t g₁ => ?_⟩
  rw [ccEq_0 h₁ (by omega) (by omega), ccEq_row h₁]
  exact e₆ t g₁
theorem ccSav_eq {m₁ m₂ : mMi} {K : (Nat → Nat → Int32) → (Nat → Int32) → Prop} (h₁ : ccEq m₁ m₂) (q₁ : ccSav m₁ K) : ccSav m₂ K := fun e g₁ => by
  rw [h₁ 2 6 1 e (by unfold ccJk; omega), h₁ 4 0 6 e (by unfold ccJk; omega), ccEq_0 h₁ (by omega) (by omega), ccEq_row h₁]
  exact q₁ e g₁
theorem ccPar_eq {m₁ m₂ : mMi} {w l n bd lm dp cl : Nat} {β : Nat → Int32} {W : Nat → Nat} (h₁ : ∀ f a j p, ((f = 1 ∧ a = 0) ∨ (f = 4 ∧ a = 0 ∧ j = 0 ∧ 2 ≤ p ∧ p ≤ 8) ∨ (f = 4 ∧ a = 0 ∧ (j = 1 ∨ j = 2))) → m₂ f a j p = m₁ f a j p) (q₁ : ccPar m₁ 0 w l n bd lm dp cl β W) : ccPar m₂ 0 w l n bd lm dp cl β W := by
  obtain ⟨⟨a₁, a₂, a₃, a₄⟩, ⟨c₁, c₂, c₃, c₄⟩, ⟨d₁, d₂, d₃⟩, ⟨d₄, d₅, d₆⟩, ⟨d₇, d₈, d₉⟩, ⟨f₁, f₂, f₃⟩, f₄, f₅, f₆, f₇, f₈⟩ := q₁
  have g₀ : ∀ j p, m₂ 1 0 j p = m₁ 1 0 j p := fun j p => h₁ 1 0 j p (Or.inl ⟨rfl, rfl⟩)
  have g₄ : ∀ p, 2 ≤ p → p ≤ 8 → m₂ 4 0 0 p = m₁ 4 0 0 p := fun p y₁ y₂ => h₁ 4 0 0 p (by omega)
  refine ⟨⟨by rw [g₀]; exact a₁, by rw [g₀]; exact a₂, by rw [g₀]; exact a₃, a₄⟩, ⟨by rw [g₄ 2 (by omega) (by omega)]; exact c₁, by rw [g₄ 3 (by omega) (by omega)]; exact c₂, by rw [g₄ 8 (by omega) (by omega)]; exact c₃, c₄⟩, ⟨by rw [g₀]; exact d₁, by rw [g₄ 7 (by omega) (by omega)]; exact d₂, d₃⟩, ⟨by rw [g₀]; exact d₄, by rw [g₄ 4 (by omega) (by omega)]; exact d₅, d₆⟩, ⟨by rw [g₀]; exact d₇, by rw [g₄ 5 (by omega) (by omega)]; exact d₈, d₉⟩, ⟨by rw [g₀]; exact f₁, by rw [g₄ 6 (by omega) (by omega)]; exact f₂, f₃⟩, fun k y₁ => by rw [g₀]; exact f₄ k y₁, fun k y₁ => by rw [h₁ 4 0 2 k (by omega)]; exact f₅ k y₁, f₆, fun k y₁ => by rw [g₀]; exact f₇ k y₁, fun k y₁ => ?_⟩
  obtain ⟨g, e, y₂, y₃, y₄, y₅, y₆⟩ := f₈ k y₁
  exact ⟨g, e, y₂, y₃, fun i y₇ => by rw [h₁ 4 0 1 _ (by omega)]; exact y₄ i y₇, fun i y₇ y₈ => by rw [h₁ 4 0 1 _ (by omega)]; exact y₅ i y₇ y₈, by rw [g₀]; exact y₆⟩
theorem ccUn_eq {m₁ m₂ : mMi} (h₁ : ccEq m₁ m₂) (q₁ : ccUn m₁) : ccUn m₂ := ⟨by rw [h₁ 2 0 0 10 (by unfold ccJk; omega)]; exact q₁.1, by rw [h₁ 4 0 0 1 (by unfold ccJk; omega)]; exact q₁.2.1, ccRing_eq h₁ q₁.2.2.1, ccSav_eq h₁ q₁.2.2.2⟩
theorem ccLd_eq {B : Nat} {m₁ m₂ : mMi} {w l n bd lm dp cl : Nat} {β : Nat → Int32} {W : Nat → Nat} (h₁ : ccEq m₁ m₂) (q₁ : ccLd B m₁ w l n bd lm dp cl β W) : ccLd B m₂ w l n bd lm dp cl β W := ⟨by rw [h₁ 2 0 0 10 (by unfold ccJk; omega)]; exact q₁.1, by rw [h₁ 4 0 0 1 (by unfold ccJk; omega)]; exact q₁.2.1, ccPar_eq (fun f a j p y₁ => h₁ f a j p (by unfold ccJk; omega)) q₁.2.2.1, by rw [ccEq_0 h₁ (by omega) (by omega)]; exact ccK_ag q₁.2.2.2.1 q₁.2.2.1.1.2.2.2.2.1 q₁.2.2.1.1.2.2.2.2.2.2.1 q₁.2.2.1.1.2.2.2.2.2.2.2 ccAg_rfl (ccEq_3 h₁), ccRing_eq h₁ q₁.2.2.2.2.1, ccSav_eq h₁ q₁.2.2.2.2.2⟩
theorem ccTop_eq {B : Nat} {m₁ m₂ : mMi} (h₁ : ccEq m₁ m₂) (q₁ : ccTop B m₁) : ccTop B m₂ := by
  obtain ⟨e₁, e₂, e₃, e₄⟩ := q₁
  refine ⟨ccIn_eq h₁ e₁, ccEr_eq h₁ e₂, ccTx_eq h₁ e₃, ?_⟩
  rcases e₄ with e₄ | ⟨w, l, n, bd, lm, dp, cl, β, W, e₄⟩
  · exact Or.inl (ccUn_eq h₁ e₄)
  · exact Or.inr ⟨w, l, n, bd, lm, dp, cl, β, W, ccLd_eq h₁ e₄⟩
theorem ccRing_mono {m : mMi} {K K₂ : (Nat → Nat → Int32) → (Nat → Int32) → Prop} (h₁ : ∀ C s, K C s → K₂ C s) (q₁ : ccRing m K) : ccRing m K₂ := by
  obtain ⟨k, x, e₁, e₂, e₃, e₄, e₅, e₆⟩ := q₁
  exact ⟨k, x, e₁, e₂, e₃, e₄, e₅, fun t g₁ => h₁ _ _ (e₆ t g₁)⟩
theorem ccSav_mono {m : mMi} {K K₂ : (Nat → Nat → Int32) → (Nat → Int32) → Prop} (h₁ : ∀ C s, K C s → K₂ C s) (q₁ : ccSav m K) : ccSav m K₂ := fun e g₁ => by
  rcases q₁ e g₁ with g₂ | ⟨g₂, g₃, g₄⟩
  · exact Or.inl g₂
  · exact Or.inr ⟨g₂, g₃, h₁ _ _ g₄⟩
theorem ccLd_B {A B : Nat} {m : mMi} {w l n bd lm dp cl : Nat} {β : Nat → Int32} {W : Nat → Nat} (h₁ : A ≤ B) (q₁ : ccLd A m w l n bd lm dp cl β W) : ccLd B m w l n bd lm dp cl β W := ⟨q₁.1, q₁.2.1, q₁.2.2.1, ccK_B q₁.2.2.2.1 h₁, ccRing_mono (fun _ _ y₁ => ccK_B y₁ h₁) q₁.2.2.2.2.1, ccSav_mono (fun _ _ y₁ => ccK_B y₁ h₁) q₁.2.2.2.2.2⟩
theorem ccTop_B {A B : Nat} {m : mMi} (h₁ : A ≤ B) (q₁ : ccTop A m) : ccTop B m := by
  obtain ⟨e₁, e₂, e₃, e₄⟩ := q₁
  refine ⟨e₁, e₂, e₃, ?_⟩
  rcases e₄ with e₄ | ⟨w, l, n, bd, lm, dp, cl, β, W, e₄⟩
  · exact Or.inl e₄
  · exact Or.inr ⟨w, l, n, bd, lm, dp, cl, β, W, ccLd_B h₁ e₄⟩
/-- class and reference answer alike, and all holds behind them -/
def ccOk (B : Nat) (Fc Fm : mMi → mRs → mRz) (ec : List (Nat × Nat)) (m : mMi) : Prop :=
  (∃ v m₁ m₂, (∀ rs, Fc m rs = rI v m₁ rs) ∧ (∀ rs, Fm m₁ rs = rI v m₂ rs) ∧ m₂ 4 0 0 0 = N 0 ∧ ccTop (B + 192) m₂ ∧ ∀ a j p, m₁ 3 a j p = m 3 a j p ∧ m₂ 3 a j p = m 3 a j p ∧ m₁ 4 a j p = m 4 a j p) ∨
  (∃ E c b m₁ m₂, (E, c) ∈ ec ∧ (∀ rs, Fc m rs = rX E m₁ (rsT rs)) ∧ (∀ rs, Fm m₁ rs = rI b m₂ rs) ∧ m₂ 4 0 0 0 = N c ∧ ccTop (B + 192) m₂ ∧ ∀ a j p, m₁ 3 a j p = m 3 a j p ∧ m₂ 3 a j p = m 3 a j p ∧ m₁ 4 a j p = m 4 a j p)
/-- calls that change nothing -/
theorem ccOk_q {B : Nat} {Fc Fm : mMi → mRs → mRz} {ec : List (Nat × Nat)} {m m₁ m₂ : mMi} {v : Int32} (h₁ : ccTop B m) (h₂ : ∀ rs, Fc m rs = rI v m₁ rs) (h₃ : ∀ rs, Fm m₁ rs = rI v m₂ rs) (h₄ : m₂ 4 0 0 0 = N 0) (h₅ : ccEq m m₁) (h₆ : ccEq m₁ m₂) (h₇ : ∀ a j p, m₁ 4 a j p = m 4 a j p) : ccOk B Fc Fm ec m := Or.inl ⟨v, m₁, m₂, h₂, h₃, h₄, ccTop_B (by omega) (ccTop_eq (ccEq_trans h₅ h₆) h₁), fun a j p => ⟨h₅ 3 a j p (by unfold ccJk; omega), ccEq_trans h₅ h₆ 3 a j p (by unfold ccJk; omega), h₇ a j p⟩⟩
theorem ccOk_x {B E c : Nat} {Fc Fm : mMi → mRs → mRz} {ec : List (Nat × Nat)} {m m₂ : mMi} {b : Int32} (h₁ : ccTop B m) (h₀ : (E, c) ∈ ec) (h₂ : ∀ rs, Fc m rs = rX E m (rsT rs)) (h₃ : ∀ rs, Fm m rs = rI b m₂ rs) (h₄ : m₂ 4 0 0 0 = N c) (h₆ : ccEq m m₂) : ccOk B Fc Fm ec m := Or.inr ⟨E, c, b, m, m₂, h₀, h₂, h₃, h₄, ccTop_B (by omega) (ccTop_eq h₆ h₁), fun a j p => ⟨rfl, h₆ 3 a j p (by unfold ccJk; omega), rfl⟩⟩
