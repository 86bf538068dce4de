/-! LOOKS: a second World is made, a copy of the first. -/
/-- what is made on the way, looked at from n₀ cells -/
def kwRu (n₀ k s : Nat) (r R : mRs) : Prop := R.1.1 = r.1.1 ∧ (∀ b, r.2.1.1 b = true → R.2.1.1 b = true) ∧ r.2.2.1 ≤ R.2.2.1 ∧ R.2.2.2.1 ≤ r.2.2.2.1 + k ∧ R.2.2.2.2 ≤ r.2.2.2.2 + s ∧ (∀ a, a < n₀ → R.2.1.2.1 a = r.2.1.2.1 a ∧ R.2.1.2.2 a = r.2.1.2.2 a)
theorem kwRu_rfl {n₀ : Nat} {r : mRs} : kwRu n₀ 0 0 r r := ⟨rfl, fun _ h => h, Nat.le_refl _, Nat.le_refl _, Nat.le_refl _, fun _ _ => ⟨rfl, rfl⟩⟩
theorem kwRu_trans {n₀ k s k₁ s₁ : Nat} {r r₁ r₂ : mRs} (h₁ : kwRu n₀ k s r r₁) (h₂ : kwRu n₀ k₁ s₁ r₁ r₂) : kwRu n₀ (k + k₁) (s + s₁) r r₂ := by
  obtain ⟨a₁, a₂, a₃, a₄, a₅, a₆⟩ := h₁
  obtain ⟨b₁, b₂, b₃, b₄, b₅, b₆⟩ := h₂
  exact ⟨Eq.trans b₁ a₁, fun b h => b₂ b (a₂ b h), by omega, by omega, by omega, fun a h => ⟨Eq.trans (b₆ a h).1 (a₆ a h).1, Eq.trans (b₆ a h).2 (a₆ a h).2⟩⟩
theorem kwRu_le {n₀ n₁ k s k₁ s₁ : Nat} {r r₁ : mRs} (h₁ : kwRu n₁ k s r r₁) (h₀ : n₀ ≤ n₁) (h₂ : k ≤ k₁) (h₃ : s ≤ s₁) : kwRu n₀ k₁ s₁ r r₁ := by
  obtain ⟨a₁, a₂, a₃, a₄, a₅, a₆⟩ := h₁
  exact ⟨a₁, a₂, a₃, by omega, by omega, fun a h => a₆ a (by omega)⟩
/-- what looks leave -/
def kwFk (n₀ : Nat) (m M : mMi) : Prop := ∀ f a j p, ¬ (f = 0 ∧ a = 1) → ¬ (f = 2 ∧ (a = 2 ∨ a = 7)) → a < n₀ → M f a j p = m f a j p
theorem kwFk_rfl {n₀ : Nat} {m : mMi} : kwFk n₀ m m := fun _ _ _ _ _ _ _ => rfl
theorem kwFk_trans {n₀ : Nat} {m m₁ m₂ : mMi} (h₁ : kwFk n₀ m m₁) (h₂ : kwFk n₀ m₁ m₂) : kwFk n₀ m m₂ := fun f a j p g₁ g₂ g₃ => Eq.trans (h₂ f a j p g₁ g₂ g₃) (h₁ f a j p g₁ g₂ g₃)
theorem kwFk_le {n₀ n₁ : Nat} {m m₁ : mMi} (h₁ : kwFk n₁ m m₁) (h₂ : n₀ ≤ n₁) : kwFk n₀ m m₁ := fun f a j p g₁ g₂ g₃ => h₁ f a j p g₁ g₂ (by omega)
theorem kwFk_v {n₀ : Nat} {m M : mMi} (h : kwFv m M) : kwFk n₀ m M := fun f a j p g₁ g₂ _ => h f a j p g₁ g₂
theorem kwFk_o {n₀ : Nat} {r R : mRs} {m M : mMi} (h : kwOp n₀ r m M R) : kwFk n₀ m M := fun f a j p _ _ g => h.1 f a j p (by omega)
theorem kwFk_9 {r : mRs} {m M : mMi} (h : kwF9 r m M) : kwFk r.2.2.1 m M := fun f a j p _ _ g => h f a j p (by omega)
theorem kwFk_0 {n₀ : Nat} {m M : mMi} (h : kwFk n₀ m M) (g : 0 < n₀) : M 0 0 = m 0 0 := by
  funext j p
  exact h 0 0 j p (by omega) (by omega) g
/-- a builder's step -/
theorem kwRu_o {n₀ k s : Nat} {r R : mRs} {m M : mMi} (h : kwOp n₀ r m M R) (h₁ : kwRs k s r R) (h₂ : n₀ ≤ r.2.2.1) : kwRu n₀ k s r R := by
  obtain ⟨a₁, a₂, a₃, a₄, a₅, a₆⟩ := h₁
  exact ⟨by rw [a₁], fun b y => by rw [a₂]; exact y, a₃, a₄, a₅, fun a y => ⟨a₆ a (by omega), h.2 a y⟩⟩
/-- the room of looks -/
def kwRo (B : Nat) (r : mRs) : Prop := r.1.1 + 219 ≤ r.2.2.1 ∧ B < r.2.2.1 ∧ 10 ≤ r.2.2.1
theorem kwRo_u {B n₀ k s : Nat} {r R : mRs} (h : kwRo B r) (h₁ : kwRu n₀ k s r R) : kwRo B R := by
  obtain ⟨a₁, a₂, a₃⟩ := h
  obtain ⟨b₁, b₂, b₃, _⟩ := h₁
  exact ⟨by omega, by omega, by omega⟩
theorem kwI_k {m m₁ : mMi} {r R : mRs} {B n₀ w l n lm dp cl bd T Z D k s : Nat} {β : Nat → Int32} {W : Nat → Nat} (q : kwI m r B w l n lm dp cl bd β W T Z D) (h : kwFk n₀ m m₁) (h₁ : kwRu n₀ k s r R) (nx : kwNx R) (g : B < n₀ ∧ 10 ≤ n₀) : kwI m₁ R B w l n lm dp cl bd β W T Z D := by
  obtain ⟨q₁, q₂, ⟨i, q₃, q₆⟩, q₄, q₅⟩ := q
  exact ⟨kwT_cg q₁ (kwFk_0 h (by omega)) (fun j p => h 1 0 j p (by omega) (by omega) (by omega)) (h 2 0 0 10 (by omega) (by omega) (by omega)) (fun p => h 2 5 0 p (by omega) (by omega) (by omega)) (fun f j p y => h f B j p (by omega) (by omega) g.1), kwZ_cg (h 0 0 0 5 (by omega) (by omega) (by omega)) q₂, ⟨i, by rw [h 7 0 0 1 (by omega) (by omega) (by omega)]; exact q₃, q₆⟩, nx, h₁.2.1 B q₅⟩
/-- a builder stays as it is while others work above it -/
theorem kwB_k {n₀ n₁ k s a cap : Nat} {r R : mRs} {m M : mMi} {t : List Nat} (h : kwB n₀ m r a cap t) (h₁ : kwFk n₁ m M) (h₂ : kwRu n₁ k s r R) (h₃ : r.2.2.1 ≤ n₁) : kwB n₀ M R a cap t := by
  obtain ⟨v, ⟨a₁, a₂, a₃, a₄, a₅⟩, k₁, k₂, k₃, c₁, c₂, l₁, l₂, y₁, y₂⟩ := h
  have g := h₂.2.2.1
  exact ⟨v, ⟨a₁, by omega, a₃, by omega, a₅⟩, by rw [(h₂.2.2.2.2.2 a (by omega)).1]; exact k₁, by rw [(h₂.2.2.2.2.2 a (by omega)).2]; exact k₂, by rw [(h₂.2.2.2.2.2 v (by omega)).1]; exact k₃, by rw [h₁ 9 a 0 1 (by omega) (by omega) (by omega)]; exact c₁, by rw [h₁ 9 a 0 3 (by omega) (by omega) (by omega)]; exact c₂, l₁, l₂, fun i y => by rw [h₁ 9 v 0 i (by omega) (by omega) (by omega)]; exact y₁ i y, fun i y => by rw [h₁ 9 v 0 i (by omega) (by omega) (by omega)]; exact y₂ i y⟩
theorem kwNm1 {A C k : Nat} (h : k = 1 ∨ k = 2) : mNam (A, C) (C + k) = (9, C + k, 0) := by
  have e₁ : Nat.beq (C + k) 0 = false := Bool.eq_false_iff.mpr (fun y => absurd (Nat.eq_of_beq_eq_true y) (by omega))
  have e₂ : Nat.ble C (C + k) = true := Nat.ble_eq_true_of_le (by omega)
  have e₃ : Nat.blt (C + k) (C + 99) = true := Nat.ble_eq_true_of_le (by omega)
  have e₄ : C + k - C = k := by omega
  unfold mNam
  rw [e₁]
  dsimp only
  rw [e₂, e₃, e₄]
  rcases h with rfl | rfl <;> rfl
theorem kwNm2 {A C x : Nat} (h₁ : A + 219 ≤ x) (h₂ : C + 99 ≤ x) : mNam (A, C) x = (9, x, 0) := by
  have e₁ : Nat.beq x 0 = false := Bool.eq_false_iff.mpr (fun y => absurd (Nat.eq_of_beq_eq_true y) (by omega))
  have e₂ : (Nat.ble C x && Nat.blt x (C + 99)) = false := by
    rw [Bool.eq_false_iff]
    intro y
    rw [Bool.and_eq_true] at y
    have z : x < C + 99 := Nat.le_of_ble_eq_true y.2
    omega
  have e₃ : (Nat.ble A x && Nat.blt x (A + mAlN)) = false := by
    rw [Bool.eq_false_iff]
    intro y
    rw [Bool.and_eq_true] at y
    have z : x < A + 219 := Nat.le_of_ble_eq_true y.2
    omega
  unfold mNam
  rw [e₁]
  dsimp only
  rw [e₂]
  dsimp only
  rw [e₃, Bool.and_false]
theorem kwPool12 : kwPool 12 [116, 97, 98, 108, 101, 32] := by
  refine ⟨rfl, rfl, by decide, by decide⟩
/-- the text's beginning -/
theorem kwE200 {m : mMi} {r : mRs} {C : Nat} (h₁ : r.1.2 = C) (h₂ : r.2.2.1 = C + 1) : ∃ M, H200 (C + 1) 12 (mfill m 9 (C + 1) 0 4 0) (rsO r 14 4) = rV M (rsV (rsA (rsO r 14 4) 22 22 22) (C + 1) (C + 2)) ∧ kwB (C + 1) M (rsV (rsA (rsO r 14 4) 22 22 22) (C + 1) (C + 2)) (C + 1) 22 [116, 97, 98, 108, 101, 32] ∧ ∀ f i j p, ¬ (f = 9 ∧ C + 1 ≤ i) → M f i j p = m f i j p := by
  obtain ⟨r₁, hr₁⟩ : ∃ r₁, r₁ = rsO r 14 4 := ⟨_, rfl⟩
  have n₁ : r₁.2.2.1 = C + 2 := by rw [hr₁]; show r.2.2.1 + 1 = C + 2; omega
  have p₁ : r₁.1 = (r.1.1, C) := by rw [hr₁, ← h₁]; rfl
  have ok₁ : nOk r₁ = true := by
    unfold nOk
    rw [p₁, n₁]
    exact decide_eq_true (kwNm1 (Or.inr rfl))
  have ks : r₁.2.1.2.1 (C + 1) = some (14, 0) := by rw [hr₁, ← h₂]; exact kwO_kd
  have kb : (rsA r₁ 22 22 22).2.1.2.1 (C + 1) = some (14, 0) := by rw [kwA_lt (by omega)]; exact ks
  have kn : (rsA r₁ 22 22 22).2.1.2.1 (C + 2) = some (22, 22) := by rw [← n₁]; exact kwA_kd
  obtain ⟨m₂, hm₂⟩ : ∃ M, M = mfill (mset (mfill m 9 (C + 1) 0 4 0) 9 (C + 1) 0 1 (N 0)) 9 (C + 2) 0 22 0 := ⟨_, rfl⟩
  have f₂ : ∀ f i j p, ¬ (f = 9 ∧ C + 1 ≤ i) → m₂ f i j p = m f i j p := fun f i j p y => by
    rw [hm₂, kwFlR, if_neg (by omega), ccRd, if_neg (by omega), kwFlR, if_neg (by omega)]
  have b₂ : kwB (C + 1) m₂ (rsV (rsA r₁ 22 22 22) (C + 1) (C + 2)) (C + 1) 22 [] := by
    refine ⟨C + 2, ⟨Nat.le_refl _, by show C + 1 < r₁.2.2.1 + 1; omega, by omega, by show C + 2 < r₁.2.2.1 + 1; omega, by omega⟩, kb, kwV_v, kn, ?_, ?_, by decide, by decide, fun k y => ?_, fun k y => absurd y (Nat.not_lt_zero k)⟩
    · rw [hm₂, kwFlR, if_neg (by omega), ccRd, if_pos ⟨rfl, rfl, rfl, rfl⟩]
    · rw [hm₂, kwFlR, if_neg (by omega), ccRd, if_neg (by omega), kwFlR, if_pos ⟨rfl, rfl, rfl, by omega⟩]
      rfl
    · rw [hm₂, kwFlR, if_pos ⟨rfl, rfl, rfl, y⟩]
      exact ⟨0, by omega, rfl⟩
  obtain ⟨M, z₁, z₂, z₃⟩ := kwE201c b₂ (kwE212s b₂ (by decide)) b₂ (by decide) kwOp_rfl kwPool12
  rw [← hr₁]
  refine ⟨M, ?_, z₂, fun f i j p y => Eq.trans (z₃.1 f i j p y) (f₂ f i j p y)⟩
  have t₁ : mTxO 12 = true := rfl
  have t₂ : (mTxt 12).length = 6 := rfl
  have t₃ : ¬ N 2147483631 ≤ N 6 := by rw [N_le (by omega) (by omega)]; omega
  unfold H200 H208 H205
  rw [t₁, ccMckT, t₂, kwOf, ccIte, if_neg t₃, ccMckT, kwObj ks, N_add, kwBk' ok₁ (by omega), n₁, ← hm₂, kwBp kb]
  show bV (mckO (mIsObj ((rsV (rsA r₁ 22 22 22) (C + 1) (C + 2)).2.1.2.1 (C + 1)) 14) _) _ = _
  rw [kwObj (show (rsV (rsA r₁ 22 22 22) (C + 1) (C + 2)).2.1.2.1 (C + 1) = some (14, 0) from kb), kwObj (show (rsV (rsA r₁ 22 22 22) (C + 1) (C + 2)).2.1.2.1 (C + 1) = some (14, 0) from kb), z₁, kwBr, kwBr]
  rfl
