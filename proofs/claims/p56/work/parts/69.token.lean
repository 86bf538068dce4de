/-! LOAD: tokens, of both sides. -/
def ccTok (b : Nat → Nat) (L p s r kd : Nat) : Prop := p ≤ s ∧ s ≤ L ∧ (∀ i, p ≤ i → i < s → b i = 32) ∧
  ((s = L ∧ r = L ∧ kd = 0) ∨ (s < L ∧ b s ≠ 32 ∧ s < r ∧ r ≤ L ∧
    (((∀ i, s ≤ i → i < r → 97 ≤ b i ∧ b i ≤ 122) ∧ (r < L → ¬ (97 ≤ b r ∧ b r ≤ 122)) ∧ kd = if r - s ≤ 6 then 1 else 4) ∨
     ((∀ i, s ≤ i → i < r → 48 ≤ b i ∧ b i ≤ 57) ∧ (r < L → ¬ (48 ≤ b r ∧ b r ≤ 57)) ∧ kd = if r - s ≤ 3 then 2 else 4) ∨
     (¬ (97 ≤ b s ∧ b s ≤ 122) ∧ ¬ (48 ≤ b s ∧ b s ≤ 57) ∧ r = s + 1 ∧ kd = if b s = 59 then 3 else 4))))
theorem ccRun {P : Nat → Prop} : ∀ d p, ∃ s, p ≤ s ∧ s ≤ p + d ∧ (∀ i, p ≤ i → i < s → P i) ∧ (s < p + d → ¬ P s) := by
  intro d
  induction d with
  | zero => intro p; exact ⟨p, by omega, by omega, fun i g₁ g₂ => by omega, fun g₁ => by omega⟩
  | succ d i₁ =>
    intro p
    rcases Classical.em (P p) with g | g
    · obtain ⟨s, y₁, y₂, y₃, y₄⟩ := i₁ (p + 1)
      refine ⟨s, by omega, by omega, fun i g₁ g₂ => ?_, fun g₁ => y₄ (by omega)⟩
      by_cases g₃ : i = p
      · rw [g₃]
        exact g
      · exact y₃ i (by omega) g₂
    · exact ⟨p, by omega, by omega, fun i g₁ g₂ => by omega, fun _ => g⟩
theorem ccTok_ex {b : Nat → Nat} {L p : Nat} (h₁ : p ≤ L) : ∃ s r kd, ccTok b L p s r kd := by
  obtain ⟨s, y₁, y₂, y₃, y₄⟩ := ccRun (P := fun i => b i = 32) (L - p) p
  by_cases g₁ : s = L
  · exact ⟨s, L, 0, y₁, by omega, y₃, Or.inl ⟨g₁, rfl, rfl⟩⟩
  have y₅ : b s ≠ 32 := y₄ (by omega)
  by_cases g₂ : 97 ≤ b s ∧ b s ≤ 122
  · obtain ⟨r, z₁, z₂, z₃, z₄⟩ := ccRun (P := fun i => 97 ≤ b i ∧ b i ≤ 122) (L - (s + 1)) (s + 1)
    refine ⟨s, r, _, y₁, by omega, y₃, Or.inr ⟨by omega, y₅, by omega, by omega, Or.inl ⟨fun i g₃ g₄ => ?_, fun g₃ => z₄ (by omega), rfl⟩⟩⟩
    by_cases g₅ : i = s
    · rw [g₅]
      exact g₂
    · exact z₃ i (by omega) g₄
  · by_cases g₃ : 48 ≤ b s ∧ b s ≤ 57
    · obtain ⟨r, z₁, z₂, z₃, z₄⟩ := ccRun (P := fun i => 48 ≤ b i ∧ b i ≤ 57) (L - (s + 1)) (s + 1)
      refine ⟨s, r, _, y₁, by omega, y₃, Or.inr ⟨by omega, y₅, by omega, by omega, Or.inr (Or.inl ⟨fun i g₄ g₅ => ?_, fun g₄ => z₄ (by omega), rfl⟩)⟩⟩
      by_cases g₆ : i = s
      · rw [g₆]
        exact g₃
      · exact z₃ i (by omega) g₅
    · exact ⟨s, s + 1, _, y₁, by omega, y₃, Or.inr ⟨by omega, y₅, by omega, by omega, Or.inr (Or.inr ⟨g₂, g₃, rfl, rfl⟩)⟩⟩
/-- a number of three digits -/
def ccDcm (g : Nat → Nat) : Nat → Nat
  | 0 => 0
  | k + 1 => 10 * ccDcm g k + (g k - 48)
theorem ccDcm_s {g : Nat → Nat} {k : Nat} : ccDcm g (k + 1) = 10 * ccDcm g k + (g k - 48) := rfl
theorem ccDcm_lt {g : Nat → Nat} {k : Nat} (h₁ : ∀ i, i < k → 48 ≤ g i ∧ g i ≤ 57) (h₂ : k ≤ 3) : ccDcm g k < 1000 := by
  have y₀ : ccDcm g 0 = 0 := rfl
  have y₁ : 1 ≤ k → ccDcm g 1 ≤ 9 := fun z₁ => by
    have z₂ := h₁ 0 (by omega)
    rw [ccDcm_s, y₀]
    omega
  have y₂ : 2 ≤ k → ccDcm g 2 ≤ 99 := fun z₁ => by
    have z₂ := h₁ 1 (by omega)
    have z₃ := y₁ (by omega)
    rw [ccDcm_s]
    omega
  have y₃ : 3 ≤ k → ccDcm g 3 ≤ 999 := fun z₁ => by
    have z₂ := h₁ 2 (by omega)
    have z₃ := y₂ (by omega)
    rw [ccDcm_s]
    omega
  have y₄ : k = 0 ∨ k = 1 ∨ k = 2 ∨ k = 3 := by omega
  rcases y₄ with z | z | z | z
  · rw [z, y₀]
    omega
  · rw [z]
    have := y₁ (by omega)
    omega
  · rw [z]
    have := y₂ (by omega)
    omega
  · rw [z]
    have := y₃ (by omega)
    omega
/-! the class -/
def ccTko (v : Int32) (m : mMi) (r : mRs) : mRz := mifO (decide (v ≠ (N 59))) (some (.inl none, (mset (mset m 2 4 0 2 ((m 2 4 0 3) + (N 1))) 2 4 0 4 (N 4)), r)) (some (.inl none, (mset (mset m 2 4 0 2 ((m 2 4 0 3) + (N 1))) 2 4 0 4 (N 3)), r))
def ccTkn (m : mMi) (r : mRs) : mRz := bI (F95 (N 48) (N 57) m r) (fun v2 m2 r2 => mifO (decide ((v2 - (m2 2 4 0 3)) ≤ (N 3))) (bI (F96 (if (((mset m2 2 4 0 2 v2) 2 4 0 3) + (N 3)) < ((mset m2 2 4 0 2 v2) 2 4 0 2) then (((mset m2 2 4 0 2 v2) 2 4 0 3) + (N 3)) else ((mset m2 2 4 0 2 v2) 2 4 0 2)) (mset (mset m2 2 4 0 2 v2) 2 4 0 4 (N 2)) r2) (fun v3 m3 r3 => some (.inl none, (mset m3 2 4 0 5 v3), r3))) (bI (F96 (if (((mset m2 2 4 0 2 v2) 2 4 0 3) + (N 3)) < ((mset m2 2 4 0 2 v2) 2 4 0 2) then (((mset m2 2 4 0 2 v2) 2 4 0 3) + (N 3)) else ((mset m2 2 4 0 2 v2) 2 4 0 2)) (mset (mset m2 2 4 0 2 v2) 2 4 0 4 (N 4)) r2) (fun v4 m4 r4 => some (.inl none, (mset m4 2 4 0 5 v4), r4))))
def ccTkl (m : mMi) (r : mRs) : mRz := bI (F95 (N 97) (N 122) m r) (fun v8 m8 r8 => mifO (decide ((v8 - (m8 2 4 0 3)) ≤ (N 6))) (bI (F65 ((mset m8 2 4 0 2 v8) 2 4 0 3) (((mset m8 2 4 0 2 v8) 2 4 0 2) - ((mset m8 2 4 0 2 v8) 2 4 0 3)) (mset (mset m8 2 4 0 2 v8) 2 4 0 4 (N 1)) r8) (fun v9 m9 r9 => some (.inl none, (mset m9 2 4 0 5 v9), r9))) (bI (F65 ((mset m8 2 4 0 2 v8) 2 4 0 3) (((mset m8 2 4 0 2 v8) 2 4 0 2) - ((mset m8 2 4 0 2 v8) 2 4 0 3)) (mset (mset m8 2 4 0 2 v8) 2 4 0 4 (N 4)) r8) (fun v10 m10 r10 => some (.inl none, (mset m10 2 4 0 5 v10), r10))))
def ccTkd (v : Int32) (m : mMi) (r : mRs) : mRz := mifO (decide (v < (N 48))) (ccTko v m r) (mifO (decide ((N 57) < v)) (ccTko v m r) (ccTkn m r))
def ccTkb (v : Int32) (m : mMi) (r : mRs) : mRz := mifO (decide (v < (N 97))) (ccTkd v m r) (mifO (decide ((N 122) < v)) (ccTkd v m r) (ccTkl m r))
def ccTk (m : mMi) (r : mRs) : mRz := mifO (decide ((m 2 4 0 2) < (m 2 4 0 1))) (bI (F64 ((mset m 2 4 0 3 (m 2 4 0 2)) 2 4 0 3) (mset m 2 4 0 3 (m 2 4 0 2)) r) ccTkb) (some (.inl none, (mset (mset m 2 4 0 3 (m 2 4 0 2)) 2 4 0 4 (N 0)), r))
theorem ccL94w {f : Nat} {m : mMi} {rs : mRs} : F94_0 (f + 1) m rs = mifO (decide ((m 2 4 0 1) ≤ (m 2 4 0 2))) (ccTk m rs) (bI (F64 (m 2 4 0 2) m rs) (fun v m r => mifO (decide (v ≠ (N 32))) (ccTk m r) (F94_0 f (mset m 2 4 0 2 ((m 2 4 0 2) + (N 1))) r))) := rfl
theorem ccBt_fr {m m₁ : mMi} {e : Nat} {b : Nat → Nat} (q : ccBt m e b) (h : ∀ j p, m₁ 2 1 j p = m 2 1 j p) : ccBt m₁ e b := ⟨q.1, by rw [h]; exact q.2.1, fun k y₁ => ⟨(q.2.2 k y₁).1, by rw [h]; exact (q.2.2 k y₁).2⟩⟩
theorem ccL95 {m : mMi} {e L r lo hi : Nat} {b : Nat → Nat} {rs : mRs} (q : ccBt m e b) (hL : L ≤ e) (h₀ : m 2 4 0 1 = N L) (b₁ : lo < 128) (b₂ : hi < 128) (h₁ : r ≤ L) (h₂ : r < L → ¬ (lo ≤ b r ∧ b r ≤ hi)) : ∀ d p f, p + d = r → (∀ i, p ≤ i → i < r → lo ≤ b i ∧ b i ≤ hi) → F95_5 (f + d + 1) (N lo) (N hi) (N p) m rs = rI (N r) m rs := by
  have q₀ := q.1
  intro d
  induction d with
  | zero =>
    intro p f g₁ _
    have e₁ : p = r := by omega
    subst e₁
    rw [ccL95_5, h₀, ccIte]
    by_cases g₂ : p < L
    · have e₂ : ¬ N L ≤ N p := by rw [N_le (by omega) (by omega)]; omega
      rw [if_neg e₂, ccMckIn (by omega) (by omega), mix_N (by omega), (q.2.2 p (by omega)).2, ccIte]
      by_cases g₃ : ccSg (b p) < N lo
      · rw [if_pos g₃]
      · have e₃ := (q.2.2 p (by omega)).1
        have e₄ : b p < 128 := by
          by_cases z₁ : b p < 128
          · exact z₁
          · exact absurd (ccNeg_lt (k := lo) (ccSg_hi (by omega) e₃) (by omega)) g₃
        rw [if_neg g₃, ccMckIn (by omega) (by omega), ccIte]
        rw [ccSg_lo e₄] at g₃ ⊢
        rw [N_lt (by omega) (by omega)] at g₃
        have e₅ := h₂ g₂
        have e₆ : N hi < N (b p) := by rw [N_lt (by omega) (by omega)]; omega
        rw [if_pos e₆]
    · have e₂ : N L ≤ N p := by rw [N_le (by omega) (by omega)]; omega
      rw [if_pos e₂]
  | succ d i₁ =>
    intro p f g₁ g₂
    have e₁ : f + (d + 1) + 1 = f + d + 1 + 1 := by omega
    have e₂ : ¬ N L ≤ N p := by rw [N_le (by omega) (by omega)]; omega
    have e₃ := g₂ p (by omega) (by omega)
    have e₄ : ¬ N (b p) < N lo := by rw [N_lt (by omega) (by omega)]; omega
    have e₅ : ¬ N hi < N (b p) := by rw [N_lt (by omega) (by omega)]; omega
    rw [e₁, ccL95_5, h₀, ccIte, if_neg e₂, ccMckIn (by omega) (by omega), mix_N (by omega), (q.2.2 p (by omega)).2, ccSg_lo (by omega), ccIte, if_neg e₄, ccMckIn (by omega) (by omega), ccIte, if_neg e₅, N_add]
    exact i₁ (p + 1) f (by omega) (fun i y₁ y₂ => g₂ i (by omega) y₂)
theorem ccL96 {m : mMi} {e s t : Nat} {b : Nat → Nat} {rs : mRs} (q : ccBt m e b) (h₁ : t ≤ e) (h₂ : ∀ i, s ≤ i → i < t → 48 ≤ b i ∧ b i ≤ 57) : ∀ d j f, s + j + d = t → F96_7 (f + d + 1) (N t) (N (ccDcm (fun i => b (s + i)) j)) (N (s + j)) m rs = rI (N (ccDcm (fun i => b (s + i)) (j + d))) m rs := by
  have q₀ := q.1
  intro d
  induction d with
  | zero =>
    intro j f g₁
    have e₂ : N t ≤ N (s + j) := by rw [N_le (by omega) (by omega)]; omega
    rw [ccL96_7, ccIte, if_pos e₂]
    rfl
  | succ d i₁ =>
    intro j f g₁
    have e₁ : f + (d + 1) + 1 = f + d + 1 + 1 := by omega
    have e₂ : ¬ N t ≤ N (s + j) := by rw [N_le (by omega) (by omega)]; omega
    have e₃ := h₂ (s + j) (by omega) (by omega)
    have e₄ : N (ccDcm (fun i => b (s + i)) j) * N 10 + N (b (s + j)) - N 48 = N (ccDcm (fun i => b (s + i)) (j + 1)) := by
      have y₄ : ccDcm (fun i => b (s + i)) (j + 1) = ccDcm (fun i => b (s + i)) j * 10 + b (s + j) - 48 := by
        rw [ccDcm_s]
        omega
      rw [y₄, N_mul, N_add, N_sub (by omega)]
    have e₅ : N (s + j) + N 1 = N (s + (j + 1)) := by rw [N_add]; rfl
    have e₆ : j + (d + 1) = j + 1 + d := by omega
    rw [e₁, ccL96_7, ccIte, if_neg e₂, ccMckIn (by omega) (by omega), mix_N (by omega), (q.2.2 (s + j) (by omega)).2, ccSg_lo (by omega), e₄, e₅, e₆]
    exact i₁ (j + 1) f (by omega)
theorem ccE96 {m : mMi} {e s t : Nat} {b : Nat → Nat} {rs : mRs} (q : ccBt m e b) (h₀ : s ≤ t) (h₁ : t ≤ e) (h₂ : ∀ i, s ≤ i → i < t → 48 ≤ b i ∧ b i ≤ 57) (h₃ : m 2 4 0 3 = N s) : F96 (N t) m rs = rI (N (ccDcm (fun i => b (s + i)) (t - s))) m rs := by
  have q₀ := q.1
  obtain ⟨f, hf⟩ := ccFU (k := t - s) (by omega)
  have e₁ := ccL96 (rs := rs) q h₁ h₂ (t - s) 0 f (by omega)
  have e₂ : 0 + (t - s) = t - s := by omega
  rw [e₂] at e₁
  unfold F96
  rw [hf, h₃]
  exact e₁
/-- what a token leaves behind, of the class -/
def ccTc (m : mMi) (b : Nat → Nat) (s r kd : Nat) (m₁ : mMi) : Prop := m₁ 2 4 0 2 = N r ∧ m₁ 2 4 0 3 = N s ∧ m₁ 2 4 0 4 = N kd ∧ (kd = 1 → m₁ 2 4 0 5 = N (ccNum (fun i => b (s + i)) (r - s))) ∧ (kd = 2 → m₁ 2 4 0 5 = N (ccDcm (fun i => b (s + i)) (r - s))) ∧ ∀ f a j q, ¬ (f = 2 ∧ a = 4 ∧ j = 0 ∧ 2 ≤ q ∧ q ≤ 5) → m₁ f a j q = m f a j q
theorem ccTkl_is {m : mMi} {e L s r : Nat} {b : Nat → Nat} (q : ccBt m e b) (hL : L ≤ e) (h₁ : m 2 4 0 1 = N L) (h₂ : m 2 4 0 3 = N s) (h₃ : s < r) (h₄ : r ≤ L) (h₅ : ∀ i, s ≤ i → i < r → 97 ≤ b i ∧ b i ≤ 122) (h₆ : r < L → ¬ (97 ≤ b r ∧ b r ≤ 122)) : ∃ m₁, (∀ rs, ccTkl m rs = rV m₁ rs) ∧ ccTc m b s r (if r - s ≤ 6 then 1 else 4) m₁ := by
  have q₀ := q.1
  obtain ⟨f, hf⟩ := ccFU (k := r - s) (by omega)
  have y₁ : ∀ rs, F95 (N 97) (N 122) m rs = rI (N r) m rs := fun rs => by
    unfold F95
    rw [h₂, hf]
    exact ccL95 q hL h₁ (by omega) (by omega) h₄ h₆ (r - s) s f (by omega) h₅
  have y₂ : N r - N s = N (r - s) := N_sub (by omega)
  have y₃ : ∀ k, mset (mset m 2 4 0 2 (N r)) 2 4 0 4 (N k) 2 4 0 3 = N s := fun k => by rw [ccRd, if_neg (by omega), ccRd, if_neg (by omega)]; exact h₂
  have y₄ : mset m 2 4 0 2 (N r) 2 4 0 3 = N s := by rw [ccRd, if_neg (by omega)]; exact h₂
  have y₅ : mset m 2 4 0 2 (N r) 2 4 0 2 = N r := by rw [ccRd, if_pos ⟨rfl, rfl, rfl, rfl⟩]
  have qk : ∀ k, ccBt (mset (mset m 2 4 0 2 (N r)) 2 4 0 4 (N k)) e b := fun k => ccBt_fr q (fun j p => by rw [ccRd, if_neg (by omega), ccRd, if_neg (by omega)])
  by_cases g : r - s ≤ 6
  · have z₁ : N (r - s) ≤ N 6 := by rw [N_le (by omega) (by omega)]; exact g
    have z₂ : ccNmv (fun i => b (s + i)) (r - s) 0 = N (ccNum (fun i => b (s + i)) (r - s)) := by
      rcases ccNmv_is (g := fun i => b (s + i)) (r - s) 0 with ⟨_, z₃⟩ | ⟨⟨i, z₃, z₄, z₅⟩, _⟩
      · rw [z₃, Nat.zero_add]
      · exact absurd (h₅ (s + i) (by omega) (by omega)) z₅
    refine ⟨mset (mset (mset m 2 4 0 2 (N r)) 2 4 0 4 (N 1)) 2 4 0 5 (N (ccNum (fun i => b (s + i)) (r - s))), fun rs => ?_, ?_⟩
    · unfold ccTkl
      rw [y₁, ccBi, h₂, y₂, ccIte, if_pos z₁, y₄, y₅, y₂, ccE65 (qk 1) (by omega) (by omega) g, z₂, ccBi]
    · rw [if_pos g]
      refine ⟨?_, ?_, ?_, fun _ => ?_, fun z₃ => by omega, fun f a j q z₃ => ?_⟩
      · rw [ccRd, if_neg (by omega), ccRd, if_neg (by omega), y₅]
      · rw [ccRd, if_neg (by omega), y₃]
      · rw [ccRd, if_neg (by omega), ccRd, if_pos ⟨rfl, rfl, rfl, rfl⟩]
      · rw [ccRd, if_pos ⟨rfl, rfl, rfl, rfl⟩]
      · rw [ccRd, if_neg (by omega), ccRd, if_neg (by omega), ccRd, if_neg (by omega)]
  · have z₁ : ¬ N (r - s) ≤ N 6 := by rw [N_le (by omega) (by omega)]; exact g
    refine ⟨mset (mset (mset m 2 4 0 2 (N r)) 2 4 0 4 (N 4)) 2 4 0 5 (I (-1)), fun rs => ?_, ?_⟩
    · unfold ccTkl
      rw [y₁, ccBi, h₂, y₂, ccIte, if_neg z₁, y₄, y₅, y₂, ccE65z (by omega) (by omega), ccBi]
    · rw [if_neg g]
      refine ⟨?_, ?_, ?_, fun z₃ => by omega, fun z₃ => by omega, fun f a j q z₃ => ?_⟩
      · rw [ccRd, if_neg (by omega), ccRd, if_neg (by omega), y₅]
      · rw [ccRd, if_neg (by omega), y₃]
      · rw [ccRd, if_neg (by omega), ccRd, if_pos ⟨rfl, rfl, rfl, rfl⟩]
      · rw [ccRd, if_neg (by omega), ccRd, if_neg (by omega), ccRd, if_neg (by omega)]
theorem ccTkn_is {m : mMi} {e L s r : Nat} {b : Nat → Nat} (q : ccBt m e b) (hL : L ≤ e) (h₁ : m 2 4 0 1 = N L) (h₂ : m 2 4 0 3 = N s) (h₃ : s < r) (h₄ : r ≤ L) (h₅ : ∀ i, s ≤ i → i < r → 48 ≤ b i ∧ b i ≤ 57) (h₆ : r < L → ¬ (48 ≤ b r ∧ b r ≤ 57)) : ∃ m₁, (∀ rs, ccTkn m rs = rV m₁ rs) ∧ ccTc m b s r (if r - s ≤ 3 then 2 else 4) m₁ := by
  have q₀ := q.1
  obtain ⟨f, hf⟩ := ccFU (k := r - s) (by omega)
  have y₁ : ∀ rs, F95 (N 48) (N 57) m rs = rI (N r) m rs := fun rs => by
    unfold F95
    rw [h₂, hf]
    exact ccL95 q hL h₁ (by omega) (by omega) h₄ h₆ (r - s) s f (by omega) h₅
  have y₂ : N r - N s = N (r - s) := N_sub (by omega)
  have y₃ : ∀ k, mset (mset m 2 4 0 2 (N r)) 2 4 0 4 (N k) 2 4 0 3 = N s := fun k => by rw [ccRd, if_neg (by omega), ccRd, if_neg (by omega)]; exact h₂
  have y₄ : mset m 2 4 0 2 (N r) 2 4 0 3 = N s := by rw [ccRd, if_neg (by omega)]; exact h₂
  have y₅ : mset m 2 4 0 2 (N r) 2 4 0 2 = N r := by rw [ccRd, if_pos ⟨rfl, rfl, rfl, rfl⟩]
  have y₆ : N s + N 3 = N (s + 3) := by rw [N_add]
  have qk : ∀ k, ccBt (mset (mset m 2 4 0 2 (N r)) 2 4 0 4 (N k)) e b := fun k => ccBt_fr q (fun j p => by rw [ccRd, if_neg (by omega), ccRd, if_neg (by omega)])
  by_cases g : r - s ≤ 3
  · have z₁ : N (r - s) ≤ N 3 := by rw [N_le (by omega) (by omega)]; exact g
    have z₂ : ¬ N (s + 3) < N r := by rw [N_lt (by omega) (by omega)]; omega
    refine ⟨mset (mset (mset m 2 4 0 2 (N r)) 2 4 0 4 (N 2)) 2 4 0 5 (N (ccDcm (fun i => b (s + i)) (r - s))), fun rs => ?_, ?_⟩
    · unfold ccTkn
      rw [y₁, ccBi, h₂, y₂, ccIte, if_pos z₁, y₄, y₅, y₆, if_neg z₂, ccE96 (qk 2) (by omega) (by omega) h₅ (y₃ 2), ccBi]
    · rw [if_pos g]
      refine ⟨?_, ?_, ?_, fun z₃ => by omega, fun _ => ?_, fun f a j q z₃ => ?_⟩
      · rw [ccRd, if_neg (by omega), ccRd, if_neg (by omega), y₅]
      · rw [ccRd, if_neg (by omega), y₃]
      · rw [ccRd, if_neg (by omega), ccRd, if_pos ⟨rfl, rfl, rfl, rfl⟩]
      · rw [ccRd, if_pos ⟨rfl, rfl, rfl, rfl⟩]
      · rw [ccRd, if_neg (by omega), ccRd, if_neg (by omega), ccRd, if_neg (by omega)]
  · have z₁ : ¬ N (r - s) ≤ N 3 := by rw [N_le (by omega) (by omega)]; exact g
    have z₂ : N (s + 3) < N r := by rw [N_lt (by omega) (by omega)]; omega
    refine ⟨mset (mset (mset m 2 4 0 2 (N r)) 2 4 0 4 (N 4)) 2 4 0 5 (N (ccDcm (fun i => b (s + i)) (s + 3 - s))), fun rs => ?_, ?_⟩
    · unfold ccTkn
      rw [y₁, ccBi, h₂, y₂, ccIte, if_neg z₁, y₄, y₅, y₆, if_pos z₂, ccE96 (qk 4) (by omega) (by omega) (fun i w₁ w₂ => h₅ i w₁ (by omega)) (y₃ 4), ccBi]
    · rw [if_neg g]
      refine ⟨?_, ?_, ?_, fun z₃ => by omega, fun z₃ => by omega, fun f a j q z₃ => ?_⟩
      · rw [ccRd, if_neg (by omega), ccRd, if_neg (by omega), y₅]
      · rw [ccRd, if_neg (by omega), y₃]
      · rw [ccRd, if_neg (by omega), ccRd, if_pos ⟨rfl, rfl, rfl, rfl⟩]
      · rw [ccRd, if_neg (by omega), ccRd, if_neg (by omega), ccRd, if_neg (by omega)]
theorem ccTc_fr {m m₀ m₁ : mMi} {b : Nat → Nat} {s r kd : Nat} (h₁ : ccTc m₀ b s r kd m₁) (h₂ : ∀ f a j q, ¬ (f = 2 ∧ a = 4 ∧ j = 0 ∧ 2 ≤ q ∧ q ≤ 5) → m₀ f a j q = m f a j q) : ccTc m b s r kd m₁ := ⟨h₁.1, h₁.2.1, h₁.2.2.1, h₁.2.2.2.1, h₁.2.2.2.2.1, fun f a j q z₁ => by rw [h₁.2.2.2.2.2 f a j q z₁, h₂ f a j q z₁]⟩
theorem ccTk_is {m : mMi} {e L s r kd : Nat} {b : Nat → Nat} (q : ccBt m e b) (hL : L ≤ e) (h₁ : m 2 4 0 1 = N L) (h₂ : m 2 4 0 2 = N s) (h : ccTok b L s s r kd) : ∃ m₁, (∀ rs, ccTk m rs = rV m₁ rs) ∧ ccTc m b s r kd m₁ := by
  have q₀ := q.1
  obtain ⟨_, _, _, h₃⟩ := h
  rcases h₃ with ⟨e₁, e₂, e₃⟩ | ⟨e₁, e₂, e₃, e₄, h₄⟩
  · have y₁ : ¬ N s < N L := by rw [N_lt (by omega) (by omega)]; omega
    subst e₃
    refine ⟨mset (mset m 2 4 0 3 (N s)) 2 4 0 4 (N 0), fun rs => ?_, ?_, ?_, ?_, fun z₁ => by omega, fun z₁ => by omega, fun f a j q z₁ => ?_⟩
    · unfold ccTk
      rw [h₁, h₂, ccIte, if_neg y₁]
    · rw [ccRd, if_neg (by omega), ccRd, if_neg (by omega), h₂, e₁, e₂]
    · rw [ccRd, if_neg (by omega), ccRd, if_pos ⟨rfl, rfl, rfl, rfl⟩]
    · rw [ccRd, if_pos ⟨rfl, rfl, rfl, rfl⟩]
    · rw [ccRd, if_neg (by omega), ccRd, if_neg (by omega)]
  obtain ⟨M, hM⟩ : ∃ M, M = mset m 2 4 0 3 (N s) := ⟨_, rfl⟩
  have fM : ∀ f a j p, ¬ (f = 2 ∧ a = 4 ∧ j = 0 ∧ p = 3) → M f a j p = m f a j p := fun f a j p y₁ => by rw [hM, ccRd, if_neg (by omega)]
  have qM : ccBt M e b := ccBt_fr q (fun j p => fM 2 1 j p (by omega))
  have M₁ : M 2 4 0 1 = N L := by rw [fM 2 4 0 1 (by omega)]; exact h₁
  have M₃ : M 2 4 0 3 = N s := by rw [hM, ccRd, if_pos ⟨rfl, rfl, rfl, rfl⟩]
  have y₁ : N s < N L := by rw [N_lt (by omega) (by omega)]; omega
  have k₁ : ∀ rs, ccTk m rs = ccTkb (ccSg (b s)) M rs := fun rs => by
    unfold ccTk
    rw [h₁, h₂, ccIte, if_pos y₁, ← hM, M₃, ccE64 qM (by omega), ccBi]
  have bs := (q.2.2 s (by omega)).1
  rcases h₄ with ⟨w₁, w₂, w₃⟩ | ⟨w₁, w₂, w₃⟩ | ⟨w₁, w₂, w₃, w₄⟩
  · have z₁ := w₁ s (by omega) e₃
    have z₂ : ¬ N (b s) < N 97 := by rw [N_lt (by omega) (by omega)]; omega
    have z₃ : ¬ N 122 < N (b s) := by rw [N_lt (by omega) (by omega)]; omega
    obtain ⟨m₁, a₁, a₂⟩ := ccTkl_is qM hL M₁ M₃ e₃ e₄ w₁ w₂
    rw [← w₃] at a₂
    refine ⟨m₁, fun rs => ?_, ccTc_fr a₂ (fun f a j p y₂ => fM f a j p (by omega))⟩
    rw [k₁, ccSg_lo (by omega)]
    unfold ccTkb
    rw [ccIte, if_neg z₂, ccIte, if_neg z₃, a₁]
  · have z₁ := w₁ s (by omega) e₃
    have z₂ : N (b s) < N 97 := by rw [N_lt (by omega) (by omega)]; omega
    have z₃ : ¬ N (b s) < N 48 := by rw [N_lt (by omega) (by omega)]; omega
    have z₄ : ¬ N 57 < N (b s) := by rw [N_lt (by omega) (by omega)]; omega
    obtain ⟨m₁, a₁, a₂⟩ := ccTkn_is qM hL M₁ M₃ e₃ e₄ w₁ w₂
    rw [← w₃] at a₂
    refine ⟨m₁, fun rs => ?_, ccTc_fr a₂ (fun f a j p y₂ => fM f a j p (by omega))⟩
    rw [k₁, ccSg_lo (by omega)]
    unfold ccTkb ccTkd
    rw [ccIte, if_pos z₂, ccIte, if_neg z₃, ccIte, if_neg z₄, a₁]
  · have k₂ : ∀ rs, ccTkb (ccSg (b s)) M rs = ccTko (ccSg (b s)) M rs := fun rs => by
      unfold ccTkb ccTkd
      by_cases g : b s < 128
      · rw [ccSg_lo g, ccIte, ccIte, ccIte, ccIte]
        by_cases z₁ : N (b s) < N 97
        · rw [if_pos z₁]
          rw [N_lt (by omega) (by omega)] at z₁
          by_cases z₂ : N (b s) < N 48
          · rw [if_pos z₂]
          · rw [if_neg z₂]
            rw [N_lt (by omega) (by omega)] at z₂
            have z₃ : N 57 < N (b s) := by rw [N_lt (by omega) (by omega)]; omega
            rw [if_pos z₃]
        · rw [if_neg z₁]
          rw [N_lt (by omega) (by omega)] at z₁
          have z₂ : N 122 < N (b s) := by rw [N_lt (by omega) (by omega)]; omega
          have z₃ : N 57 < N (b s) := by rw [N_lt (by omega) (by omega)]; omega
          have z₄ : ¬ N (b s) < N 48 := by rw [N_lt (by omega) (by omega)]; omega
          rw [if_pos z₂, if_neg z₄, if_pos z₃]
      · have z₀ := ccSg_hi (by omega) bs
        rw [ccIte, if_pos (ccNeg_lt z₀ (by omega)), ccIte, if_pos (ccNeg_lt z₀ (by omega))]
    have k₃ : ∀ rs, ccTko (ccSg (b s)) M rs = rV (mset (mset M 2 4 0 2 (N (s + 1))) 2 4 0 4 (N kd)) rs := fun rs => by
      unfold ccTko
      rw [M₃, N_add, w₄, ccIte]
      by_cases g : b s = 59
      · have z₁ : ¬ ccSg (b s) ≠ N 59 := fun z₂ => z₂ (by rw [ccSg_lo (by omega), g])
        rw [if_neg z₁, if_pos g]
      · have z₁ : ccSg (b s) ≠ N 59 := fun z₂ => by
          by_cases g₁ : b s < 128
          · rw [ccSg_lo g₁, N_eq (by omega) (by omega)] at z₂
            exact g z₂
          · have z₃ := ccNeg_lt (k := 59) (ccSg_hi (by omega) bs) (by omega)
            rw [z₂, N_lt (by omega) (by omega)] at z₃
            omega
        rw [if_pos z₁, if_neg g]
    have kb : kd ≠ 1 ∧ kd ≠ 2 := by
      rw [w₄]
      by_cases g : b s = 59
      · rw [if_pos g]
        omega
      · rw [if_neg g]
        omega
    refine ⟨mset (mset M 2 4 0 2 (N (s + 1))) 2 4 0 4 (N kd), fun rs => by rw [k₁, k₂, k₃], ?_, ?_, ?_, fun z₁ => absurd z₁ kb.1, fun z₁ => absurd z₁ kb.2, fun f a j q z₁ => ?_⟩
    · rw [ccRd, if_neg (by omega), ccRd, if_pos ⟨rfl, rfl, rfl, rfl⟩, w₃]
    · rw [ccRd, if_neg (by omega), ccRd, if_neg (by omega), M₃]
    · rw [ccRd, if_pos ⟨rfl, rfl, rfl, rfl⟩]
    · rw [ccRd, if_neg (by omega), ccRd, if_neg (by omega), fM f a j q (by omega)]
theorem ccL94 {e L s r kd : Nat} {b : Nat → Nat} (hL : L ≤ e) : ∀ d p m, p + d = s → ccBt m e b → m 2 4 0 1 = N L → m 2 4 0 2 = N p → ccTok b L p s r kd → ∃ m₁, (∀ f rs, F94_0 (f + d + 1) m rs = rV m₁ rs) ∧ ccTc m b s r kd m₁ := by
  intro d
  induction d with
  | zero =>
    intro p m g₁ q h₁ h₂ h
    have q₀ := q.1
    have e₁ : p = s := by omega
    subst e₁
    obtain ⟨m₁, a₁, a₂⟩ := ccTk_is q hL h₁ h₂ h
    refine ⟨m₁, fun f rs => ?_, a₂⟩
    have w₁ := h.2.1
    rw [ccL94w, h₁, h₂, ccIte]
    by_cases g₂ : N L ≤ N p
    · rw [if_pos g₂, a₁]
    · rw [if_neg g₂]
      rw [N_le (by omega) (by omega)] at g₂
      rcases h.2.2.2 with ⟨w₂, _⟩ | ⟨w₂, w₃, _⟩
      · omega
      · have z₁ : ccSg (b p) ≠ N 32 := fun z₂ => by
          by_cases g₁ : b p < 128
          · rw [ccSg_lo g₁, N_eq (by omega) (by omega)] at z₂
            exact w₃ z₂
          · have z₃ := ccNeg_lt (k := 32) (ccSg_hi (by omega) (q.2.2 p (by omega)).1) (by omega)
            rw [z₂, N_lt (by omega) (by omega)] at z₃
            omega
        rw [ccE64 q (by omega), ccBi, ccIte, if_pos z₁, a₁]
  | succ d i₁ =>
    intro p m g₁ q h₁ h₂ h
    have q₀ := q.1
    obtain ⟨w₁, w₂, w₃, w₄⟩ := h
    have e₁ := w₃ p (by omega) (by omega)
    have e₂ : ¬ N L ≤ N p := by rw [N_le (by omega) (by omega)]; omega
    have e₃ : ¬ N (b p) ≠ N 32 := fun z₁ => z₁ (by rw [e₁])
    obtain ⟨m₁, a₁, a₂⟩ := i₁ (p + 1) (mset m 2 4 0 2 (N (p + 1))) (by omega) (ccBt_fr q (fun j p => by rw [ccRd, if_neg (by omega)])) (by rw [ccRd, if_neg (by omega)]; exact h₁) (by rw [ccRd, if_pos ⟨rfl, rfl, rfl, rfl⟩]) ⟨by omega, w₂, fun i y₁ y₂ => w₃ i (by omega) y₂, w₄⟩
    refine ⟨m₁, fun f rs => ?_, ccTc_fr a₂ (fun f a j p y₁ => by rw [ccRd, if_neg (by omega)])⟩
    have e₄ : f + (d + 1) + 1 = f + d + 1 + 1 := by omega
    rw [e₄, ccL94w, h₁, h₂, ccIte, if_neg e₂, ccE64 q (by omega), ccBi, ccSg_lo (by omega), ccIte, if_neg e₃, h₂, N_add]
    exact a₁ f rs
theorem ccE94 {m : mMi} {e L p s r kd : Nat} {b : Nat → Nat} (q : ccBt m e b) (hL : L ≤ e) (h₁ : m 2 4 0 1 = N L) (h₂ : m 2 4 0 2 = N p) (h : ccTok b L p s r kd) : ∃ m₁, (∀ rs, F94 m rs = rV m₁ rs) ∧ ccTc m b s r kd m₁ := by
  have q₀ := q.1
  have w₁ := h.1
  have w₂ := h.2.1
  obtain ⟨f, hf⟩ := ccFU (k := s - p) (by omega)
  obtain ⟨m₁, a₁, a₂⟩ := ccL94 hL (s - p) p m (by omega) q h₁ h₂ h
  refine ⟨m₁, fun rs => ?_, a₂⟩
  unfold F94
  rw [hf]
  exact a₁ f rs
