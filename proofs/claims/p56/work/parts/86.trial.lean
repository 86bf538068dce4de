/-! LOOKS: what would fall. -/
/-- k is in the castle -/
def kwIn (C : Nat → Nat → Int32) (k : Nat) : Bool := !(decide (C 13 k < N 0))
def kwWs (W : Nat → Nat) (f : Nat → Bool) : Nat → Nat
  | 0 => 0
  | k + 1 => kwWs W f k + (if f k = true then W k else 0)
theorem kwWs_c {W : Nat → Nat} {f g : Nat → Bool} : ∀ n, (∀ k, k < n → f k = g k) → kwWs W f n = kwWs W g n := by
  intro n
  induction n with
  | zero => intro _; rfl
  | succ k i₁ =>
    intro h
    unfold kwWs
    rw [i₁ (fun j y => h j (by omega)), h k (by omega)]
theorem kwWs_b {W : Nat → Nat} {f : Nat → Bool} : ∀ n, ccWok n W → kwWs W f n ≤ 9 * n := by
  intro n
  induction n with
  | zero => intro _; exact Nat.le_refl 0
  | succ k i₁ =>
    intro h
    have z := (h k (by omega)).2
    have y := i₁ (fun j u => h j (by omega))
    unfold kwWs
    by_cases g : f k = true
    · rw [if_pos g]; omega
    · rw [if_neg g]; omega
theorem kwWs_d {W : Nat → Nat} {f g : Nat → Bool} : ∀ n, (∀ k, k < n → g k = true → f k = true) → kwWs W f n = kwWs W g n + kwWs W (fun k => f k && !(g k)) n := by
  intro n
  induction n with
  | zero => intro _; rfl
  | succ k i₁ =>
    intro h
    have y := i₁ (fun j u => h j (by omega))
    have z := h k (by omega)
    have s₁ : kwWs W (fun k => f k && !(g k)) (k + 1) = kwWs W (fun k => f k && !(g k)) k + (if (f k && !(g k)) = true then W k else 0) := rfl
    have s₂ : kwWs W f (k + 1) = kwWs W f k + (if f k = true then W k else 0) := rfl
    have s₃ : kwWs W g (k + 1) = kwWs W g k + (if g k = true then W k else 0) := rfl
    rw [s₁, s₂, s₃, y]
    cases u₁ : f k <;> cases u₂ : g k
    · simp only [Bool.not_true, Bool.not_false, Bool.and_true, Bool.true_and, Bool.false_and, Bool.and_false, Bool.false_eq_true, if_true, if_false]
      omega
    · rw [u₁] at z
      exact absurd (z u₂) (by intro v; cases v)
    · simp only [Bool.not_true, Bool.not_false, Bool.and_true, Bool.true_and, Bool.false_and, Bool.and_false, Bool.false_eq_true, if_true, if_false]
      omega
    · simp only [Bool.not_true, Bool.not_false, Bool.and_true, Bool.true_and, Bool.false_and, Bool.and_false, Bool.false_eq_true, if_true, if_false]
      omega
theorem kwXno {k : Nat} : ¬ ccX0 k = true := by
  unfold ccX0
  intro v
  cases v
theorem kwIn_m : (!(decide (I (-1) < N 0))) = false ∧ (!(decide (I (-2) < N 0))) = false := by decide
theorem kwIn_p {C : Nat → Nat → Int32} {k p : Nat} (h : p < 96) (h₁ : C 13 k = N p) : kwIn C k = true := by
  have e : ¬ N p < N 0 := by rw [N_lt (by omega) (by omega)]; omega
  unfold kwIn
  rw [h₁, decide_eq_false e]
  rfl
/-- the weight of the castle, card by card -/
theorem kwSumW {n : Nat} {β : Nat → Int32} {C : Nat → Nat → Int32} {s : Nat → Int32} {W : Nat → Nat} (h₁ : ccRC ccX0 n β C s) : ∀ k, k ≤ n → ccSum (ccW2 (fun j => N (W j)) ccX0 s) k = N (kwWs W (kwIn C) k) := by
  intro k
  induction k with
  | zero => intro _; rfl
  | succ k i₁ =>
    intro y
    unfold ccSum kwWs
    rw [i₁ (by omega)]
    have z : ccW2 (fun j => N (W j)) ccX0 s k = N (if kwIn C k = true then W k else 0) := by
      unfold ccW2
      rcases (h₁ k (by omega)).2 with ⟨u, _⟩ | ⟨_, u₁, u₂⟩ | ⟨_, u₁, u₂⟩ | ⟨_, p, u₁, u₂, _, u₃⟩
      · exact absurd u kwXno
      · have v₁ : kwIn C k = false := by unfold kwIn; rw [u₁]; exact kwIn_m.1
        rw [u₂, v₁, if_neg (fun v => absurd v.2 (by decide)), if_neg (by intro v; cases v)]
      · have v₁ : kwIn C k = false := by unfold kwIn; rw [u₁]; exact kwIn_m.2
        rw [u₂, v₁, if_neg (fun v => absurd v.2 (by decide)), if_neg (by intro v; cases v)]
      · have v₁ := kwIn_p u₁ u₂
        have v₂ : N 2 ≤ s (9 + 6 * k) := by
          rcases u₃ with ⟨u₄, _⟩ | ⟨u₄, _⟩
          · rw [u₄]; decide
          · rw [u₄]; decide
        rw [if_pos ⟨rfl, v₂⟩, v₁, if_pos rfl]
    rw [z, N_add]
/-- where the World has a card -/
theorem kwWh {n k B : Nat} {m : mMi} {C : Nat → Nat → Int32} (h : kwK ccX0 n m B C) (hk : k < n) : (kwIn C k = false ∧ m 6 B 4 k ≤ N 1) ∨ (kwIn C k = true ∧ ¬ m 6 B 4 k ≤ N 1) := by
  rcases (h k hk).2 with y | y
  · exact absurd y kwXno
  · rcases y with ⟨y₁, y₂⟩ | ⟨y₁, y₂⟩ | ⟨L, c, y₁, y₂, y₃, _, _, y₄⟩
    · exact Or.inl ⟨by unfold kwIn; rw [y₂]; exact kwIn_m.1, by rw [y₁]; decide⟩
    · exact Or.inl ⟨by unfold kwIn; rw [y₂]; exact kwIn_m.2, by rw [y₁]; decide⟩
    · refine Or.inr ⟨kwIn_p (by omega) y₃, ?_⟩
      rcases y₄ with ⟨y₅, _⟩ | ⟨y₅, _⟩
      · rw [y₅]; decide
      · rw [y₅]; decide
def kwInW (m : mMi) (B k : Nat) : Bool := !(decide (m 6 B 4 k ≤ N 1))
theorem kwInW_e {n k B : Nat} {m : mMi} {C : Nat → Nat → Int32} (h : kwK ccX0 n m B C) (hk : k < n) : kwInW m B k = kwIn C k := by
  unfold kwInW
  rcases kwWh h hk with ⟨y₁, y₂⟩ | ⟨y₁, y₂⟩
  · rw [y₁, decide_eq_true y₂]
    rfl
  · rw [y₁, decide_eq_false y₂]
    rfl
theorem kwWh2 {n k B : Nat} {m : mMi} {C : Nat → Nat → Int32} (h : kwK ccX0 n m B C) (hk : k < n) (g : kwInW m B k = true) : N 2 ≤ m 6 B 4 k := by
  rcases (h k hk).2 with y | y
  · exact absurd y kwXno
  · rcases y with ⟨y₁, _⟩ | ⟨y₁, _⟩ | ⟨L, c, _, _, _, _, _, y₄⟩
    · unfold kwInW at g
      rw [y₁] at g
      exact absurd g (by decide)
    · unfold kwInW at g
      rw [y₁] at g
      exact absurd g (by decide)
    · rcases y₄ with ⟨y₅, _⟩ | ⟨y₅, _⟩
      · rw [y₅]; decide
      · rw [y₅]; decide
/-- the weight of the castle between two steps -/
theorem kwI_sum {m : mMi} {r : mRs} {B w l n lm dp cl bd T Z D : Nat} {β : Nat → Int32} {W : Nat → Nat} (q : kwI m r B w l n lm dp cl bd β W T Z D) : ccSum (ccW1 (fun k => N (W k)) (m 0 0)) 96 = N (kwWs W (kwIn (m 0 0)) n) := by
  obtain ⟨h, t, j₀, c₀⟩ := q.1
  obtain ⟨mm, q₀⟩ := j₀.1
  have q₁ := q₀.1.2.2.2.2.2.1
  have e := q₁.2.2.2.2.2
  unfold ccRF at e
  rw [e]
  exact kwSumW q₁.2.2.1 n (Nat.le_refl n)
theorem kwPcs_le {C D : Nat → Nat → Int32} {t v : Nat} (h : ccG C D t v) : ccPcs D ≤ ccPcs C := by
  have y₁ : ∀ p, ccP D p = true → ccP C p = true := fun p y => by
    have z := ccP_t y
    rcases (h.1 p).1 with u | u
    · rw [u] at z
      unfold ccP
      rw [decide_eq_false z]
      rfl
    · exact absurd u z
  have y₂ : ∀ p, ccF D p = true → ccF C p = true := fun p y => by
    have z : D 6 p ≠ I (-1) := fun e => by
      unfold ccF at y
      rw [decide_eq_true e] at y
      cases y
    rcases (h.1 p).2.1 with u | u
    · rw [u] at z
      unfold ccF
      rw [decide_eq_false z]
      rfl
    · exact absurd u z
  have z₁ := ccCnt_mono y₁ 96
  have z₂ := ccCnt_mono y₂ 96
  unfold ccPcs
  omega
/-- the trial castle of the class and a World of its own fall together -/
theorem kwTry {m X M₁ : mMi} {r r₁ : mRs} {B E w l n lm dp cl bd T Z D L c : Nat} {β : Nat → Int32} {W : Nat → Nat} (q : kwI m r B w l n lm dp cl bd β W T Z D) (bT : T ≤ 900000000) (qX : kwI X r₁ B w l n lm dp cl bd β W T Z D) (eX : X 0 0 = m 0 0) (h₁ : L < l) (h₂ : L + c < w) (s : kwS M₁ E w l n lm dp cl bd) (g : kwG M₁ E (m 0 0)) (k : kwK ccX0 n M₁ E (m 0 0)) (f : kwF M₁ E (m 0 0)) : ∃ t v Y Y₁ M₃, m 0 0 7 2 = N t ∧ (∀ rs, F18 1 0 X rs = rV Y rs) ∧ (∀ rs, F32 1 (N L) (N c) Y rs = rI (N (v - t)) Y₁ rs) ∧ kwFv X Y ∧ kwFv X Y₁ ∧ t ≤ v ∧ v < 1000000000 ∧ (∀ rs, rs.2.1.1 E = true → H191 E (N L) (N c) (N 0) (I (-1)) M₁ rs = rV M₃ rs) ∧ M₃ 6 E 0 20 = N v ∧ kwFr E M₁ M₃ ∧ kwK ccX0 n M₃ E (Y₁ 0 1) ∧ (∀ i, i < n → kwIn (Y₁ 0 1) i = true → kwIn (m 0 0) i = true) ∧ (∀ rs, F33 1 Y₁ rs = rI (N (kwWs W (kwIn (Y₁ 0 1)) n)) Y₁ rs) := by
  obtain ⟨h, t, j₀, c₀⟩ := q.1
  obtain ⟨mm, q₀⟩ := j₀.1
  obtain ⟨hx, tx, jx, cx⟩ := qX.1
  obtain ⟨mx, qx⟩ := jx.1
  have iv := q₀.1
  have b₁ : w ≤ 12 := iv.1.2.2.2.2.1
  have b₂ : l ≤ 8 := iv.1.2.2.2.2.2.2.1
  have b₃ : n ≤ 40 := iv.1.2.2.2.2.2.2.2
  have tt : m 0 0 7 2 = N t := j₀.2.2.1.2.2.2.1
  have bt : t ≤ T := c₀.2.2.2.2.2.1
  obtain ⟨Y, a₁, a₂, a₃⟩ := ccE18 (m := X) (i := 1) (i₂ := 0) (by omega)
  rw [eX] at a₃
  have ru : ccRu Y (RO 1) w l n := ⟨by rw [show RO 1 = 0 from rfl, a₂ 1 0 1 0 (by omega)]; exact qx.1.1.1, by rw [show RO 1 = 0 from rfl, a₂ 1 0 1 1 (by omega)]; exact qx.1.1.2.1, by rw [show RO 1 = 0 from rfl, a₂ 1 0 0 4 (by omega)]; exact qx.1.1.2.2.1, qx.1.1.2.2.2⟩
  have iv₁ : ccInv Y mm 1 w l n bd β (fun k => N (W k)) h t := ⟨ru, by rw [show RO 1 = 0 from rfl, a₂ 1 0 1 5 (by omega)]; exact qx.1.2.1, iv.2.2.1, iv.2.2.2.1, iv.2.2.2.2.1, ccR_ag iv.2.2.2.2.2.1 b₃ a₃ ccAr_rfl, ccPlc_ag iv.2.2.2.2.2.2.1 a₃, by
    have z := ccPcs_le (C := Y 0 1)
    omega⟩
  have u₁ : kwU n t β false M₁ E (Y 0 1) := by
    refine ⟨fun L₁ c₁ g₁ g₂ => ?_, fun i y => ?_, ?_, ?_, fun y => by cases y⟩
    · obtain ⟨z₁, z₂, z₃⟩ := g L₁ c₁ g₁ g₂
      rw [a₃.1 2 _ (by omega) (by omega) (by omega), a₃.1 3 _ (by omega) (by omega) (by omega), a₃.1 4 _ (by omega) (by omega) (by omega), a₃.1 5 _ (by omega) (by omega) (by omega), a₃.1 6 _ (by omega) (by omega) (by omega)]
      exact ⟨z₁, z₂, z₃⟩
    · obtain ⟨z₁, z₂⟩ := k i y
      refine ⟨by rw [a₃.2.2.2.2.1 11 i (by omega) (by omega) (by omega)]; exact z₁, ?_⟩
      rcases z₂ with z₃ | z₃
      · exact Or.inl z₃
      · refine Or.inr ?_
        unfold kwL at z₃ ⊢
        rw [a₃.2.2.2.2.1 13 i (by omega) (by omega) (by omega)]
        rcases z₃ with y₁ | y₁ | ⟨L₁, c₁, y₁, y₂, y₃, y₄, y₅, y₆⟩
        · exact Or.inl y₁
        · exact Or.inr (Or.inl y₁)
        · refine Or.inr (Or.inr ⟨L₁, c₁, y₁, y₂, y₃, y₄, y₅, ?_⟩)
          rw [a₃.1 2 _ (by omega) (by omega) (by omega), a₃.1 3 _ (by omega) (by omega) (by omega), a₃.1 6 _ (by omega) (by omega) (by omega)]
          exact y₆
    · obtain ⟨z₁, a, hh, z₂, z₃, z₄, z₅⟩ := f
      exact ⟨by rw [a₃.2.2.2.1]; exact z₁, a, hh, z₂, by rw [a₃.2.2.2.2.2.1]; exact z₃, z₄, z₅⟩
    · rw [a₃.2.2.2.1]; exact tt
  obtain ⟨Y₁, mm₁, M₃, k₁, k₂, ⟨hh, v, k₃, k₄, k₅⟩, k₆, k₇, k₈, k₉⟩ := kwFallP (L := L) (c := c) (cs := 0) (x := I (-1)) iv₁ s u₁ (by omega) (by omega) (by omega)
  have t₁ : Y 0 1 7 2 = N t := by rw [a₃.2.2.2.1]; exact tt
  have v₁ : Y₁ 0 1 7 2 = N v := k₅.2.2.2.1
  have bv : t ≤ v ∧ v < 1000000000 := by
    have z₁ := k₄.2
    have z₂ := k₃.2.2.2.2.2.2.2
    have z₃ := kwPcs_le k₄
    omega
  have cdD := ccCd_of k₃.2.2.2.2.2.1.2.1
  have rb := iv.2.2.2.2.2.1.2.1
  have rc₁ := k₃.2.2.2.2.2.1.2.2.1
  have xy : kwFv X Y := fun f a j p g₁ _ => a₂ f a j p g₁
  have xy₁ : kwFv X Y₁ := fun f a j p g₁ g₂ => by rw [k₆ f a j p (by omega) (by omega), a₂ f a j p g₁]
  refine ⟨t, v, Y, Y₁, M₃, tt, a₁, fun rs => ?_, xy, xy₁, bv.1, bv.2, k₂, ?_, k₈, k₅.2.1, fun i y₁ y₂ => ?_, fun rs => ?_⟩
  · unfold F32
    rw [k₁, ccBv, v₁, t₁, N_sub bv.1]
  · have z := k₅.2.2.1.1
    rw [z]
    exact v₁
  · rcases (rc₁ i y₁).2 with ⟨u, _⟩ | ⟨_, u, _⟩ | ⟨_, u, _⟩ | ⟨_, p, u₁, u₂, _, u₃⟩
    · exact absurd u kwXno
    · rw [show kwIn (Y₁ 0 1) i = false from by unfold kwIn; rw [u]; exact kwIn_m.1] at y₂
      cases y₂
    · rw [show kwIn (Y₁ 0 1) i = false from by unfold kwIn; rw [u]; exact kwIn_m.2] at y₂
      cases y₂
    · obtain ⟨g₁, g₂, g₃, _⟩ := k₄.1 p
      rcases u₃ with ⟨_, u₄, u₅⟩ | ⟨_, u₄⟩
      · have d₂ : Y₁ 0 1 2 p = m 0 0 2 p := by
          rcases g₁ with z | z
          · rw [z]; exact a₃.1 2 p (by omega) (by omega) u₁
          · exact absurd z u₄
        have d₃ : Y₁ 0 1 3 p = m 0 0 3 p := by rw [g₃]; exact a₃.1 3 p (by omega) (by omega) u₁
        rw [d₂] at u₄ u₅
        rw [d₃] at u₅
        obtain ⟨a, b, e₁, e₂, e₃, e₄, e₅, e₆, e₇, _⟩ := rb.1 p u₁ u₄
        rcases u₅ with z | z
        · have e₈ : i = a := ccNinj (Eq.trans (Eq.symm z) e₄) (by omega) (by omega)
          subst e₈
          exact kwIn_p u₁ e₆
        · have e₈ : i = b := ccNinj (Eq.trans (Eq.symm z) e₅) (by omega) (by omega)
          subst e₈
          exact kwIn_p u₁ e₇
      · have n₁ : Y₁ 0 1 6 p ≠ I (-1) := by rw [u₄, ne_eq, ccNm (by omega)]; exact fun h => h
        have d₂ : Y₁ 0 1 6 p = m 0 0 6 p := by
          rcases g₂ with z | z
          · rw [z]; exact a₃.1 6 p (by omega) (by omega) u₁
          · exact absurd z n₁
        rw [d₂] at u₄ n₁
        obtain ⟨a, e₁, e₂, e₃, _⟩ := rb.2 p u₁ n₁
        have e₈ : i = a := ccNinj (Eq.trans (Eq.symm u₄) e₂) (by omega) (by omega)
        subst e₈
        exact kwIn_p u₁ e₃
  · have wt : ccWt Y₁ (RO 1) n W := fun i y => by
      rw [show RO 1 = 0 from rfl, xy₁ 1 0 4 i (by omega) (by omega)]
      exact qx.2.2.1 i y
    have e := k₃.2.2.2.2.2.1.2.2.2.2.2
    unfold ccRF at e
    have z := kwSumW (W := W) rc₁ n (Nat.le_refl n)
    rw [ccE33 rfl wt cdD b₃, e, z]
