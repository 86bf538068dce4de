/-! CASTLES that agree where it counts. -/
def ccAg (C D : Nat → Nat → Int32) : Prop := (∀ j p, 2 ≤ j → j ≤ 6 → p < 96 → D j p = C j p) ∧ (∀ p, p < 150 → D 8 p = C 8 p) ∧ (∀ p, p < 4 → D 9 p = C 9 p) ∧ D 7 2 = C 7 2 ∧ (∀ j p, 11 ≤ j → j ≤ 14 → p < 40 → D j p = C j p) ∧ D 10 5 = C 10 5 ∧ D 0 5 = C 0 5 ∧ D 0 6 = C 0 6
def ccAr (s u : Nat → Int32) : Prop := ∀ q, q < 918 → u q = s q
theorem ccAg_rfl {C : Nat → Nat → Int32} : ccAg C C := ⟨fun _ _ _ _ _ => rfl, fun _ _ => rfl, fun _ _ => rfl, rfl, fun _ _ _ _ _ => rfl, rfl, rfl, rfl⟩
theorem ccAr_rfl {s : Nat → Int32} : ccAr s s := fun _ _ => rfl
theorem ccR_ag {X : Nat → Bool} {n h t : Nat} {β wt : Nat → Int32} {C D : Nat → Nat → Int32} {s u : Nat → Int32} (h₁ : ccR X n β wt h t C s) (h₀ : n ≤ 40) (q₁ : ccAg C D) (q₂ : ccAr s u) : ccR X n β wt h t D u := by
  have g₁ := ccR_h h₁
  obtain ⟨r₁, r₂, r₃, r₄, r₅, r₆⟩ := h₁
  obtain ⟨a₁, a₂, a₃, a₄, a₅, a₆, a₇, a₈⟩ := q₁
  refine ⟨fun p y₁ => ?_, ⟨fun p y₁ y₂ => ?_, fun p y₁ y₂ => ?_⟩, fun k y₁ => ?_, ?_, ?_, ?_⟩
  · rw [q₂ _ (by omega), q₂ _ (by omega), q₂ _ (by omega), q₂ _ (by omega), q₂ _ (by omega), a₁ 2 p (by omega) (by omega) y₁, a₁ 3 p (by omega) (by omega) y₁, a₁ 4 p (by omega) (by omega) y₁, a₁ 5 p (by omega) (by omega) y₁, a₁ 6 p (by omega) (by omega) y₁]
    exact r₁ p y₁
  · rw [a₁ 2 p (by omega) (by omega) y₁] at y₂
    obtain ⟨a, b, f₁, f₂, f₃, f₄, f₅, f₆, f₇, f₈, f₉⟩ := r₂.1 p y₁ y₂
    refine ⟨a, b, f₁, f₂, f₃, by rw [a₁ 2 p (by omega) (by omega) y₁]; exact f₄, by rw [a₁ 3 p (by omega) (by omega) y₁]; exact f₅, by rw [a₅ 13 a (by omega) (by omega) (by omega)]; exact f₆, by rw [a₅ 13 b (by omega) (by omega) (by omega)]; exact f₇, ?_⟩
    rw [q₂ _ (by omega), q₂ _ (by omega)]
    exact ⟨f₈, f₉⟩
  · rw [a₁ 6 p (by omega) (by omega) y₁] at y₂
    obtain ⟨a, f₁, f₂, f₃, f₄⟩ := r₂.2 p y₁ y₂
    refine ⟨a, f₁, by rw [a₁ 6 p (by omega) (by omega) y₁]; exact f₂, by rw [a₅ 13 a (by omega) (by omega) (by omega)]; exact f₃, ?_⟩
    rw [q₂ _ (by omega)]
    exact f₄
  · obtain ⟨f₁, f₂⟩ := r₃ k y₁
    rw [q₂ _ (by omega), q₂ _ (by omega), q₂ _ (by omega), q₂ _ (by omega), q₂ _ (by omega), a₅ 11 k (by omega) (by omega) (by omega), a₅ 12 k (by omega) (by omega) (by omega), a₅ 13 k (by omega) (by omega) (by omega)]
    refine ⟨f₁, ?_⟩
    rcases f₂ with f₂ | f₂ | f₂ | ⟨f₂, p, f₃, f₄, f₅, f₆⟩
    · exact Or.inl f₂
    · exact Or.inr (Or.inl f₂)
    · exact Or.inr (Or.inr (Or.inl f₂))
    · refine Or.inr (Or.inr (Or.inr ⟨f₂, p, f₃, f₄, f₅, ?_⟩))
      rw [a₁ 2 p (by omega) (by omega) f₃, a₁ 3 p (by omega) (by omega) f₃, a₁ 6 p (by omega) (by omega) f₃]
      exact f₆
  · obtain ⟨f₁, f₂, f₃, f₄, f₅⟩ := r₄
    refine ⟨?_, by rw [a₆]; exact f₂, by rw [q₂ _ (by omega)]; exact f₃, fun x y₁ => ?_, fun k y₁ => ?_⟩
    · rw [f₁]
      exact ccCnt_congr n fun x y₁ => by rw [a₅ 13 x (by omega) (by omega) (by omega)]
    · rw [a₅ 14 x (by omega) (by omega) (by omega), q₂ _ (by omega)]
      exact f₄ x y₁
    · rw [a₅ 13 k (by omega) (by omega) (by omega), ← f₅ k y₁]
      exact ccCnt_congr h fun x y₂ => by rw [a₅ 14 x (by omega) (by omega) (by omega)]
  · obtain ⟨e₁, e₂, e₃, e₄, e₅, e₆, e₇⟩ := r₅
    refine ⟨by rw [a₄]; exact e₁, by rw [q₂ _ (by omega)]; exact e₂, fun v g₁ g₂ => ⟨fun e g₃ => ?_, ?_⟩, fun v g₁ => ?_, ?_, ?_, ?_⟩
    · rw [a₂ _ (by omega), q₂ _ (by omega)]
      exact (e₃ v g₁ g₂).1 e g₃
    · rw [a₂ _ (by omega), a₂ _ (by omega), a₂ _ (by omega), a₂ _ (by omega)]
      exact (e₃ v g₁ g₂).2
    · rw [a₃ _ g₁, q₂ _ (by omega)]
      exact e₄ v g₁
    · rw [a₇, q₂ _ (by omega)]
      exact e₅
    · rw [a₈, q₂ _ (by omega)]
      exact e₆
    · rw [a₇]
      exact e₇
  · unfold ccRF at r₆ ⊢
    rw [ccSum_congr (g := ccW1 wt C) 96 (fun p y₁ => by unfold ccW1; rw [a₁ 2 p (by omega) (by omega) y₁, a₁ 3 p (by omega) (by omega) y₁, a₁ 6 p (by omega) (by omega) y₁]), ccSum_congr (f := ccW2 wt X u) (g := ccW2 wt X s) n (fun k y₁ => by unfold ccW2; rw [q₂ _ (by omega)])]
    exact r₆
theorem ccPlc_ag {w l : Nat} {C D : Nat → Nat → Int32} (h₁ : ccPlc w l C) (q₁ : ccAg C D) : ccPlc w l D := fun p y₁ => by
  rw [q₁.1 2 p (by omega) (by omega) y₁, q₁.1 6 p (by omega) (by omega) y₁]
  exact h₁ p y₁
theorem ccStd_ag {C D : Nat → Nat → Int32} (h₁ : ccStd C) (q₁ : ccAg C D) : ccStd D := fun p y₁ y₂ => by
  have f₁ := h₁ p y₁ y₂
  unfold ccVf ccVp at f₁ ⊢
  rw [q₁.1 2 p (by omega) (by omega) y₂, q₁.1 6 p (by omega) (by omega) y₂, q₁.1 2 (p - 12) (by omega) (by omega) (by omega), q₁.1 2 (p - 11) (by omega) (by omega) (by omega)]
  exact f₁
theorem ccHP_ag {C D : Nat → Nat → Int32} {w l L c : Nat} (q₁ : ccAg C D) (h₁ : w ≤ 12) (h₂ : l ≤ 8) : ccHP D w l L c = ccHP C w l L c := by
  unfold ccHP
  cases h₃ : ccPl w l L c
  · rfl
  · simp only [ccPl, Bool.and_eq_true, decide_eq_true_eq] at h₃
    unfold ccP
    rw [q₁.1 2 _ (by omega) (by omega) (by omega)]
theorem ccHF_ag {C D : Nat → Nat → Int32} {w l L c : Nat} (q₁ : ccAg C D) (h₁ : w ≤ 12) (h₂ : l ≤ 8) : ccHF D w l L c = ccHF C w l L c := by
  unfold ccHF
  cases h₃ : ccPl w l L c
  · rfl
  · simp only [ccPl, Bool.and_eq_true, decide_eq_true_eq] at h₃
    unfold ccF
    rw [q₁.1 6 _ (by omega) (by omega) (by omega)]
theorem ccFL_ag {W : Nat → Nat} {C D : Nat → Nat → Int32} {w l : Nat} (q₁ : ccAg C D) (h₁ : w ≤ 12) (h₂ : l ≤ 8) : ∀ d L c, ccFL W D w l d L c = ccFL W C w l d L c := by
  intro d
  induction d with
  | zero => intro L c; rfl
  | succ d i₁ =>
    intro L c
    unfold ccFL
    rw [ccHF_ag q₁ h₁ h₂, ccHP_ag q₁ h₁ h₂]
    cases h₃ : ccHF C w l L c
    · simp only [Bool.false_eq_true, if_false]
    · obtain ⟨g₁, g₂, _⟩ := ccHF_t h₃
      rw [q₁.1 2 _ (by omega) (by omega) (by omega), q₁.1 3 _ (by omega) (by omega) (by omega), q₁.1 6 _ (by omega) (by omega) (by omega), i₁]
      cases c with
      | zero => rfl
      | succ c₁ =>
        show (if _ then _ + (if _ then _ + _ + (ccFL W D w l d (L + 1) c₁ / 2 + _) else 0) else 0) = _
        rw [i₁]
theorem ccRv_ag {W : Nat → Nat} {C D : Nat → Nat → Int32} {w l n p : Nat} (q₁ : ccAg C D) (q₂ : ccCd n C) (h₁ : w ≤ 12) (h₂ : l ≤ 8) (h₀ : n ≤ 40) (h₃ : p < 96) (h₄ : C 2 p ≠ I (-1)) : ccRv W D w l p = ccRv W C w l p := by
  obtain ⟨a, b, f₁, f₂, f₃, f₄⟩ := q₂.1 p h₃ h₄
  unfold ccRv ccStp ccStf ccPL
  rw [q₁.1 2 p (by omega) (by omega) h₃, q₁.1 3 p (by omega) (by omega) h₃, q₁.1 4 p (by omega) (by omega) h₃, f₃, f₄, mix_N (by omega), mix_N (by omega), q₁.2.2.2.2.1 11 a (by omega) (by omega) (by omega), q₁.2.2.2.2.1 11 b (by omega) (by omega) (by omega), ccFL_ag q₁ h₁ h₂]
  cases p % 12 with
  | zero => rfl
  | succ c₁ =>
    show _ - N (ccFL W D w l _ _ c₁ / 2 + _) = _
    rw [ccFL_ag q₁ h₁ h₂]
theorem ccQt_ag {W : Nat → Nat} {C D : Nat → Nat → Int32} {w l n : Nat} (q₁ : ccAg C D) (q₂ : ccCd n C) (h₁ : w ≤ 12) (h₂ : l ≤ 8) (h₀ : n ≤ 40) (q₃ : ccQt W C w l) : ccQt W D w l := fun p y₁ => by
  have f₁ := q₃ p y₁
  by_cases y₂ : C 2 p = I (-1)
  · unfold ccBdl ccP
    rw [q₁.1 2 p (by omega) (by omega) y₁, y₂]
    rfl
  · unfold ccBdl ccP at f₁ ⊢
    rw [q₁.1 2 p (by omega) (by omega) y₁, ccRv_ag q₁ q₂ h₁ h₂ h₀ y₁ y₂]
    exact f₁
theorem ccQw_ag {x : Int32} {C D : Nat → Nat → Int32} (q₁ : ccAg C D) (q₃ : ccQw x C) : ccQw x D := fun p y₁ => by
  have f₁ := q₃ p y₁
  unfold ccBdw ccP at f₁ ⊢
  rw [q₁.1 2 p (by omega) (by omega) y₁, q₁.1 5 p (by omega) (by omega) y₁]
  exact f₁
/-- angles and wobbles of the pairs that stand -/
def ccNn (C : Nat → Nat → Int32) : Prop := ∀ p, p < 96 → C 2 p ≠ I (-1) → (∃ a, C 4 p = N a ∧ 20 ≤ a ∧ a ≤ 70) ∧ ∃ z, C 5 p = N z ∧ z < 2000000000
def ccQn (x : Int32) (C : Nat → Nat → Int32) : Prop := ccQw x C ∧ ccNn C
theorem ccNn_ag {C D : Nat → Nat → Int32} (q₁ : ccAg C D) (q₃ : ccNn C) : ccNn D := fun p y₁ y₂ => by
  rw [q₁.1 2 p (by omega) (by omega) y₁] at y₂
  rw [q₁.1 4 p (by omega) (by omega) y₁, q₁.1 5 p (by omega) (by omega) y₁]
  exact q₃ p y₁ y₂
theorem ccQn_ag {x : Int32} {C D : Nat → Nat → Int32} (q₁ : ccAg C D) (q₃ : ccQn x C) : ccQn x D := ⟨ccQw_ag q₁ q₃.1, ccNn_ag q₁ q₃.2⟩
theorem ccNn_G {C D : Nat → Nat → Int32} {t u : Nat} (h₁ : ccG C D t u) (h₂ : ccNn C) : ccNn D := fun p y₁ y₂ => by
  obtain ⟨g₁, _, _, g₄, g₅⟩ := h₁.1 p
  rcases g₁ with g₁ | g₁
  · rw [g₄, g₅]
    exact h₂ p y₁ (fun y₃ => y₂ (by rw [g₁]; exact y₃))
  · exact absurd g₁ y₂
theorem ccQn_G {x : Int32} {C D : Nat → Nat → Int32} {t u : Nat} (h₁ : ccG C D t u) (h₂ : ccQn x C) : ccQn x D := ⟨ccQw_G h₁ h₂.1, ccNn_G h₁ h₂.2⟩
/-- a castle and a row, as they stand between calls -/
def ccK (w l n : Nat) (x : Int32) (β wt : Nat → Int32) (W : Nat → Nat) (B : Nat) (C : Nat → Nat → Int32) (s : Nat → Int32) : Prop := ∃ h t, ccR ccX0 n β wt h t C s ∧ ccPlc w l C ∧ ccStd C ∧ ccQt W C w l ∧ ccQn x C ∧ t ≤ B
theorem ccK_ag {w l n B : Nat} {x : Int32} {β wt : Nat → Int32} {W : Nat → Nat} {C D : Nat → Nat → Int32} {s u : Nat → Int32} (h₁ : ccK w l n x β wt W B C s) (g₁ : w ≤ 12) (g₂ : l ≤ 8) (g₃ : n ≤ 40) (q₁ : ccAg C D) (q₂ : ccAr s u) : ccK w l n x β wt W B D u := by
  obtain ⟨h, t, r₁, r₂, r₃, r₄, r₅, r₆⟩ := h₁
  exact ⟨h, t, ccR_ag r₁ g₃ q₁ q₂, ccPlc_ag r₂ q₁, ccStd_ag r₃ q₁, ccQt_ag q₁ (ccCd_of r₁.2.1) g₁ g₂ g₃ r₄, ccQn_ag q₁ r₅, r₆⟩
theorem ccK_B {w l n A B : Nat} {x : Int32} {β wt : Nat → Int32} {W : Nat → Nat} {C : Nat → Nat → Int32} {s : Nat → Int32} (h₁ : ccK w l n x β wt W A C s) (h₂ : A ≤ B) : ccK w l n x β wt W B C s := by
  obtain ⟨h, t, r₁, r₂, r₃, r₄, r₅, r₆⟩ := h₁
  exact ⟨h, t, r₁, r₂, r₃, r₄, r₅, by omega⟩
/-- what of castle i is a copy of castle i₂ already -/
def ccHas (m : mMi) (i i₂ : Nat) (m₁ : mMi) (S : Nat → Nat → Prop) : Prop := (∀ f a j p, ¬ (f = 0 ∧ a = i) → m₁ f a j p = m f a j p) ∧ ∀ j p, S j p → m₁ 0 i j p = m 0 i₂ j p
theorem ccHas_0 {m : mMi} {i i₂ : Nat} : ccHas m i i₂ m (fun _ _ => False) := ⟨fun _ _ _ _ _ => rfl, fun _ _ h₁ => h₁.elim⟩
theorem ccHas_c {m m₁ : mMi} {i i₂ j n : Nat} {S : Nat → Nat → Prop} (h₁ : i ≠ i₂) (h₂ : ccHas m i i₂ m₁ S) : ccHas m i i₂ (mcopy m₁ 0 i₂ j 0 0 i j 0 n) (fun j₁ p => S j₁ p ∨ (j₁ = j ∧ p < n)) := by
  refine ⟨fun f a j₁ p g₁ => ?_, fun j₁ p g₁ => ?_⟩
  · rw [ccCopy, if_neg (by omega)]
    exact h₂.1 f a j₁ p g₁
  · rw [ccCopy]
    by_cases g₂ : j₁ = j ∧ p < n
    · rw [if_pos ⟨rfl, rfl, g₂.1, g₂.2⟩, h₂.1 0 i₂ j p (by omega), g₂.1]
    · rw [if_neg (fun g₃ => g₂ ⟨g₃.2.2.1, g₃.2.2.2⟩)]
      exact h₂.2 j₁ p (g₁.resolve_right g₂)
theorem ccHas_s {m m₁ : mMi} {i i₂ j q : Nat} {v : Int32} {S : Nat → Nat → Prop} (h₂ : ccHas m i i₂ m₁ S) (h₃ : v = m 0 i₂ j q) : ccHas m i i₂ (mset m₁ 0 i j q v) (fun j₁ p => S j₁ p ∨ (j₁ = j ∧ p = q)) := by
  refine ⟨fun f a j₁ p g₁ => ?_, fun j₁ p g₁ => ?_⟩
  · rw [ccRd, if_neg (by omega)]
    exact h₂.1 f a j₁ p g₁
  · rw [ccRd]
    by_cases g₂ : j₁ = j ∧ p = q
    · rw [if_pos ⟨rfl, rfl, g₂.1, g₂.2⟩, h₃, g₂.1, g₂.2]
    · rw [if_neg (fun g₃ => g₂ ⟨g₃.2.2.1, g₃.2.2.2⟩)]
      exact h₂.2 j₁ p (g₁.resolve_right g₂)
/-- one castle is copied onto another -/
theorem ccE18 {m : mMi} {i i₂ : Nat} (h₁ : i ≠ i₂) : ∃ m₁, (∀ rs, F18 i i₂ m rs = rV m₁ rs) ∧ (∀ f a j p, ¬ (f = 0 ∧ a = i) → m₁ f a j p = m f a j p) ∧ ccAg (m 0 i₂) (m₁ 0 i) := by
  have s₁ := ccHas_s (v := m 0 i₂ 10 5) (ccHas_c (j := 14) (n := 40) h₁ (ccHas_c (j := 13) (n := 40) h₁ (ccHas_c (j := 12) (n := 40) h₁ (ccHas_c (j := 11) (n := 40) h₁ (ccHas_0 (m := m) (i := i) (i₂ := i₂)))))) (j := 10) (q := 5) rfl
  obtain ⟨m₁, hm₁⟩ : ∃ x, x = mset (mcopy (mcopy (mcopy (mcopy m 0 i₂ 11 0 0 i 11 0 40) 0 i₂ 12 0 0 i 12 0 40) 0 i₂ 13 0 0 i 13 0 40) 0 i₂ 14 0 0 i 14 0 40) 0 i 10 5 (m 0 i₂ 10 5) := ⟨_, rfl⟩
  rw [← hm₁] at s₁
  have s₃ := ccHas_c (j := 6) (n := 96) h₁ (ccHas_c (j := 5) (n := 96) h₁ (ccHas_c (j := 4) (n := 96) h₁ (ccHas_c (j := 3) (n := 96) h₁ (ccHas_c (j := 2) (n := 96) h₁ s₁))))
  obtain ⟨m₂, hm₂⟩ : ∃ x, x = mcopy (mcopy (mcopy (mcopy (mcopy m₁ 0 i₂ 2 0 0 i 2 0 96) 0 i₂ 3 0 0 i 3 0 96) 0 i₂ 4 0 0 i 4 0 96) 0 i₂ 5 0 0 i 5 0 96) 0 i₂ 6 0 0 i 6 0 96 := ⟨_, rfl⟩
  rw [← hm₂] at s₃
  have s₄ := ccHas_s (v := m₂ 0 i₂ 7 2) (j := 7) (q := 2) (ccHas_c (j := 9) (n := 4) h₁ (ccHas_c (j := 8) (n := 150) h₁ s₃)) (s₃.1 0 i₂ 7 2 (by omega))
  obtain ⟨m₃, hm₃⟩ : ∃ x, x = mset (mcopy (mcopy m₂ 0 i₂ 8 0 0 i 8 0 150) 0 i₂ 9 0 0 i 9 0 4) 0 i 7 2 (m₂ 0 i₂ 7 2) := ⟨_, rfl⟩
  rw [← hm₃] at s₄
  have s₅ := ccHas_s (v := m₃ 0 i₂ 0 5) (j := 0) (q := 5) s₄ (s₄.1 0 i₂ 0 5 (by omega))
  obtain ⟨m₄, hm₄⟩ : ∃ x, x = mset m₃ 0 i 0 5 (m₃ 0 i₂ 0 5) := ⟨_, rfl⟩
  rw [← hm₄] at s₅
  have s₆ := ccHas_s (v := m₄ 0 i₂ 0 6) (j := 0) (q := 6) s₅ (s₅.1 0 i₂ 0 6 (by omega))
  refine ⟨mset m₄ 0 i 0 6 (m₄ 0 i₂ 0 6), fun rs => ?_, s₆.1, fun j p g₁ g₂ g₃ => s₆.2 j p ?_, fun p g₁ => s₆.2 8 p ?_, fun p g₁ => s₆.2 9 p ?_, s₆.2 7 2 ?_, fun j p g₁ g₂ g₃ => s₆.2 j p ?_, s₆.2 10 5 ?_, s₆.2 0 5 ?_, s₆.2 0 6 ?_⟩
  · unfold F18
    have e₀ : F3 i i₂ m rs = rV m₁ rs := by rw [hm₁]; rfl
    have e₁ : F53 i i₂ m₁ rs = rV m₂ rs := by rw [hm₂]; rfl
    have e₂ : F44 i i₂ m₂ rs = rV m₃ rs := by rw [hm₃]; rfl
    rw [e₀, ccBv, e₁, ccBv, e₂, ccBv, hm₄]
  all_goals (dsimp only; omega)
