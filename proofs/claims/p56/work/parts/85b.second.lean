/-! LOOKS: the second World stands. -/
theorem kwMM {mi : mMi} {i j n n₂ f₁ i₁ j₁ p₁ : Nat} (h : ¬ (f₁ = 10 + j ∧ i₁ = i)) : mmiM mi i j n n₂ f₁ i₁ j₁ p₁ = mi f₁ i₁ j₁ p₁ := by
  have e : (Nat.beq f₁ (10 + j) && Nat.beq i₁ i && Nat.blt j₁ n && Nat.blt p₁ n₂) = false := by
    rw [Bool.eq_false_iff]
    intro y
    simp only [Bool.and_eq_true] at y
    exact h ⟨Nat.eq_of_beq_eq_true y.1.1.1, Nat.eq_of_beq_eq_true y.1.1.2⟩
  unfold mmiM
  rw [e]
theorem kwMiW {C : Nat} {m : mMi} {f i j p : Nat} (h : ¬ (i = C ∧ (20 ≤ f ∧ f ≤ 25 ∨ f = 6 ∧ 1 ≤ j))) : miW C m f i j p = m f i j p := by
  unfold miW
  rw [kwFlR, if_neg (by omega), kwMM (by omega), kwMM (by omega), kwMM (by omega), kwMM (by omega), kwMM (by omega), kwMM (by omega), kwFlR, if_neg (by omega), kwFlR, if_neg (by omega), kwFlR, if_neg (by omega), kwFlR, if_neg (by omega), kwFlR, if_neg (by omega), kwFlR, if_neg (by omega), kwFlR, if_neg (by omega), kwFlR, if_neg (by omega), kwFlR, if_neg (by omega)]
theorem kwWst {C b : Nat} {r : mRs} : (rsW C r).2.1.1 C = true ∧ (r.2.1.1 b = true → (rsW C r).2.1.1 b = true) := by
  have e : Nat.beq C C = true := Nat.beq_refl _
  constructor
  · unfold rsW
    dsimp only
    rw [e]
  · intro y
    unfold rsW
    dsimp only
    cases Nat.beq C b
    · exact y
    · rfl
/-- a copy of the World -/
theorem kwNew {m : mMi} {r : mRs} {B w l n lm dp cl bd T Z D : Nat} {β : Nat → Int32} {W : Nat → Nat} (q : kwI m r B w l n lm dp cl bd β W T Z D) (ro : kwRo B r) : ∃ M R, nWc B m r = some (r.2.2.1, M, R) ∧ kwRu r.2.2.1 99 1308 r R ∧ kwFk r.2.2.1 m M ∧ R.2.1.1 r.2.2.1 = true ∧ kwNx R ∧ kwS M r.2.2.1 w l n lm dp cl bd ∧ kwG M r.2.2.1 (m 0 0) ∧ kwK ccX0 n M r.2.2.1 (m 0 0) ∧ kwF M r.2.2.1 (m 0 0) ∧ kwW M r.2.2.1 n W ∧ r.2.2.1 + 99 ≤ R.2.2.1 := by
  obtain ⟨C, hC⟩ : ∃ C, C = r.2.2.1 := ⟨_, rfl⟩
  obtain ⟨ro₁, ro₂, ro₃⟩ := ro
  rw [← hC] at ro₁ ro₂ ro₃ ⊢
  have hBC : B ≠ C := by omega
  have hB := q.2.2.2.2
  have b₃ : n ≤ 40 := (kwI_0 q).2.2.2.2.2.2.2.2
  obtain ⟨ss, gg, kk, cd, s₂₀⟩ := kwI_U q
  have ww := (kwI_P q).2.2
  have ff : kwF m B (m 0 0) := by
    obtain ⟨h, t, j₀, c₀⟩ := q.1
    exact j₀.2.2.1.2.2.1
  obtain ⟨m₂, a₁, a₂, a₃⟩ := kwE200 (m := mfill m 6 C 0 22 0) (r := rs0W r) (C := C) hC.symm (by rw [hC]; rfl)
  obtain ⟨r₂, hr₂⟩ : ∃ r₂, r₂ = rsV (rsA (rsO (rs0W r) 14 4) 22 22 22) (C + 1) (C + 2) := ⟨_, rfl⟩
  rw [← hr₂] at a₁ a₂
  have y₁ : r₂.1 = (r.1.1, C) := by rw [hr₂, hC]; rfl
  have y₂ : r₂.2.2.1 = C + 3 := by rw [hr₂, hC]; rfl
  have y₃ : r₂.2.1.1 = r.2.1.1 := by rw [hr₂]; rfl
  have y₄ : r₂.2.2.2.1 = r.2.2.2.1 + 3 := by rw [hr₂]; rfl
  have y₅ : r₂.2.2.2.2 = r.2.2.2.2 + 22 + 4 + 22 := by rw [hr₂]; rfl
  have y₆ : ∀ a, a < C → r₂.2.1.2.1 a = r.2.1.2.1 a ∧ r₂.2.1.2.2 a = r.2.1.2.2 a := fun a y => by
    rw [hr₂]
    constructor
    · show (rsA (rsO (rs0W r) 14 4) 22 22 22).2.1.2.1 a = _
      rw [kwA_lt (by show a < r.2.2.1 + 1 + 1; omega)]
      exact (kwRs_O (r := rs0W r) (ci := 14) (n := 4)).2.2.2.2.2 a (by show a < r.2.2.1 + 1; omega)
    · rw [kwV_n (by omega)]
      show (rsO (rs0W r) 14 4).2.1.2.2 a = _
      rw [kwO_n (by show a ≠ r.2.2.1 + 1; omega)]
      rfl
  obtain ⟨m₃, hm₃⟩ : ∃ M, M = miW C m₂ := ⟨_, rfl⟩
  have f₃ : ∀ f i j p, i < C → m₃ f i j p = m f i j p := fun f i j p y => by
    rw [hm₃, kwMiW (by omega), a₃ f i j p (by omega), kwFlR, if_neg (by omega)]
  have g₃ : m₃ 6 C 0 18 = N 0 := by
    rw [hm₃, kwMiW (by omega), a₃ 6 C 0 18 (by omega), kwFlR, if_pos ⟨rfl, rfl, rfl, by omega⟩]
    rfl
  obtain ⟨r₃, hr₃⟩ : ∃ r₃, r₃ = rsW C r₂ := ⟨_, rfl⟩
  have hC₃ : r₃.2.1.1 C = true := by rw [hr₃]; exact (kwWst (b := C)).1
  have hB₃ : r₃.2.1.1 B = true := by rw [hr₃]; exact kwWst.2 (by rw [y₃]; exact hB)
  obtain ⟨M, k₁, k₂, k₃, k₄, ⟨k₅, k₆, k₇⟩, k₈⟩ := kwE198 (m := m₃) hC₃ hB₃ hBC
  refine ⟨M, r₃, ?_, ⟨?_, fun b y => ?_, ?_, ?_, ?_, fun a y => ?_⟩, fun f a j p _ _ y => by rw [k₈ f a j p (by omega)]; exact f₃ f a j p y, hC₃, fun x y => ?_, ?_, fun L c g₁ g₂ => ?_, fun k y => ?_, ?_, fun k y => ?_, ?_⟩
  · unfold nWc nWm
    rw [← hC, a₁]
    show (@ite _ (0 < C ∧ r₂.1 = (r.1.1, C) ∧ r₂.2.2.1 = C + 3 ∧ r₂.2.1.1 = r.2.1.1) (Classical.propDecidable _) (match H198 C B (miW C m₂) (rsW C r₂) with
      | some (.inl none, m3, r3) => some (C, m3, r3)
      | _ => none) none) = some (C, M, r₃)
    rw [if_pos ⟨by omega, y₁, y₂, y₃⟩, ← hm₃, ← hr₃, k₁]
  · rw [hr₃]
    show r₂.1.1 = r.1.1
    rw [y₁]
  · rw [hr₃]
    exact kwWst.2 (by rw [y₃]; exact y)
  · rw [hr₃]
    show r.2.2.1 ≤ C + 99
    omega
  · rw [hr₃]
    show r₂.2.2.2.1 + 96 ≤ _
    omega
  · rw [hr₃]
    show r₂.2.2.2.2 + 1260 ≤ _
    omega
  · rw [hr₃]
    exact y₆ a y
  · have e₁ : r₃.1 = (r.1.1, C) := by rw [hr₃]; exact y₁
    have e₂ : r₃.2.2.1 = C + 99 := by rw [hr₃]; rfl
    rw [e₁]
    rw [e₂] at y
    exact kwNm2 (by omega) y
  · obtain ⟨s₁, s₂, s₃, s₄, s₅, s₆, s₇, s₈⟩ := ss
    exact ⟨by rw [k₃ 0 (by omega), f₃ 6 B 1 0 (by omega)]; exact s₁, by rw [k₃ 1 (by omega), f₃ 6 B 1 1 (by omega)]; exact s₂, by rw [k₃ 2 (by omega), f₃ 6 B 1 2 (by omega)]; exact s₃, by rw [k₃ 3 (by omega), f₃ 6 B 1 3 (by omega)]; exact s₄, by rw [k₃ 4 (by omega), f₃ 6 B 1 4 (by omega)]; exact s₅, by rw [k₃ 5 (by omega), f₃ 6 B 1 5 (by omega)]; exact s₆, by rw [k₅, f₃ 6 B 0 17 (by omega)]; exact s₇, s₈⟩
  · obtain ⟨z₁, z₂, z₃⟩ := gg L c g₁ g₂
    have cp : ∀ f, 20 ≤ f → f ≤ 24 → M f C L c = m f B L c := fun f u₁ u₂ => by rw [k₂ f L c u₁ u₂ (by omega) (by omega), f₃ f B L c (by omega)]
    rw [cp 20 (by omega) (by omega), cp 21 (by omega) (by omega), cp 22 (by omega) (by omega), cp 23 (by omega) (by omega), cp 24 (by omega) (by omega)]
    exact ⟨z₁, z₂, z₃⟩
  · have cp : ∀ j, 2 ≤ j → j ≤ 6 → M 6 C j k = m 6 B j k := fun j u₁ u₂ => by rw [k₄ j k u₁ u₂ (by omega), f₃ 6 B j k (by omega)]
    have z := kk k y
    unfold kwL at z ⊢
    rw [cp 2 (by omega) (by omega), cp 4 (by omega) (by omega), cp 5 (by omega) (by omega), cp 6 (by omega) (by omega)]
    exact z
  · obtain ⟨z₁, a, h, z₂, z₃, z₄, z₅⟩ := ff
    exact ⟨by rw [k₇, f₃ 6 B 0 20 (by omega)]; exact z₁, 0, h, by rw [k₆]; exact g₃, z₃, by omega, z₅⟩
  · rw [k₄ 3 k (by omega) (by omega) (by omega), f₃ 6 B 3 k (by omega)]
    exact ww k y
  · rw [hr₃]
    exact Nat.le_refl _
