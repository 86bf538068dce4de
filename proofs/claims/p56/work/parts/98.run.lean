/-! THE LAW, from its entry to its end. -/
theorem kwNm0 {C x : Nat} (h₂ : C + 99 ≤ x) : mNam (0, C) x = (9, x, 0) := by
  have e₁ : Nat.beq x 0 = false := Bool.eq_false_iff.mpr (fun y => absurd (Nat.eq_of_beq_eq_true y) (by omega))
  have e₂ : (Nat.ble C x && Nat.blt x (C + 99)) = false := by
    rw [Bool.eq_false_iff]
    intro y
    rw [Bool.and_eq_true] at y
    have z : x < C + 99 := Nat.le_of_ble_eq_true y.2
    omega
  have e₃ : (Nat.blt 0 0 && (Nat.ble 0 x && Nat.blt x (0 + mAlN))) = false := rfl
  unfold mNam
  rw [e₁]
  dsimp only
  rw [e₂]
  dsimp only
  rw [e₃]
theorem kwMiR {C j k : Nat} {m : mMi} (h : j = 4 ∨ j = 7 ∨ j = 8) (hk : k < 40) : miW C m 6 C j k = N 0 := by
  unfold miW
  rw [kwFlR, if_neg (by omega), kwMM (by omega), kwMM (by omega), kwMM (by omega), kwMM (by omega), kwMM (by omega), kwMM (by omega), kwFlR, if_neg (by omega)]
  rcases h with rfl | rfl | rfl
  · rw [kwFlR, if_neg (by omega), kwFlR, if_neg (by omega), kwFlR, if_neg (by omega), kwFlR, if_neg (by omega), kwFlR, if_pos ⟨rfl, rfl, rfl, hk⟩]
    rfl
  · rw [kwFlR, if_neg (by omega), kwFlR, if_pos ⟨rfl, rfl, rfl, hk⟩]
    rfl
  · rw [kwFlR, if_pos ⟨rfl, rfl, rfl, hk⟩]
    rfl
theorem kwMiC {C u : Nat} {m : mMi} (hu : u < 4) : miW C m 6 C 16 u = N 0 := by
  unfold miW
  rw [kwFlR, if_pos ⟨rfl, rfl, rfl, hu⟩]
  rfl
theorem kwRun {L : Nat} (xs : Nat → Int32) (hL : L < 2147483648) : ∃ A hf, WP 40 245 0 (mEntry 245 [mR 3 0 0]) [] (hs0 A L xs) (fun r h' => r = .inl (some (.inl 1)) ∧ h' = hf) ∧ mCt hf ≤ 300000 ∧ mSl hf ≤ 6000000 := by
  obtain ⟨M₂, a₁, a₂, a₃⟩ := kwE200 (m := mfill (mfill (mMi0 xs) 7 0 0 2 0) 6 1 0 22 0) (r := rs0W ((0, 0), mDy0, 1, 1, 2)) (C := 1) rfl rfl
  obtain ⟨r₂, hr₂⟩ : ∃ r₂, r₂ = rsV (rsA (rsO (rs0W ((0, 0), mDy0, 1, 1, 2)) 14 4) 22 22 22) (1 + 1) (1 + 2) := ⟨_, rfl⟩
  rw [← hr₂] at a₁ a₂
  have q₂ : r₂.1 = (0, 1) := by rw [hr₂]; rfl
  have n₂ : r₂.2.2.1 = 4 := by rw [hr₂]; rfl
  have c₂ : r₂.2.2.2.1 = 4 := by rw [hr₂]; rfl
  have s₂ : r₂.2.2.2.2 = 50 := by rw [hr₂]; rfl
  have al₂ : r₂.2.1.1 = mDy0.1 := by rw [hr₂]; rfl
  obtain ⟨m, hm⟩ : ∃ m, m = miW 1 M₂ := ⟨_, rfl⟩
  obtain ⟨r, hr⟩ : ∃ r, r = rsW 1 r₂ := ⟨_, rfl⟩
  have q : r.1 = (0, 1) := by rw [hr]; exact q₂
  have nr : r.2.2.1 = 100 := by rw [hr]; rfl
  have cr : r.2.2.2.1 = 100 := by
    rw [hr]
    show r₂.2.2.2.1 + 96 = 100
    rw [c₂]
  have sr : r.2.2.2.2 = 1310 := by
    rw [hr]
    show r₂.2.2.2.2 + 1260 = 1310
    rw [s₂]
  have m₀ : ∀ f i j p, ¬ (i = 1 ∧ (20 ≤ f ∧ f ≤ 25 ∨ f = 6 ∧ 1 ≤ j)) → ¬ (f = 9 ∧ 2 ≤ i) → m f i j p = mfill (mfill (mMi0 xs) 7 0 0 2 0) 6 1 0 22 0 f i j p := fun f i j p y₁ y₂ => by
    rw [hm, kwMiW y₁, a₃ f i j p y₂]
  have m₁ : ∀ f i j p, ¬ (i = 1 ∧ (20 ≤ f ∧ f ≤ 25 ∨ f = 6)) → ¬ (f = 9 ∧ 2 ≤ i) → ¬ (f = 7) → m f i j p = mMi0 xs f i j p := fun f i j p y₁ y₂ y₃ => by
    rw [m₀ f i j p (by omega) y₂, kwFlR, if_neg (by omega), kwFlR, if_neg (by omega)]
  have bu : kwB 2 m r 2 22 [116, 97, 98, 108, 101, 32] := by
    obtain ⟨v, ⟨p₁, p₂, p₃, p₄, p₅⟩, k₁, k₂, k₃, d₁, d₂, l₁, l₂, y₁, y₂⟩ := a₂
    exact ⟨v, ⟨p₁, by omega, p₃, by omega, p₅⟩, by rw [hr]; exact k₁, by rw [hr]; exact k₂, by rw [hr]; exact k₃, by rw [hm, kwMiW (by omega)]; exact d₁, by rw [hm, kwMiW (by omega)]; exact d₂, l₁, l₂, fun k y => by rw [hm, kwMiW (by omega)]; exact y₁ k y, fun k y => by rw [hm, kwMiW (by omega)]; exact y₂ k y⟩
  have nx : kwNx r := fun x y => by
    rw [q]
    exact kwNm0 (by omega)
  have al : r.2.1.1 1 = true := by
    rw [hr]
    exact (kwWst (C := 1) (b := 1) (r := r₂)).1
  have dg : kwDg m := fun k y => ⟨by rw [m₁ 3 4 0 k (by omega) (by omega) (by omega)]; rfl, by rw [m₁ 3 5 0 k (by omega) (by omega) (by omega)]; rfl⟩
  have dr : m 7 0 0 1 = N 0 := by
    rw [m₀ 7 0 0 1 (by omega) (by omega), kwFlR, if_neg (by omega), kwFlR, if_pos ⟨rfl, rfl, rfl, by omega⟩]
    rfl
  have zz : ∀ p, p < 22 → m 6 1 0 p = N 0 := fun p y => by
    rw [m₀ 6 1 0 p (by omega) (by omega), kwFlR, if_pos ⟨rfl, rfl, rfl, y⟩]
    rfl
  have v : kwVv 1 0 r 0 [116, 97, 98, 108, 101, 32] m r := ⟨⟨⟨22, bu⟩, nx, kwRs_le kwRs_rfl (by omega) (by omega), kwOp_rfl, rfl⟩, al, dg, 0, dr, by omega⟩
  obtain ⟨w, l, n, lm, dp, cl, bd, z, W, os, M, R, hb, hz, e, ⟨⟨⟨cap, bu'⟩, _, rs', _, al'⟩, _, dg', dr'⟩, hl, wd, fw⟩ := kwWorld (L := L) v (by omega) hL ⟨zz 17 (by omega), zz 18 (by omega), zz 19 (by omega), zz 20 (by omega), zz 21 (by omega)⟩ (fun j k y₁ y₂ => by rw [hm]; exact kwMiR y₁ y₂) (fun u y => by rw [hm]; exact kwMiC y)
  obtain ⟨A, hA⟩ : ∃ A, A = R.2.2.1 := ⟨_, rfl⟩
  have hA₁ : 100 ≤ A := by
    have := rs'.2.2.1
    omega
  have qR : R.1 = (0, 1) := by rw [rs'.1]; exact q
  have alR : R.2.1.1 1 = true := by rw [al']; exact al
  have sw₁ : H200 (1 + 1) 12 (mfill (mfill (mfill (mMi0 xs) 7 0 0 2 0) 6 1 0 22 0) 9 (1 + 1) 0 4 0) (rsO (rs0W ((A, 0), mDy0, 1, 1, 2)) 14 4) = some (.inl none, M₂, kwSx A r₂) := ((kwN_H200 A _ _) _ _ _ a₁).2 (by omega)
  have sw₂ : H172 L 1 (miW 1 M₂) (rsW 1 (kwSx A r₂)) = some (.inl none, M, kwSx A R) := by
    have y := ((kwN_H172 A m r) _ _ _ e).2 (by omega)
    rw [hm, hr] at y
    exact y
  have fm : ∀ f i j p, f < 3 → M f i j p = 0 := fun f i j p y => by
    rw [fw f i j p (by omega) (by omega) (by omega) (by omega), m₁ f i j p (by omega) (by omega) (by omega)]
    have y₁ : Nat.beq f 3 = false := mBeqF (by omega)
    unfold mMi0
    rw [y₁]
  obtain ⟨m', hm'⟩ : ∃ m', m' = mset M 2 3 0 4 (I (-1)) := ⟨_, rfl⟩
  obtain ⟨r', hr'⟩ : ∃ r' : mRs, r' = ((A, 1), R.2.1, A + 219, R.2.2.2.1 + 219, R.2.2.2.2 + 12234) := ⟨_, rfl⟩
  have fm' : ∀ f i j p, ¬ (f = 2 ∧ i = 3) → m' f i j p = M f i j p := fun f i j p y => by rw [hm', ccRd, if_neg (by omega)]
  have e0 : (0 : Int32) = N 0 := rfl
  have bu₂ : kwB 2 m' r' (1 + 1) cap (kwText (kwSg w l lm dp cl bd) z W n os) := by
    obtain ⟨v, ⟨p₁, p₂, p₃, p₄, p₅⟩, k₁, k₂, k₃, d₁, d₂, l₁, l₂, y₁, y₂⟩ := bu'
    have e₁ : r'.2.2.1 = A + 219 := by rw [hr']
    exact ⟨v, ⟨p₁, by omega, p₃, by omega, p₅⟩, by rw [hr']; exact k₁, by rw [hr']; exact k₂, by rw [hr']; exact k₃, by rw [fm' 9 _ 0 1 (by omega)]; exact d₁, by rw [fm' 9 _ 0 3 (by omega)]; exact d₂, l₁, l₂, fun k y => by rw [fm' 9 _ 0 k (by omega)]; exact y₁ k y, fun k y => by rw [fm' 9 _ 0 k (by omega)]; exact y₂ k y⟩
  have mm : ∀ f i j p, f = 3 → m' f i j p = mMi0 xs f i j p := fun f i j p y => by
    rw [fm' f i j p (by omega), fw f i j p (by omega) (by omega) (by omega) (by omega), m₁ f i j p (by omega) (by omega) (by omega)]
  have lim : ccLim m' := fun u y => by
    rw [mm 3 1 0 u rfl, mm 3 2 0 u rfl]
    have g : u = 0 ∨ u = 1 ∨ u = 2 ∨ u = 3 ∨ u = 4 ∨ u = 5 := by omega
    rcases g with rfl | rfl | rfl | rfl | rfl | rfl <;> exact ⟨rfl, rfl⟩
  have z₂ : ∀ i j p, i ≠ 3 → m' 2 i j p = N 0 := fun i j p y => by
    rw [fm' 2 i j p (by omega), fm 2 i j p (by omega)]
    rfl
  obtain ⟨M', R', f₁, f₂, f₃⟩ := kwLaw (L := L) (B := 1) (n₀ := 2) (cap := cap) (m := m') (r := r') (Mw := M) hL bu₂ hl (fun x y => by
    rw [hr'] at y ⊢
    exact kwNm2 y (by
      have y : A + 219 ≤ x := y
      omega)) (by rw [hr']; exact alR) (by
    rw [hr']
    refine ⟨Nat.le_refl _, ?_, ?_⟩
    · show 1 < A + 219
      omega
    · show 10 ≤ A + 219
      omega) (z₂ 0 0 10 (by omega)) (z₂ 5 0 1 (by omega)) (z₂ 5 0 2 (by omega)) (z₂ 7 0 1 (by omega)) (z₂ 1 0 1 (by omega)) lim (fun k y => by rw [fm' 3 4 0 k (by omega), fm' 3 5 0 k (by omega)]; exact dg' k y) (by
    obtain ⟨i, i₁, i₂⟩ := dr'
    exact ⟨i, by rw [fm' 7 0 0 1 (by omega)]; exact i₁, i₂⟩) hb hz wd (fun f j p y => fm' f 1 j p (by omega))
  have eR : kwSx A R = ((A, 1), R.2.1, A, R.2.2.2.1, R.2.2.2.2) := by
    unfold kwSx
    rw [qR, hA]
  refine ⟨A, hq (true, L, none) M' R', ?_, ?_, ?_⟩
  · refine kwG1 (D := 39) ?_
    refine kwG2 (D := 38) (rs := ((A, 0), mDy0, 1, 1, 2)) (by show 0 < 1; omega) sw₁ ?_ ?_ ?_ sw₂ (by omega) ?_
    · show (A, r₂.1.2) = (A, 1)
      rw [q₂]
    · show r₂.2.2.1 = 1 + 3
      rw [n₂]
    · exact al₂
    rw [eR]
    refine kwG3 (D := 36) (by omega) (fun f i j p y _ => fm f i j p y) (fm 2 3 0 4 (by omega)) ?_
    rw [← hm', ← hr']
    exact RH245 1 L m' r' 39 _ (by omega) _ f₁ ⟨rfl, rfl⟩
  · show R'.2.2.2.1 ≤ 300000
    have y₁ := rs'.2.2.2.1
    have y₂ : r'.2.2.2.1 = R.2.2.2.1 + 219 := by rw [hr']
    omega
  · show R'.2.2.2.2 ≤ 6000000
    have y₁ := rs'.2.2.2.2.1
    have y₂ : r'.2.2.2.2 = R.2.2.2.2 + 12234 := by rw [hr']
    omega
