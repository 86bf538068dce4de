/-! THE LAW BEGINS: calls that are refused while nothing is loaded. -/
theorem kwKv {m : mMi} {r : mRs} {B E c : Nat} {x₁ : Int32} {F : Int32 → mMi → mRs → mRz} (hc : ∀ (n : Nat) (m : mMi) (r : mRs), H239 n (N c) m r = mckO (mIsInt (r.2.1.2.1 n) (N 0)) (bI (F (m 9 n 0 0) m r) (fun v m r => some (.inl (some (mL (Int32.toInt64 v))), m, r)))) (nx : kwNx r) (hB : r.2.1.1 B = true) (hE : E = 1 ∨ E = 2 ∨ E = 3) (H : ∀ M R, (∀ f i j p, f ≠ 9 → M f i j p = m f i j p) → F x₁ M R = rX E M (rsT R)) : ∃ M R, kwRs 3 22 r R ∧ (∀ f i j p, ¬ (f = 9 ∧ r.2.2.1 ≤ i) → M f i j p = m f i j p) ∧ (∀ b, R.2.1.2.2 b = r.2.1.2.2 b) ∧ ∀ K : Int32 → mMi → mRs → mRz, bN 20 (N 1) m r (fun n m r => mckO (r.2.1.1 B) (mckO (mIsArr (r.2.1.2.1 n) 20 (N 0)) (bI (H238 n (N c) (mset m 9 n 0 0 x₁) r) K))) = K (N E) M R := by
  have e₀ : (rsA r 20 1 1).2.2.1 = r.2.2.1 + 1 := rfl
  have e₈ : H238 r.2.2.1 (N c) (mset (mfill m 9 r.2.2.1 0 1 0) 9 r.2.2.1 0 0 x₁) (rsA r 20 1 1) = rI (N E) (kwAr (mset (mfill m 9 r.2.2.1 0 1 0) 9 r.2.2.1 0 0 x₁) (rsA r 20 1 1) r.2.2.1 1) (rsT (rsA (rsA r 20 1 1) 20 5 5)) := by
    refine kwThr (kwNx_k kwRs_A nx) kwA_kd (by omega) (by omega) hE ?_
    have g0 : (kwAr (mset (mfill m 9 r.2.2.1 0 1 0) 9 r.2.2.1 0 0 x₁) (rsA r 20 1 1) r.2.2.1 1) 9 (rsA r 20 1 1).2.2.1 0 0 = x₁ := by
      rw [kwAr_i (by omega) (by omega) (by omega)]
      simp (disch := omega) only [ccRd, if_neg, if_pos, Nat.reduceEqDiff, eq_self, true_and, and_true, false_and, and_false, if_true, if_false]
    rw [hc]
    simp (disch := omega) only [kwInt, ccMckT, g0]
    rw [H _ _ (fun f i j p y => by
      rw [kwAr_o (by omega)]
      rw [ccRd, if_neg (by omega), mfill_ne (by omega)])]
    rfl
  refine ⟨(kwAr (mset (mfill m 9 r.2.2.1 0 1 0) 9 r.2.2.1 0 0 x₁) (rsA r 20 1 1) r.2.2.1 1), rsT (rsA (rsA r 20 1 1) 20 5 5), kwRs_le (kwRs_trans kwRs_A (kwRs_trans kwRs_A kwRs_T)) (by omega) (by omega), fun f i j p y => ?_, fun _ => rfl, fun K => ?_⟩
  · rw [kwAr_o (by omega)]
    rw [ccRd, if_neg (by omega), mfill_ne (by omega)]
  · rw [kwBn nx (by omega)]
    simp (disch := omega) only [kwAl, hB, kwIsA, ccMckT, e₈, ccBi]
theorem kwK22v {m : mMi} {r : mRs} {B E : Nat} (nx : kwNx r) (hB : r.2.1.1 B = true) (hE : E = 1 ∨ E = 2 ∨ E = 3) (H : ∀ M R, (∀ f i j p, f ≠ 9 → M f i j p = m f i j p) → F167 M R = rX E M (rsT R)) : ∃ M R, kwRs 3 22 r R ∧ (∀ f i j p, ¬ (f = 9 ∧ r.2.2.1 ≤ i) → M f i j p = m f i j p) ∧ (∀ b, R.2.1.2.2 b = r.2.1.2.2 b) ∧ ∀ K : Int32 → mMi → mRs → mRz, bN 20 (N 0) m r (fun n m r => mckO (r.2.1.1 B) (bI (H238 n (N 22) m r) K)) = K (N E) M R := by
  have e₀ : (rsA r 20 0 0).2.2.1 = r.2.2.1 + 1 := rfl
  have e₈ : H238 r.2.2.1 (N 22) (mfill m 9 r.2.2.1 0 0 0) (rsA r 20 0 0) = rI (N E) (kwAr (mfill m 9 r.2.2.1 0 0 0) (rsA r 20 0 0) r.2.2.1 0) (rsT (rsA (rsA r 20 0 0) 20 5 5)) := by
    refine kwThr (kwNx_k kwRs_A nx) kwA_kd (by omega) (by omega) hE ?_
    rw [kwH239_22]
    rw [H _ _ (fun f i j p y => by
      rw [kwAr_o (by omega)]
      rw [mfill_ne (by omega)])]
    rfl
  refine ⟨(kwAr (mfill m 9 r.2.2.1 0 0 0) (rsA r 20 0 0) r.2.2.1 0), rsT (rsA (rsA r 20 0 0) 20 5 5), kwRs_le (kwRs_trans kwRs_A (kwRs_trans kwRs_A kwRs_T)) (by omega) (by omega), fun f i j p y => ?_, fun _ => rfl, fun K => ?_⟩
  · rw [kwAr_o (by omega)]
    rw [mfill_ne (by omega)]
  · rw [kwBn nx (by omega)]
    simp (disch := omega) only [kwAl, hB, kwIsA, ccMckT, e₈, ccBi]
/-- a text at work stands through what keeps the cells before -/
theorem kwB_v {n₀ k s a cap : Nat} {m M : mMi} {r R : mRs} {t : List Nat} (h : kwB n₀ m r a cap t) (h₁ : kwRs k s r R) (h₂ : ∀ f i j p, ¬ (f = 9 ∧ r.2.2.1 ≤ i) → M f i j p = m f i j p) (h₃ : ∀ b, R.2.1.2.2 b = r.2.1.2.2 b) : kwB n₀ M R a cap t := by
  obtain ⟨v, ⟨p₁, p₂, p₃, p₄, p₅⟩, k₁, k₂, k₃, c₁, c₂, l₁, l₂, y₁, y₂⟩ := h
  have g := h₁.2.2.1
  have o := h₁.2.2.2.2.2
  exact ⟨v, ⟨p₁, by omega, p₃, by omega, p₅⟩, by rw [o a p₂]; exact k₁, by rw [h₃]; exact k₂, by rw [o v p₄]; exact k₃, by rw [h₂ 9 a 0 1 (by omega)]; exact c₁, by rw [h₂ 9 a 0 3 (by omega)]; exact c₂, l₁, l₂, fun k y => by rw [h₂ 9 v 0 k (by omega)]; exact y₁ k y, fun k y => by rw [h₂ 9 v 0 k (by omega)]; exact y₂ k y⟩
/-- the law from the World and the new object on -/
theorem kwLaw {L n₀ cap B w l n lm dp cl bd : Nat} {z W : Nat → Nat} {os : List (Nat × Nat × Nat × Nat × Nat × Nat)} {m Mw : mMi} {r : mRs} (hL : L < 2147483648) (bu : kwB n₀ m r (B + 1) cap (kwText (kwSg w l lm dp cl bd) z W n os)) (hl : (kwText (kwSg w l lm dp cl bd) z W n os).length ≤ 490) (nx : kwNx r) (hB : r.2.1.1 B = true) (ro : kwRo B r) (l₀ : m 2 0 0 10 = N 0) (k₁ : m 2 5 0 1 = N 0) (k₂ : m 2 5 0 2 = N 0) (t₀ : m 2 7 0 1 = N 0) (in₀ : m 2 1 0 1 = N 0) (lim : ccLim m) (dg : kwDg m) (dr : ∃ i, m 7 0 0 1 = N i ∧ i ≤ 200) (hb : 2 ≤ w ∧ w ≤ 12 ∧ 1 ≤ l ∧ l ≤ 8 ∧ 1 ≤ lm ∧ lm ≤ 99 ∧ dp ≤ 9 ∧ cl ≤ 20 ∧ bd ≤ 8 ∧ n ≤ 20 ∧ os.length ≤ 14) (hz : ∀ k, k < n → 1 ≤ z k ∧ z k ≤ 9 ∧ 1 ≤ W k ∧ W k ≤ 9) (wd : kwWd B w l n lm dp cl bd z W os Mw) (rows : ∀ f j p, f = 6 ∨ (20 ≤ f ∧ f ≤ 25) → m f B j p = Mw f B j p) : ∃ M R, H245 L B m r = rI (N 1) M R ∧ R.2.2.2.1 ≤ r.2.2.2.1 + 140000 ∧ R.2.2.2.2 ≤ r.2.2.2.2 + 4200000 := by
  obtain ⟨mw₀, mwK, s, ew, ops, set⟩ := wd
  obtain ⟨M₁, R₁, a₁, a₂, a₃, a₄⟩ := kwKv (m := m) (B := B) (E := 1) (x₁ := N 0) (fun _ _ _ => kwH239_0) nx hB (by omega) (fun M R y => by
    show bV (F114 M R) _ = _
    rw [ccE114f (by rw [y 2 0 0 10 (by omega)]; exact l₀), ccBvX])
  have nx₁ := kwNx_k a₁ nx
  have hB₁ := kwRs_B a₁ hB
  obtain ⟨M₂, R₂, b₁, b₂, b₃, b₄⟩ := kwKv (m := M₁) (B := B) (E := 1) (x₁ := N 1) (fun _ _ _ => kwH239_19) nx₁ hB₁ (by omega) (fun M R y => by
    show bV (F114 M R) _ = _
    rw [ccE114f (by rw [y 2 0 0 10 (by omega), a₂ 2 0 0 10 (by omega)]; exact l₀), ccBvX])
  have nx₂ := kwNx_k b₁ nx₁
  have hB₂ := kwRs_B b₁ hB₁
  obtain ⟨M₃, R₃, c₁, c₂, c₃, c₄⟩ := kwK22v (m := M₂) (B := B) (E := 1) nx₂ hB₂ (by omega) (fun M R y => by
    have e : M 2 5 0 1 = N 0 := by rw [y 2 5 0 1 (by omega), b₂ 2 5 0 1 (by omega), a₂ 2 5 0 1 (by omega)]; exact k₁
    unfold F167
    rw [e, ccIte, if_pos (show N 0 ≤ N 0 by decide), ccE115f, ccBvX])
  have nx₃ := kwNx_k c₁ nx₂
  have hB₃ := kwRs_B c₁ hB₂
  obtain ⟨M₄, R₄, d₁, d₂, d₃, d₄⟩ := kwKv (m := M₃) (B := B) (E := 2) (x₁ := N 0) (fun _ _ _ => kwH239_11) nx₃ hB₃ (by omega) (fun M R y => by
    have e : M 2 7 0 1 = N 0 := by rw [y 2 7 0 1 (by omega), c₂ 2 7 0 1 (by omega), b₂ 2 7 0 1 (by omega), a₂ 2 7 0 1 (by omega)]; exact t₀
    unfold F156
    rw [e, ccE106 (by omega) (by omega), if_neg (by omega), ccBvX])
  have nx₄ := kwNx_k d₁ nx₃
  have hB₄ := kwRs_B d₁ hB₃
  obtain ⟨M₅, R₅, e₁, e₂, e₃, e₄⟩ := kwKv (m := M₄) (B := B) (E := 1) (x₁ := N 0) (fun _ _ _ => kwH239_26) nx₄ hB₄ (by omega) (fun M R y => by
    show bV (F114 M R) _ = _
    rw [ccE114f (by rw [y 2 0 0 10 (by omega), d₂ 2 0 0 10 (by omega), c₂ 2 0 0 10 (by omega), b₂ 2 0 0 10 (by omega), a₂ 2 0 0 10 (by omega)]; exact l₀), ccBvX])
  have nx₅ := kwNx_k e₁ nx₄
  have hB₅ := kwRs_B e₁ hB₄
  have fr : ∀ f i j p, ¬ (f = 9 ∧ r.2.2.1 ≤ i) → M₅ f i j p = m f i j p := fun f i j p y => by
    have y₁ := a₁.2.2.1
    have y₂ := b₁.2.2.1
    have y₃ := c₁.2.2.1
    have y₄ := d₁.2.2.1
    rw [e₂ f i j p (by omega), d₂ f i j p (by omega), c₂ f i j p (by omega), b₂ f i j p (by omega), a₂ f i j p y]
  have rs₅ := kwRs_trans a₁ (kwRs_trans b₁ (kwRs_trans c₁ (kwRs_trans d₁ e₁)))
  have bu₅ : kwB n₀ M₅ R₅ (B + 1) cap (kwText (kwSg w l lm dp cl bd) z W n os) := kwB_v (kwB_v (kwB_v (kwB_v (kwB_v bu a₁ a₂ a₃) b₁ b₂ b₃) c₁ c₂ c₃) d₁ d₂ d₃) e₁ e₂ e₃
  have ko : R₅.2.1.2.1 (B + 1) = some (14, 0) := by
    obtain ⟨v, hv⟩ := bu₅
    exact hv.2.1
  obtain ⟨M₆, R₆, f₁, f₂, f₃, f₄⟩ := kwE204 bu₅ nx₅
  have nx₆ := kwNx_k f₃ nx₅
  have hB₆ := kwRs_B f₃ hB₅
  have fr₆ : ∀ f i j p, f ≠ 9 → M₆ f i j p = m f i j p := fun f i j p y => by rw [f₄.1 f i j p (by omega), fr f i j p (by omega)]
  obtain ⟨M₇, R₇, g₁, g₂, g₃, g₄, g₅, g₆, g₇, g₈⟩ := kwTell f₂ nx₆ hl (by rw [fr₆ 2 1 0 1 (by omega)]; exact in₀) (fun i y => by rw [fr₆ 3 1 0 i (by omega), fr₆ 3 2 0 i (by omega)]; exact lim i y) hb hz s ew ops hB₆ (set R₆ hB₆) (fun f j p y => by rw [fr₆ f B j p (by omega)]; exact rows f j p y) (by rw [fr₆ 2 5 0 2 (by omega)]; exact k₂)
  have nx₇ := kwNx_k g₇ nx₆
  have hB₇ := kwRs_B g₇ hB₆
  have al : ∀ f i j p, f ≠ 0 → f ≠ 1 → f ≠ 2 → f ≠ 9 → M₇ f i j p = m f i j p := fun f i j p y₁ y₂ y₃ y₄ => by rw [g₈ f i j p y₁ y₂ y₃ y₄, fr₆ f i j p y₄]
  have I₇ : kwI M₇ R₇ B w l n lm dp cl bd (fun k => N (z k)) W 192 0 200 := ⟨g₂, g₃, by rw [al 7 0 0 1 (by omega) (by omega) (by omega) (by omega)]; exact dr, nx₇, hB₇⟩
  have nn : M₇ 6 B 0 17 = N n := by
    obtain ⟨_, _, q, _⟩ := g₂
    exact q.2.1.2.2.2.2.2.2.1
  have rs₇ := kwRs_trans rs₅ (kwRs_trans f₃ g₇)
  obtain ⟨M₈, R₈, h₁, h₂, h₃, h₄⟩ := kwLike I₇ (by omega)
  obtain ⟨i, i₁, i₂⟩ := h₁.2.2.1
  obtain ⟨d, j₁, j₂, j₃⟩ := kwE171 (L := L) (r := R₈) (lo := 1) (hi := 12) i₁ (by omega) hL (by omega) (by omega)
  obtain ⟨M₉, hM₉⟩ : ∃ M₉, M₉ = mset M₈ 7 0 0 1 (N (i + 1)) := ⟨_, rfl⟩
  have f₉ : ∀ f a j p, f ≠ 7 → M₉ f a j p = M₈ f a j p := fun f a j p y => by rw [hM₉, ccRd, if_neg (by omega)]
  have I₉ : kwI M₉ R₈ B w l n lm dp cl bd (fun k => N (z k)) W 192 0 201 := ⟨kwT_cg h₁.1 (by funext j p; exact f₉ 0 0 j p (by omega)) (fun j p => f₉ 1 0 j p (by omega)) (f₉ 2 0 0 10 (by omega)) (fun p => f₉ 2 5 0 p (by omega)) (fun f j p y => f₉ f B j p (by omega)), by
    obtain ⟨u, u₁, u₂⟩ := h₁.2.1
    exact ⟨u, by rw [f₉ 0 0 0 5 (by omega)]; exact u₁, u₂⟩, ⟨i + 1, by rw [hM₉, ccRd, if_pos ⟨rfl, rfl, rfl, rfl⟩], by omega⟩, h₁.2.2.2.1, h₁.2.2.2.2⟩
  have rs₈ := kwRs_trans rs₇ h₂
  have ro₈ : kwRo B R₈ := ⟨by rw [rs₈.1]; have := rs₈.2.2.1; have := ro.1; omega, by have := rs₈.2.2.1; have := ro.2.1; omega, by have := rs₈.2.2.1; have := ro.2.2; omega⟩
  have kn : kwKn M₉ n := ⟨⟨g₄.1, fun k y => by rw [f₉ 1 0 2 k (by omega), h₃ 1 0 2 k (by omega) (by omega)]; exact g₄.2 k y⟩, fun k y => by
    rw [f₉ 3 4 0 k (by omega), f₉ 3 5 0 k (by omega), h₃ 3 4 0 k (by omega) (by omega), h₃ 3 5 0 k (by omega) (by omega), al 3 4 0 k (by omega) (by omega) (by omega) (by omega), al 3 5 0 k (by omega) (by omega) (by omega) (by omega)]
    exact dg k y⟩
  obtain ⟨M, R, o₁, o₂⟩ := kwRounds hL d M₉ R₈ 192 0 201 j₂ I₉ ro₈ kn (by omega) (by omega) (by omega)
  obtain ⟨f, hf⟩ := ccFU (k := 5 * d) (by omega)
  have e1 : (I (-1) : Int32) ≠ I (-1) → False := fun y => y rfl
  refine ⟨M, R, ?_, ?_, ?_⟩
  · unfold H245
    rw [hB, ccMckT, a₄, hB₁, ccMckT, ccIte, if_neg (fun y => y rfl), b₄, hB₂, ccMckT, ccIte, if_neg (fun y => y rfl), c₄, hB₃, ccMckT, ccIte, if_neg (fun y => y rfl), d₄, hB₄, ccMckT, ccIte, if_neg (fun y => y rfl), e₄, hB₅, ccMckT, ccIte, if_neg (fun y => y rfl)]
    have z₁ : F103 M₅ R₅ = rI (N 0) M₅ R₅ := by
      unfold F103
      rw [fr 2 5 0 1 (by omega), k₁]
    have z₂ : F100 M₇ R₇ = rI (N 0) M₇ R₇ := by
      unfold F100
      rw [g₅]
    have z₃ : F101 M₇ R₇ = rI (I (-1)) M₇ R₇ := by
      unfold F101
      rw [g₆]
    have hB₈ := h₁.2.2.2.2
    rw [z₁, ccBi, hB₅, ccMckT, ccIte, if_pos rfl, kwObj ko, f₁, kwBr, hB₆, ccMckT, g₁, ccBi, hB₇, ccMckT, nn, ccIte, if_neg (fun y => y rfl), z₂, ccBi, hB₇, ccMckT, ccIte, if_neg (fun y => y rfl), z₃, ccBi, hB₇, ccMckT, ccIte, if_neg (fun y => y rfl), h₄, ccBi, hB₈, ccMckT, ccIte, if_pos (show N 1 ≠ N 0 by decide), j₃, ccBi, hB₈, ccMckT, ← hM₉, hf, o₂]
  · have y₁ := rs₈.2.2.2.1
    have y₂ := o₁
    unfold kwCt at y₂
    omega
  · have y₁ := rs₈.2.2.2.2.1
    have y₂ := o₁
    unfold kwCt at y₂
    have y₃ : (kwText (kwSg w l lm dp cl bd) z W n os).length ≤ 490 := hl
    omega
