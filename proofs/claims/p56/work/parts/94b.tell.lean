/-! THE WORLD'S TEXT IS TOLD, and the class loads it. -/
theorem kwTell {m mw₀ mwK Mw : mMi} {r : mRs} {n₀ a B w l n lm dp cl bd : Nat} {z W : Nat → Nat} {os : List (Nat × Nat × Nat × Nat × Nat × Nat)} (st : kwStr n₀ m r a (kwText (kwSg w l lm dp cl bd) z W n os)) (nx : kwNx r) (hl : (kwText (kwSg w l lm dp cl bd) z W n os).length ≤ 490) (in₀ : m 2 1 0 1 = N 0) (lim : ccLim m) (hb : 2 ≤ w ∧ w ≤ 12 ∧ 1 ≤ l ∧ l ≤ 8 ∧ 1 ≤ lm ∧ lm ≤ 99 ∧ dp ≤ 9 ∧ cl ≤ 20 ∧ bd ≤ 8 ∧ n ≤ 20 ∧ os.length ≤ 14) (hz : ∀ k, k < n → 1 ≤ z k ∧ z k ≤ 9 ∧ 1 ≤ W k ∧ W k ≤ 9) (s : kwS mw₀ B w l n lm dp cl bd) (ew : kwEw mw₀ B n z W) (ops : kwOps B w l n os mw₀ mwK) (hr : r.2.1.1 B = true) (set : H185 B mwK r = rV Mw r) (rows : ∀ f j p, f = 6 ∨ (20 ≤ f ∧ f ≤ 25) → m f B j p = Mw f B j p) (kp : m 2 5 0 2 = N 0) : ∃ M R, H236 a m r = rI (N n) M R ∧ kwT M B w l n lm dp cl bd (fun k => N (z k)) W 192 ∧ kwZ M 0 ∧ kwNms M n ∧ M 2 3 0 3 = N 0 ∧ M 2 3 0 4 = I (-1) ∧ kwRs 25 125 r R ∧ ∀ f u j q, f ≠ 0 → f ≠ 1 → f ≠ 2 → f ≠ 9 → M f u j q = m f u j q := by
  obtain ⟨t, ht⟩ : ∃ t, t = kwText (kwSg w l lm dp cl bd) z W n os := ⟨_, rfl⟩
  rw [← ht] at st hl
  obtain ⟨M₁, R, e, a₁, a₂, a₃, a₄, a₅, a₆, a₇, a₈⟩ := kwFd2 (a₁ := a) (by omega) 25 0 0 (N 0) m r st nx (by omega) (by omega) in₀ (fun k y => by omega)
  have st₁ : kwStr n₀ M₁ R a t := kwStr_k st (fun u j p y => a₈ 9 u j p (by omega) (by omega)) a₆.2.2.1 a₆.2.2.2.2.2 (fun b _ => by rw [a₇])
  have hc : ∀ k, k < t.length → t.getD k 0 < 128 := by
    obtain ⟨v, hv⟩ := st
    exact hv.2.2.2.2.2.2.1
  have ko : R.2.1.2.1 a = some (15, 0) := by
    obtain ⟨v, hv⟩ := st₁
    exact hv.2.1
  have bt : ccBt M₁ e (kwCc t) := ⟨a₃, a₄, fun k y => by
    have y₁ := kwCc_b hc k
    refine ⟨by omega, ?_⟩
    rw [a₅ k y, ccSg_lo y₁]⟩
  have tl : kwTl (kwCc t) t.length 0 (kwText (kwSg w l lm dp cl bd) z W n os) := by
    rw [← ht]
    refine ⟨by omega, fun i y => ?_⟩
    rw [Nat.zero_add]
    unfold kwCc
    rw [if_pos y]
  have lim₁ : ccLim M₁ := fun i y => by
    rw [a₈ 3 1 0 i (by omega) (by omega), a₈ 3 2 0 i (by omega) (by omega)]
    exact lim i y
  obtain ⟨M, b₁, b₂, b₃, b₄, b₅, b₆, b₇⟩ := kwFwLd (r := r) (Mw := Mw) bt a₂ lim₁ tl hb hz s ew ops hr set (fun f j p y => by rw [a₈ f B j p (by omega) (by omega)]; exact rows f j p y) (by rw [a₈ 2 5 0 2 (by omega) (by omega)]; exact kp)
  refine ⟨M, R, ?_, b₂, b₃, b₄, b₅, b₆, a₆, fun f u j q y₁ y₂ y₃ y₄ => by rw [b₇ f u j q y₁ y₂ y₃, a₈ f u j q (by omega) (by omega)]⟩
  obtain ⟨f, hf⟩ := ccFU (k := 22 * 25) (by omega)
  unfold H236 H237
  rw [hf, a₁, ccBi, ccIte, if_neg (show ¬ N 1 = N 0 by decide), kwObj ko, kwE223 st₁, ccBi, b₁, ccBi]
