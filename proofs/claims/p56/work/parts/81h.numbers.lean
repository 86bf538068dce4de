/-! THE LAW COMPARES the thirteen numbers. -/
def kwV13 (m : mMi) (B n : Nat) (x2 x3 x4 : Int32) : Nat → Int32
  | 0 => m 6 B 0 17
  | 1 => N (ccCnt (ccHeld (m 0 0)) n)
  | 2 => m 6 B 0 18
  | 3 => x2
  | 4 => x3
  | 5 => m 6 B 0 19
  | 6 => m 6 B 0 20
  | 7 => m 6 B 16 0
  | 8 => m 6 B 16 1
  | 9 => m 6 B 16 2
  | 10 => m 6 B 16 3
  | 11 => m 6 B 0 21
  | _ => x4
theorem kwF733 {m : mMi} {r : mRs} {B w l n lm dp cl bd T Z D h : Nat} {β : Nat → Int32} {W : Nat → Nat} {x2 x3 x4 x5 : Int32} (q : kwI m r B w l n lm dp cl bd β W T Z D) (e₁₈ : m 6 B 0 18 = N h) (bh : h ≤ 40) : ∃ m₁, (∀ f, H240_733 B (f + 1) x2 x3 x4 x5 (N h) m r = H240_873 B r.2.2.1 FU x2 x3 x4 x5 (N 0) m₁ (rsA r 20 13 13)) ∧ (∀ k, k < 13 → m₁ 9 r.2.2.1 0 k = kwV13 m B n x2 x3 x4 k) ∧ ∀ f i j p, ¬ (f = 9 ∧ r.2.2.1 ≤ i) → m₁ f i j p = m f i j p := by
  have hB := q.2.2.2.2
  have nx := q.2.2.2.1
  obtain ⟨s, g, k, cd, _⟩ := kwI_U q
  obtain ⟨M, hM⟩ : ∃ M, M = mfill m 9 r.2.2.1 0 13 0 := ⟨_, rfl⟩
  have oM : ∀ j p, M 6 B j p = m 6 B j p := fun j p => by rw [hM, mfill_ne (by omega)]
  have hA : (rsA r 20 13 13).2.1.1 B = true := hB
  have e₂ : N h ≤ N h := by rw [N_le (by omega) (by omega)]; omega
  obtain ⟨M₀, h₀⟩ : ∃ M₀, M₀ = mset M 9 r.2.2.1 0 0 (m 6 B 0 17) := ⟨_, rfl⟩
  have oM₀ : ∀ j p, M₀ 6 B j p = m 6 B j p := fun j p => by rw [h₀, ccRd, if_neg (by omega), oM]
  have kf : kwK ccX0 n M₀ B (m 0 0) := fun k' y => by
    have z := k k' y
    unfold kwL at z ⊢
    simp only [oM₀]
    exact z
  have sf : kwS M₀ B w l n lm dp cl bd := kwS_st (fun j p _ => oM₀ j p) s
  have e₆ := kwE176 (rs := rsA r 20 13 13) hA sf kf
  refine ⟨mset (mset (mset (mset (mset (mset (mset (mset (mset (mset (mset (mset (M₀) 9 r.2.2.1 0 1 (N (ccCnt (ccHeld (m 0 0)) n))) 9 r.2.2.1 0 2 (m 6 B 0 18)) 9 r.2.2.1 0 3 (x2)) 9 r.2.2.1 0 4 (x3)) 9 r.2.2.1 0 5 (m 6 B 0 19)) 9 r.2.2.1 0 6 (m 6 B 0 20)) 9 r.2.2.1 0 7 (m 6 B 16 0)) 9 r.2.2.1 0 8 (m 6 B 16 1)) 9 r.2.2.1 0 9 (m 6 B 16 2)) 9 r.2.2.1 0 10 (m 6 B 16 3)) 9 r.2.2.1 0 11 (m 6 B 0 21)) 9 r.2.2.1 0 12 (x4), fun f => ?_, fun k hk => ?_, fun f i j p y => ?_⟩
  · rw [kwH733, hB, ccMckT, e₁₈, ccIte, if_pos e₂, kwBn nx (by omega), ← hM]
    simp (disch := omega) only [kwAl, hB, kwIsAx, ccMckT, oM]
    rw [← h₀, e₆, ccBi]
    simp (disch := omega) only [kwAl, hB, kwIsAx, ccMckT, ccMckIn, mix_N, ccRd, if_neg, oM₀, e₁₈]
  · have g' : k = 0 ∨ k = 1 ∨ k = 2 ∨ k = 3 ∨ k = 4 ∨ k = 5 ∨ k = 6 ∨ k = 7 ∨ k = 8 ∨ k = 9 ∨ k = 10 ∨ k = 11 ∨ k = 12 := by omega
    rcases g' with rfl | rfl | rfl | rfl | rfl | rfl | rfl | rfl | rfl | rfl | rfl | rfl | rfl <;> unfold kwV13 <;> simp (disch := omega) only [h₀, ccRd, if_neg, if_pos, Nat.reduceEqDiff, eq_self, true_and, and_true, false_and, and_false, if_true, if_false]
  · rw [ccRd, if_neg (by omega), ccRd, if_neg (by omega), ccRd, if_neg (by omega), ccRd, if_neg (by omega), ccRd, if_neg (by omega), ccRd, if_neg (by omega), ccRd, if_neg (by omega), ccRd, if_neg (by omega), ccRd, if_neg (by omega), ccRd, if_neg (by omega), ccRd, if_neg (by omega), ccRd, if_neg (by omega), h₀, ccRd, if_neg (by omega), hM, mfill_ne (by omega)]
