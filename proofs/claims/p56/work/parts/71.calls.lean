/-! CALLS THAT ARE REFUSED, as the law makes them. -/
theorem kwSpan {s S : Nat} (h₁ : s ≤ S) (h₂ : S ≤ 5) : mSpan (some (20, S)) (N 0) (Int32.ofNat s) = true := by
  have e₁ : (0 : Int32) = N 0 := rfl
  have e₂ : Int32.ofNat s = N s := rfl
  have e₃ : ¬ N s < N 0 := by rw [N_lt (by omega) (by omega)]; omega
  have e₄ : ¬ N 0 < N 0 := by rw [N_lt (by omega) (by omega)]; omega
  unfold mSpan
  rw [e₁, e₂, decide_eq_false e₃, decide_eq_false e₄, mix_N (by omega), mix_N (by omega)]
  show (!false && !false && Nat.ble (0 + s) S) = true
  rw [Nat.ble_eq_true_of_le (by omega : 0 + s ≤ S)]
  rfl
theorem kwOrT {a : Bool} : (a || (true && true)) = true := by
  cases a <;> rfl
def kwAr (m : mMi) (r : mRs) (a s : Nat) : mMi := mcopy (mfill m 9 r.2.2.1 0 5 0) 9 a 0 (mix (N 0)) 9 r.2.2.1 0 (mix (N 0)) (mix (Int32.ofNat s))
theorem kwAr_o {m : mMi} {r : mRs} {a s f i j p : Nat} (h₁ : ¬ (f = 9 ∧ i = r.2.2.1)) : kwAr m r a s f i j p = m f i j p := by
  unfold kwAr
  rw [mcopy_ne (fun y => h₁ ⟨y.1, y.2.1⟩), mfill_ne (fun y => h₁ ⟨y.1, y.2.1⟩)]
theorem kwAr_i {m : mMi} {r : mRs} {a s k : Nat} (h₁ : k < s) (h₂ : s ≤ 5) (h₃ : a ≠ r.2.2.1) : kwAr m r a s 9 r.2.2.1 0 k = m 9 a 0 k := by
  have e₂ : Int32.ofNat s = N s := rfl
  unfold kwAr
  rw [e₂, mix_N (by omega), mix_N (by omega), mcopy_at, mfill_ne (fun y => h₃ y.2.1)]
  unfold va_cpy
  rw [if_pos (by omega)]
  congr 1
  omega
theorem kwInt {r : mRs} {k : Nat} (h₁ : k < 5) : mIsInt ((rsA r 20 5 5).2.1.2.1 r.2.2.1) (N k) = true := by
  rw [kwA_kd]
  show mIn (N k) 5 = true
  exact mIn_N h₁ (by omega)
theorem kwIsA {r : mRs} {k s : Nat} (h₁ : k < s) (h₂ : s ≤ 5) : mIsArr ((rsA r 20 s s).2.1.2.1 r.2.2.1) 20 (N k) = true := by
  rw [kwA_kd]
  show (Nat.beq 20 20 && mIn (N k) s) = true
  rw [mIn_N h₁ (by omega)]
  rfl
theorem kwAl {r : mRs} {kd n s : Nat} : (rsA r kd n s).2.1.1 = r.2.1.1 := rfl
theorem kwThr {m : mMi} {r : mRs} {a s c E : Nat} (nx : kwNx r) (ha : r.2.1.2.1 a = some (20, s)) (lt : a < r.2.2.1) (hs : s ≤ 5) (hE : E = 1 ∨ E = 2 ∨ E = 3) (H : H239 r.2.2.1 (N c) (kwAr m r a s) (rsA r 20 5 5) = some (.inr E, kwAr m r a s, rsT (rsA r 20 5 5))) : H238 a (N c) m r = rI (N E) (kwAr m r a s) (rsT (rsA r 20 5 5)) := by
  have e₁ : (rsA r 20 5 5).2.1.2.1 a = some (20, s) := Eq.trans ((kwRs_A (r := r) (kd := 20) (n := 5) (s := 5)).2.2.2.2.2 a lt) ha
  have e₂ : (rsA r 20 5 5).2.1.2.1 r.2.2.1 = some (20, 5) := kwA_kd
  unfold H238
  rw [kwBn nx (by omega)]
  unfold mLnO
  rw [e₁]
  dsimp only
  show mckO true _ = _
  rw [ccMckT, e₂, kwSpan (Nat.le_refl s) hs, kwSpan hs (Nat.le_refl 5), kwOrT, ccMckT]
  unfold kwAr at H ⊢
  rw [H]
  rcases hE with rfl | rfl | rfl <;> rfl
theorem kwH239_0 {n : Nat} {m : mMi} {r : mRs} : H239 n (N 0) m r = mckO (mIsInt (r.2.1.2.1 n) (N 0)) (bI (F116 (m 9 n 0 0) m r) (fun v27 m27 r27 => some (.inl (some (mL (Int32.toInt64 v27))), m27, r27))) := rfl
theorem kwX0 {m : mMi} {r : mRs} {E : Nat} {x₁ : Int32} (nx : kwNx r) (hE : E = 1 ∨ E = 2 ∨ E = 3) (H : ∀ M R, (∀ f i j p, f ≠ 9 → M f i j p = m f i j p) → F116 x₁ M R = rX E M (rsT R)) : ∃ M R, kwRs 3 22 r R ∧ (∀ f i j p, ¬ (f = 9 ∧ r.2.2.1 ≤ i) → M f i j p = m f i j p) ∧ H238 r.2.2.1 (N 0) (mset (mfill m 9 r.2.2.1 0 1 0) 9 r.2.2.1 0 0 x₁) (rsA r 20 1 1) = rI (N E) M R := by
  have e₀ : (rsA r 20 1 1).2.2.1 = r.2.2.1 + 1 := rfl
  refine ⟨(kwAr (mset (mfill m 9 r.2.2.1 0 1 0) 9 r.2.2.1 0 0 x₁) (rsA r 20 1 1) r.2.2.1 1), rsT (rsA (rsA r 20 1 1) 20 5 5), kwRs_le (kwRs_trans kwRs_A (kwRs_trans kwRs_A kwRs_T)) (by omega) (by omega), fun f i j p y => ?_, ?_⟩
  · rw [kwAr_o (by omega)]
    rw [ccRd, if_neg (by omega), mfill_ne (by omega)]
  · refine kwThr (kwNx_k kwRs_A nx) kwA_kd (by omega) (by omega) hE ?_
    have g0 : (kwAr (mset (mfill m 9 r.2.2.1 0 1 0) 9 r.2.2.1 0 0 x₁) (rsA r 20 1 1) r.2.2.1 1) 9 (rsA r 20 1 1).2.2.1 0 0 = x₁ := by
      rw [kwAr_i (by omega) (by omega) (by omega)]
      simp (disch := omega) only [ccRd, if_neg, if_pos, Nat.reduceEqDiff, eq_self, true_and, and_true, false_and, and_false, if_true, if_false]
    rw [kwH239_0]
    simp (disch := omega) only [kwInt, ccMckT, g0]
    rw [H _ _ (fun f i j p y => by
      rw [kwAr_o (by omega)]
      rw [ccRd, if_neg (by omega), mfill_ne (by omega)])]
    rfl
theorem kwK0 {m : mMi} {r : mRs} {B E : Nat} {x₁ : Int32} (nx : kwNx r) (hB : r.2.1.1 B = true) (hE : E = 1 ∨ E = 2 ∨ E = 3) (H : ∀ M R, (∀ f i j p, f ≠ 9 → M f i j p = m f i j p) → F116 x₁ M R = rX E M (rsT R)) : ∃ M R, kwRs 3 22 r R ∧ (∀ f i j p, ¬ (f = 9 ∧ r.2.2.1 ≤ i) → M f i j p = m f i j p) ∧ ∀ K : Int32 → mMi → mRs → mRz, bN 20 (N 1) m r (fun n m2 r2 => mckO (r2.2.1.1 B) (mckO (mIsArr (r2.2.1.2.1 n) 20 (N 0)) (bI (H238 n (N 0) (mset m2 9 n 0 0 x₁) r2) K))) = K (N E) M R := by
  obtain ⟨M, R, g₁, g₂, e₈⟩ := kwX0 nx hE H
  refine ⟨M, R, g₁, g₂, fun K => ?_⟩
  rw [kwBn nx (by omega)]
  simp (disch := omega) only [kwAl, hB, kwIsA, ccMckT, e₈, ccBi]
theorem kwH239_1 {n : Nat} {m : mMi} {r : mRs} : H239 n (N 1) m r = mckO (mIsInt (r.2.1.2.1 n) (N 0)) (bI (F118 (m 9 n 0 0) m r) (fun v26 m26 r26 => some (.inl (some (mL (Int32.toInt64 v26))), m26, r26))) := rfl
theorem kwX1 {m : mMi} {r : mRs} {E : Nat} {x₁ : Int32} (nx : kwNx r) (hE : E = 1 ∨ E = 2 ∨ E = 3) (H : ∀ M R, (∀ f i j p, f ≠ 9 → M f i j p = m f i j p) → F118 x₁ M R = rX E M (rsT R)) : ∃ M R, kwRs 3 22 r R ∧ (∀ f i j p, ¬ (f = 9 ∧ r.2.2.1 ≤ i) → M f i j p = m f i j p) ∧ H238 r.2.2.1 (N 1) (mset (mfill m 9 r.2.2.1 0 1 0) 9 r.2.2.1 0 0 x₁) (rsA r 20 1 1) = rI (N E) M R := by
  have e₀ : (rsA r 20 1 1).2.2.1 = r.2.2.1 + 1 := rfl
  refine ⟨(kwAr (mset (mfill m 9 r.2.2.1 0 1 0) 9 r.2.2.1 0 0 x₁) (rsA r 20 1 1) r.2.2.1 1), rsT (rsA (rsA r 20 1 1) 20 5 5), kwRs_le (kwRs_trans kwRs_A (kwRs_trans kwRs_A kwRs_T)) (by omega) (by omega), fun f i j p y => ?_, ?_⟩
  · rw [kwAr_o (by omega)]
    rw [ccRd, if_neg (by omega), mfill_ne (by omega)]
  · refine kwThr (kwNx_k kwRs_A nx) kwA_kd (by omega) (by omega) hE ?_
    have g0 : (kwAr (mset (mfill m 9 r.2.2.1 0 1 0) 9 r.2.2.1 0 0 x₁) (rsA r 20 1 1) r.2.2.1 1) 9 (rsA r 20 1 1).2.2.1 0 0 = x₁ := by
      rw [kwAr_i (by omega) (by omega) (by omega)]
      simp (disch := omega) only [ccRd, if_neg, if_pos, Nat.reduceEqDiff, eq_self, true_and, and_true, false_and, and_false, if_true, if_false]
    rw [kwH239_1]
    simp (disch := omega) only [kwInt, ccMckT, g0]
    rw [H _ _ (fun f i j p y => by
      rw [kwAr_o (by omega)]
      rw [ccRd, if_neg (by omega), mfill_ne (by omega)])]
    rfl
theorem kwK1 {m : mMi} {r : mRs} {B E : Nat} {x₁ : Int32} (nx : kwNx r) (hB : r.2.1.1 B = true) (hE : E = 1 ∨ E = 2 ∨ E = 3) (H : ∀ M R, (∀ f i j p, f ≠ 9 → M f i j p = m f i j p) → F118 x₁ M R = rX E M (rsT R)) : ∃ M R, kwRs 3 22 r R ∧ (∀ f i j p, ¬ (f = 9 ∧ r.2.2.1 ≤ i) → M f i j p = m f i j p) ∧ ∀ K : Int32 → mMi → mRs → mRz, bN 20 (N 1) m r (fun n m2 r2 => mckO (r2.2.1.1 B) (mckO (mIsArr (r2.2.1.2.1 n) 20 (N 0)) (bI (H238 n (N 1) (mset m2 9 n 0 0 x₁) r2) K))) = K (N E) M R := by
  obtain ⟨M, R, g₁, g₂, e₈⟩ := kwX1 nx hE H
  refine ⟨M, R, g₁, g₂, fun K => ?_⟩
  rw [kwBn nx (by omega)]
  simp (disch := omega) only [kwAl, hB, kwIsA, ccMckT, e₈, ccBi]
theorem kwH239_2 {n : Nat} {m : mMi} {r : mRs} : H239 n (N 2) m r = mckO (mIsInt (r.2.1.2.1 n) (N 0)) (mckO (mIsInt (r.2.1.2.1 n) (N 1)) (bI (F119 (m 9 n 0 0) (m 9 n 0 1) m r) (fun v25 m25 r25 => some (.inl (some (mL (Int32.toInt64 v25))), m25, r25)))) := rfl
theorem kwX2 {m : mMi} {r : mRs} {E : Nat} {x₁ x₂ : Int32} (nx : kwNx r) (hE : E = 1 ∨ E = 2 ∨ E = 3) (H : ∀ M R, (∀ f i j p, f ≠ 9 → M f i j p = m f i j p) → F119 x₁ x₂ M R = rX E M (rsT R)) : ∃ M R, kwRs 3 22 r R ∧ (∀ f i j p, ¬ (f = 9 ∧ r.2.2.1 ≤ i) → M f i j p = m f i j p) ∧ H238 r.2.2.1 (N 2) (mset (mset (mfill m 9 r.2.2.1 0 2 0) 9 r.2.2.1 0 0 x₁) 9 r.2.2.1 0 1 x₂) (rsA r 20 2 2) = rI (N E) M R := by
  have e₀ : (rsA r 20 2 2).2.2.1 = r.2.2.1 + 1 := rfl
  refine ⟨(kwAr (mset (mset (mfill m 9 r.2.2.1 0 2 0) 9 r.2.2.1 0 0 x₁) 9 r.2.2.1 0 1 x₂) (rsA r 20 2 2) r.2.2.1 2), rsT (rsA (rsA r 20 2 2) 20 5 5), kwRs_le (kwRs_trans kwRs_A (kwRs_trans kwRs_A kwRs_T)) (by omega) (by omega), fun f i j p y => ?_, ?_⟩
  · rw [kwAr_o (by omega)]
    rw [ccRd, if_neg (by omega), ccRd, if_neg (by omega), mfill_ne (by omega)]
  · refine kwThr (kwNx_k kwRs_A nx) kwA_kd (by omega) (by omega) hE ?_
    have g0 : (kwAr (mset (mset (mfill m 9 r.2.2.1 0 2 0) 9 r.2.2.1 0 0 x₁) 9 r.2.2.1 0 1 x₂) (rsA r 20 2 2) r.2.2.1 2) 9 (rsA r 20 2 2).2.2.1 0 0 = x₁ := by
      rw [kwAr_i (by omega) (by omega) (by omega)]
      simp (disch := omega) only [ccRd, if_neg, if_pos, Nat.reduceEqDiff, eq_self, true_and, and_true, false_and, and_false, if_true, if_false]
    have g1 : (kwAr (mset (mset (mfill m 9 r.2.2.1 0 2 0) 9 r.2.2.1 0 0 x₁) 9 r.2.2.1 0 1 x₂) (rsA r 20 2 2) r.2.2.1 2) 9 (rsA r 20 2 2).2.2.1 0 1 = x₂ := by
      rw [kwAr_i (by omega) (by omega) (by omega)]
      simp (disch := omega) only [ccRd, if_neg, if_pos, Nat.reduceEqDiff, eq_self, true_and, and_true, false_and, and_false, if_true, if_false]
    rw [kwH239_2]
    simp (disch := omega) only [kwInt, ccMckT, g0, g1]
    rw [H _ _ (fun f i j p y => by
      rw [kwAr_o (by omega)]
      rw [ccRd, if_neg (by omega), ccRd, if_neg (by omega), mfill_ne (by omega)])]
    rfl
theorem kwK2 {m : mMi} {r : mRs} {B E : Nat} {x₁ x₂ : Int32} (nx : kwNx r) (hB : r.2.1.1 B = true) (hE : E = 1 ∨ E = 2 ∨ E = 3) (H : ∀ M R, (∀ f i j p, f ≠ 9 → M f i j p = m f i j p) → F119 x₁ x₂ M R = rX E M (rsT R)) : ∃ M R, kwRs 3 22 r R ∧ (∀ f i j p, ¬ (f = 9 ∧ r.2.2.1 ≤ i) → M f i j p = m f i j p) ∧ ∀ K : Int32 → mMi → mRs → mRz, bN 20 (N 2) m r (fun n m2 r2 => mckO (r2.2.1.1 B) (mckO (mIsArr (r2.2.1.2.1 n) 20 (N 0)) (mckO (mIsArr (r2.2.1.2.1 n) 20 (N 1)) (bI (H238 n (N 2) (mset (mset m2 9 n 0 0 x₁) 9 n 0 1 x₂) r2) K)))) = K (N E) M R := by
  obtain ⟨M, R, g₁, g₂, e₈⟩ := kwX2 nx hE H
  refine ⟨M, R, g₁, g₂, fun K => ?_⟩
  rw [kwBn nx (by omega)]
  simp (disch := omega) only [kwAl, hB, kwIsA, ccMckT, e₈, ccBi]
theorem kwH239_3 {n : Nat} {m : mMi} {r : mRs} : H239 n (N 3) m r = mckO (mIsInt (r.2.1.2.1 n) (N 0)) (mckO (mIsInt (r.2.1.2.1 n) (N 1)) (mckO (mIsInt (r.2.1.2.1 n) (N 2)) (bI (F121 (m 9 n 0 0) (m 9 n 0 1) (m 9 n 0 2) m r) (fun v24 m24 r24 => some (.inl (some (mL (Int32.toInt64 v24))), m24, r24))))) := rfl
theorem kwX3 {m : mMi} {r : mRs} {E : Nat} {x₁ x₂ x₃ : Int32} (nx : kwNx r) (hE : E = 1 ∨ E = 2 ∨ E = 3) (H : ∀ M R, (∀ f i j p, f ≠ 9 → M f i j p = m f i j p) → F121 x₁ x₂ x₃ M R = rX E M (rsT R)) : ∃ M R, kwRs 3 22 r R ∧ (∀ f i j p, ¬ (f = 9 ∧ r.2.2.1 ≤ i) → M f i j p = m f i j p) ∧ H238 r.2.2.1 (N 3) (mset (mset (mset (mfill m 9 r.2.2.1 0 3 0) 9 r.2.2.1 0 0 x₁) 9 r.2.2.1 0 1 x₂) 9 r.2.2.1 0 2 x₃) (rsA r 20 3 3) = rI (N E) M R := by
  have e₀ : (rsA r 20 3 3).2.2.1 = r.2.2.1 + 1 := rfl
  refine ⟨(kwAr (mset (mset (mset (mfill m 9 r.2.2.1 0 3 0) 9 r.2.2.1 0 0 x₁) 9 r.2.2.1 0 1 x₂) 9 r.2.2.1 0 2 x₃) (rsA r 20 3 3) r.2.2.1 3), rsT (rsA (rsA r 20 3 3) 20 5 5), kwRs_le (kwRs_trans kwRs_A (kwRs_trans kwRs_A kwRs_T)) (by omega) (by omega), fun f i j p y => ?_, ?_⟩
  · rw [kwAr_o (by omega)]
    rw [ccRd, if_neg (by omega), ccRd, if_neg (by omega), ccRd, if_neg (by omega), mfill_ne (by omega)]
  · refine kwThr (kwNx_k kwRs_A nx) kwA_kd (by omega) (by omega) hE ?_
    have g0 : (kwAr (mset (mset (mset (mfill m 9 r.2.2.1 0 3 0) 9 r.2.2.1 0 0 x₁) 9 r.2.2.1 0 1 x₂) 9 r.2.2.1 0 2 x₃) (rsA r 20 3 3) r.2.2.1 3) 9 (rsA r 20 3 3).2.2.1 0 0 = x₁ := by
      rw [kwAr_i (by omega) (by omega) (by omega)]
      simp (disch := omega) only [ccRd, if_neg, if_pos, Nat.reduceEqDiff, eq_self, true_and, and_true, false_and, and_false, if_true, if_false]
    have g1 : (kwAr (mset (mset (mset (mfill m 9 r.2.2.1 0 3 0) 9 r.2.2.1 0 0 x₁) 9 r.2.2.1 0 1 x₂) 9 r.2.2.1 0 2 x₃) (rsA r 20 3 3) r.2.2.1 3) 9 (rsA r 20 3 3).2.2.1 0 1 = x₂ := by
      rw [kwAr_i (by omega) (by omega) (by omega)]
      simp (disch := omega) only [ccRd, if_neg, if_pos, Nat.reduceEqDiff, eq_self, true_and, and_true, false_and, and_false, if_true, if_false]
    have g2 : (kwAr (mset (mset (mset (mfill m 9 r.2.2.1 0 3 0) 9 r.2.2.1 0 0 x₁) 9 r.2.2.1 0 1 x₂) 9 r.2.2.1 0 2 x₃) (rsA r 20 3 3) r.2.2.1 3) 9 (rsA r 20 3 3).2.2.1 0 2 = x₃ := by
      rw [kwAr_i (by omega) (by omega) (by omega)]
      simp (disch := omega) only [ccRd, if_neg, if_pos, Nat.reduceEqDiff, eq_self, true_and, and_true, false_and, and_false, if_true, if_false]
    rw [kwH239_3]
    simp (disch := omega) only [kwInt, ccMckT, g0, g1, g2]
    rw [H _ _ (fun f i j p y => by
      rw [kwAr_o (by omega)]
      rw [ccRd, if_neg (by omega), ccRd, if_neg (by omega), ccRd, if_neg (by omega), mfill_ne (by omega)])]
    rfl
theorem kwK3 {m : mMi} {r : mRs} {B E : Nat} {x₁ x₂ x₃ : Int32} (nx : kwNx r) (hB : r.2.1.1 B = true) (hE : E = 1 ∨ E = 2 ∨ E = 3) (H : ∀ M R, (∀ f i j p, f ≠ 9 → M f i j p = m f i j p) → F121 x₁ x₂ x₃ M R = rX E M (rsT R)) : ∃ M R, kwRs 3 22 r R ∧ (∀ f i j p, ¬ (f = 9 ∧ r.2.2.1 ≤ i) → M f i j p = m f i j p) ∧ ∀ K : Int32 → mMi → mRs → mRz, bN 20 (N 3) m r (fun n m2 r2 => mckO (r2.2.1.1 B) (mckO (mIsArr (r2.2.1.2.1 n) 20 (N 0)) (mckO (mIsArr (r2.2.1.2.1 n) 20 (N 1)) (mckO (mIsArr (r2.2.1.2.1 n) 20 (N 2)) (bI (H238 n (N 3) (mset (mset (mset m2 9 n 0 0 x₁) 9 n 0 1 x₂) 9 n 0 2 x₃) r2) K))))) = K (N E) M R := by
  obtain ⟨M, R, g₁, g₂, e₈⟩ := kwX3 nx hE H
  refine ⟨M, R, g₁, g₂, fun K => ?_⟩
  rw [kwBn nx (by omega)]
  simp (disch := omega) only [kwAl, hB, kwIsA, ccMckT, e₈, ccBi]
theorem kwH239_4 {n : Nat} {m : mMi} {r : mRs} : H239 n (N 4) m r = mckO (mIsInt (r.2.1.2.1 n) (N 0)) (mckO (mIsInt (r.2.1.2.1 n) (N 1)) (mckO (mIsInt (r.2.1.2.1 n) (N 2)) (bI (F123 (m 9 n 0 0) (m 9 n 0 1) (m 9 n 0 2) m r) (fun v23 m23 r23 => some (.inl (some (mL (Int32.toInt64 v23))), m23, r23))))) := rfl
theorem kwX4 {m : mMi} {r : mRs} {E : Nat} {x₁ x₂ x₃ : Int32} (nx : kwNx r) (hE : E = 1 ∨ E = 2 ∨ E = 3) (H : ∀ M R, (∀ f i j p, f ≠ 9 → M f i j p = m f i j p) → F123 x₁ x₂ x₃ M R = rX E M (rsT R)) : ∃ M R, kwRs 3 22 r R ∧ (∀ f i j p, ¬ (f = 9 ∧ r.2.2.1 ≤ i) → M f i j p = m f i j p) ∧ H238 r.2.2.1 (N 4) (mset (mset (mset (mfill m 9 r.2.2.1 0 3 0) 9 r.2.2.1 0 0 x₁) 9 r.2.2.1 0 1 x₂) 9 r.2.2.1 0 2 x₃) (rsA r 20 3 3) = rI (N E) M R := by
  have e₀ : (rsA r 20 3 3).2.2.1 = r.2.2.1 + 1 := rfl
  refine ⟨(kwAr (mset (mset (mset (mfill m 9 r.2.2.1 0 3 0) 9 r.2.2.1 0 0 x₁) 9 r.2.2.1 0 1 x₂) 9 r.2.2.1 0 2 x₃) (rsA r 20 3 3) r.2.2.1 3), rsT (rsA (rsA r 20 3 3) 20 5 5), kwRs_le (kwRs_trans kwRs_A (kwRs_trans kwRs_A kwRs_T)) (by omega) (by omega), fun f i j p y => ?_, ?_⟩
  · rw [kwAr_o (by omega)]
    rw [ccRd, if_neg (by omega), ccRd, if_neg (by omega), ccRd, if_neg (by omega), mfill_ne (by omega)]
  · refine kwThr (kwNx_k kwRs_A nx) kwA_kd (by omega) (by omega) hE ?_
    have g0 : (kwAr (mset (mset (mset (mfill m 9 r.2.2.1 0 3 0) 9 r.2.2.1 0 0 x₁) 9 r.2.2.1 0 1 x₂) 9 r.2.2.1 0 2 x₃) (rsA r 20 3 3) r.2.2.1 3) 9 (rsA r 20 3 3).2.2.1 0 0 = x₁ := by
      rw [kwAr_i (by omega) (by omega) (by omega)]
      simp (disch := omega) only [ccRd, if_neg, if_pos, Nat.reduceEqDiff, eq_self, true_and, and_true, false_and, and_false, if_true, if_false]
    have g1 : (kwAr (mset (mset (mset (mfill m 9 r.2.2.1 0 3 0) 9 r.2.2.1 0 0 x₁) 9 r.2.2.1 0 1 x₂) 9 r.2.2.1 0 2 x₃) (rsA r 20 3 3) r.2.2.1 3) 9 (rsA r 20 3 3).2.2.1 0 1 = x₂ := by
      rw [kwAr_i (by omega) (by omega) (by omega)]
      simp (disch := omega) only [ccRd, if_neg, if_pos, Nat.reduceEqDiff, eq_self, true_and, and_true, false_and, and_false, if_true, if_false]
    have g2 : (kwAr (mset (mset (mset (mfill m 9 r.2.2.1 0 3 0) 9 r.2.2.1 0 0 x₁) 9 r.2.2.1 0 1 x₂) 9 r.2.2.1 0 2 x₃) (rsA r 20 3 3) r.2.2.1 3) 9 (rsA r 20 3 3).2.2.1 0 2 = x₃ := by
      rw [kwAr_i (by omega) (by omega) (by omega)]
      simp (disch := omega) only [ccRd, if_neg, if_pos, Nat.reduceEqDiff, eq_self, true_and, and_true, false_and, and_false, if_true, if_false]
    rw [kwH239_4]
    simp (disch := omega) only [kwInt, ccMckT, g0, g1, g2]
    rw [H _ _ (fun f i j p y => by
      rw [kwAr_o (by omega)]
      rw [ccRd, if_neg (by omega), ccRd, if_neg (by omega), ccRd, if_neg (by omega), mfill_ne (by omega)])]
    rfl
theorem kwK4 {m : mMi} {r : mRs} {B E : Nat} {x₁ x₂ x₃ : Int32} (nx : kwNx r) (hB : r.2.1.1 B = true) (hE : E = 1 ∨ E = 2 ∨ E = 3) (H : ∀ M R, (∀ f i j p, f ≠ 9 → M f i j p = m f i j p) → F123 x₁ x₂ x₃ M R = rX E M (rsT R)) : ∃ M R, kwRs 3 22 r R ∧ (∀ f i j p, ¬ (f = 9 ∧ r.2.2.1 ≤ i) → M f i j p = m f i j p) ∧ ∀ K : Int32 → mMi → mRs → mRz, bN 20 (N 3) m r (fun n m2 r2 => mckO (r2.2.1.1 B) (mckO (mIsArr (r2.2.1.2.1 n) 20 (N 0)) (mckO (mIsArr (r2.2.1.2.1 n) 20 (N 1)) (mckO (mIsArr (r2.2.1.2.1 n) 20 (N 2)) (bI (H238 n (N 4) (mset (mset (mset m2 9 n 0 0 x₁) 9 n 0 1 x₂) 9 n 0 2 x₃) r2) K))))) = K (N E) M R := by
  obtain ⟨M, R, g₁, g₂, e₈⟩ := kwX4 nx hE H
  refine ⟨M, R, g₁, g₂, fun K => ?_⟩
  rw [kwBn nx (by omega)]
  simp (disch := omega) only [kwAl, hB, kwIsA, ccMckT, e₈, ccBi]
theorem kwH239_5 {n : Nat} {m : mMi} {r : mRs} : H239 n (N 5) m r = mckO (mIsInt (r.2.1.2.1 n) (N 0)) (mckO (mIsInt (r.2.1.2.1 n) (N 1)) (bI (F124 (m 9 n 0 0) (m 9 n 0 1) m r) (fun v22 m22 r22 => some (.inl (some (mL (Int32.toInt64 v22))), m22, r22)))) := rfl
theorem kwX5 {m : mMi} {r : mRs} {E : Nat} {x₁ x₂ : Int32} (nx : kwNx r) (hE : E = 1 ∨ E = 2 ∨ E = 3) (H : ∀ M R, (∀ f i j p, f ≠ 9 → M f i j p = m f i j p) → F124 x₁ x₂ M R = rX E M (rsT R)) : ∃ M R, kwRs 3 22 r R ∧ (∀ f i j p, ¬ (f = 9 ∧ r.2.2.1 ≤ i) → M f i j p = m f i j p) ∧ H238 r.2.2.1 (N 5) (mset (mset (mfill m 9 r.2.2.1 0 2 0) 9 r.2.2.1 0 0 x₁) 9 r.2.2.1 0 1 x₂) (rsA r 20 2 2) = rI (N E) M R := by
  have e₀ : (rsA r 20 2 2).2.2.1 = r.2.2.1 + 1 := rfl
  refine ⟨(kwAr (mset (mset (mfill m 9 r.2.2.1 0 2 0) 9 r.2.2.1 0 0 x₁) 9 r.2.2.1 0 1 x₂) (rsA r 20 2 2) r.2.2.1 2), rsT (rsA (rsA r 20 2 2) 20 5 5), kwRs_le (kwRs_trans kwRs_A (kwRs_trans kwRs_A kwRs_T)) (by omega) (by omega), fun f i j p y => ?_, ?_⟩
  · rw [kwAr_o (by omega)]
    rw [ccRd, if_neg (by omega), ccRd, if_neg (by omega), mfill_ne (by omega)]
  · refine kwThr (kwNx_k kwRs_A nx) kwA_kd (by omega) (by omega) hE ?_
    have g0 : (kwAr (mset (mset (mfill m 9 r.2.2.1 0 2 0) 9 r.2.2.1 0 0 x₁) 9 r.2.2.1 0 1 x₂) (rsA r 20 2 2) r.2.2.1 2) 9 (rsA r 20 2 2).2.2.1 0 0 = x₁ := by
      rw [kwAr_i (by omega) (by omega) (by omega)]
      simp (disch := omega) only [ccRd, if_neg, if_pos, Nat.reduceEqDiff, eq_self, true_and, and_true, false_and, and_false, if_true, if_false]
    have g1 : (kwAr (mset (mset (mfill m 9 r.2.2.1 0 2 0) 9 r.2.2.1 0 0 x₁) 9 r.2.2.1 0 1 x₂) (rsA r 20 2 2) r.2.2.1 2) 9 (rsA r 20 2 2).2.2.1 0 1 = x₂ := by
      rw [kwAr_i (by omega) (by omega) (by omega)]
      simp (disch := omega) only [ccRd, if_neg, if_pos, Nat.reduceEqDiff, eq_self, true_and, and_true, false_and, and_false, if_true, if_false]
    rw [kwH239_5]
    simp (disch := omega) only [kwInt, ccMckT, g0, g1]
    rw [H _ _ (fun f i j p y => by
      rw [kwAr_o (by omega)]
      rw [ccRd, if_neg (by omega), ccRd, if_neg (by omega), mfill_ne (by omega)])]
    rfl
theorem kwK5 {m : mMi} {r : mRs} {B E : Nat} {x₁ x₂ : Int32} (nx : kwNx r) (hB : r.2.1.1 B = true) (hE : E = 1 ∨ E = 2 ∨ E = 3) (H : ∀ M R, (∀ f i j p, f ≠ 9 → M f i j p = m f i j p) → F124 x₁ x₂ M R = rX E M (rsT R)) : ∃ M R, kwRs 3 22 r R ∧ (∀ f i j p, ¬ (f = 9 ∧ r.2.2.1 ≤ i) → M f i j p = m f i j p) ∧ ∀ K : Int32 → mMi → mRs → mRz, bN 20 (N 2) m r (fun n m2 r2 => mckO (r2.2.1.1 B) (mckO (mIsArr (r2.2.1.2.1 n) 20 (N 0)) (mckO (mIsArr (r2.2.1.2.1 n) 20 (N 1)) (bI (H238 n (N 5) (mset (mset m2 9 n 0 0 x₁) 9 n 0 1 x₂) r2) K)))) = K (N E) M R := by
  obtain ⟨M, R, g₁, g₂, e₈⟩ := kwX5 nx hE H
  refine ⟨M, R, g₁, g₂, fun K => ?_⟩
  rw [kwBn nx (by omega)]
  simp (disch := omega) only [kwAl, hB, kwIsA, ccMckT, e₈, ccBi]
theorem kwH239_6 {n : Nat} {m : mMi} {r : mRs} : H239 n (N 6) m r = mckO (mIsInt (r.2.1.2.1 n) (N 0)) (bI (F125 (m 9 n 0 0) m r) (fun v21 m21 r21 => some (.inl (some (mL (Int32.toInt64 v21))), m21, r21))) := rfl
theorem kwX6 {m : mMi} {r : mRs} {E : Nat} {x₁ : Int32} (nx : kwNx r) (hE : E = 1 ∨ E = 2 ∨ E = 3) (H : ∀ M R, (∀ f i j p, f ≠ 9 → M f i j p = m f i j p) → F125 x₁ M R = rX E M (rsT R)) : ∃ M R, kwRs 3 22 r R ∧ (∀ f i j p, ¬ (f = 9 ∧ r.2.2.1 ≤ i) → M f i j p = m f i j p) ∧ H238 r.2.2.1 (N 6) (mset (mfill m 9 r.2.2.1 0 1 0) 9 r.2.2.1 0 0 x₁) (rsA r 20 1 1) = rI (N E) M R := by
  have e₀ : (rsA r 20 1 1).2.2.1 = r.2.2.1 + 1 := rfl
  refine ⟨(kwAr (mset (mfill m 9 r.2.2.1 0 1 0) 9 r.2.2.1 0 0 x₁) (rsA r 20 1 1) r.2.2.1 1), rsT (rsA (rsA r 20 1 1) 20 5 5), kwRs_le (kwRs_trans kwRs_A (kwRs_trans kwRs_A kwRs_T)) (by omega) (by omega), fun f i j p y => ?_, ?_⟩
  · rw [kwAr_o (by omega)]
    rw [ccRd, if_neg (by omega), mfill_ne (by omega)]
  · refine kwThr (kwNx_k kwRs_A nx) kwA_kd (by omega) (by omega) hE ?_
    have g0 : (kwAr (mset (mfill m 9 r.2.2.1 0 1 0) 9 r.2.2.1 0 0 x₁) (rsA r 20 1 1) r.2.2.1 1) 9 (rsA r 20 1 1).2.2.1 0 0 = x₁ := by
      rw [kwAr_i (by omega) (by omega) (by omega)]
      simp (disch := omega) only [ccRd, if_neg, if_pos, Nat.reduceEqDiff, eq_self, true_and, and_true, false_and, and_false, if_true, if_false]
    rw [kwH239_6]
    simp (disch := omega) only [kwInt, ccMckT, g0]
    rw [H _ _ (fun f i j p y => by
      rw [kwAr_o (by omega)]
      rw [ccRd, if_neg (by omega), mfill_ne (by omega)])]
    rfl
theorem kwK6 {m : mMi} {r : mRs} {B E : Nat} {x₁ : Int32} (nx : kwNx r) (hB : r.2.1.1 B = true) (hE : E = 1 ∨ E = 2 ∨ E = 3) (H : ∀ M R, (∀ f i j p, f ≠ 9 → M f i j p = m f i j p) → F125 x₁ M R = rX E M (rsT R)) : ∃ M R, kwRs 3 22 r R ∧ (∀ f i j p, ¬ (f = 9 ∧ r.2.2.1 ≤ i) → M f i j p = m f i j p) ∧ ∀ K : Int32 → mMi → mRs → mRz, bN 20 (N 1) m r (fun n m2 r2 => mckO (r2.2.1.1 B) (mckO (mIsArr (r2.2.1.2.1 n) 20 (N 0)) (bI (H238 n (N 6) (mset m2 9 n 0 0 x₁) r2) K))) = K (N E) M R := by
  obtain ⟨M, R, g₁, g₂, e₈⟩ := kwX6 nx hE H
  refine ⟨M, R, g₁, g₂, fun K => ?_⟩
  rw [kwBn nx (by omega)]
  simp (disch := omega) only [kwAl, hB, kwIsA, ccMckT, e₈, ccBi]
theorem kwH239_7 {n : Nat} {m : mMi} {r : mRs} : H239 n (N 7) m r = mckO (mIsInt (r.2.1.2.1 n) (N 0)) (bI (F126 (m 9 n 0 0) m r) (fun v20 m20 r20 => some (.inl (some (mL (Int32.toInt64 v20))), m20, r20))) := rfl
theorem kwX7 {m : mMi} {r : mRs} {E : Nat} {x₁ : Int32} (nx : kwNx r) (hE : E = 1 ∨ E = 2 ∨ E = 3) (H : ∀ M R, (∀ f i j p, f ≠ 9 → M f i j p = m f i j p) → F126 x₁ M R = rX E M (rsT R)) : ∃ M R, kwRs 3 22 r R ∧ (∀ f i j p, ¬ (f = 9 ∧ r.2.2.1 ≤ i) → M f i j p = m f i j p) ∧ H238 r.2.2.1 (N 7) (mset (mfill m 9 r.2.2.1 0 1 0) 9 r.2.2.1 0 0 x₁) (rsA r 20 1 1) = rI (N E) M R := by
  have e₀ : (rsA r 20 1 1).2.2.1 = r.2.2.1 + 1 := rfl
  refine ⟨(kwAr (mset (mfill m 9 r.2.2.1 0 1 0) 9 r.2.2.1 0 0 x₁) (rsA r 20 1 1) r.2.2.1 1), rsT (rsA (rsA r 20 1 1) 20 5 5), kwRs_le (kwRs_trans kwRs_A (kwRs_trans kwRs_A kwRs_T)) (by omega) (by omega), fun f i j p y => ?_, ?_⟩
  · rw [kwAr_o (by omega)]
    rw [ccRd, if_neg (by omega), mfill_ne (by omega)]
  · refine kwThr (kwNx_k kwRs_A nx) kwA_kd (by omega) (by omega) hE ?_
    have g0 : (kwAr (mset (mfill m 9 r.2.2.1 0 1 0) 9 r.2.2.1 0 0 x₁) (rsA r 20 1 1) r.2.2.1 1) 9 (rsA r 20 1 1).2.2.1 0 0 = x₁ := by
      rw [kwAr_i (by omega) (by omega) (by omega)]
      simp (disch := omega) only [ccRd, if_neg, if_pos, Nat.reduceEqDiff, eq_self, true_and, and_true, false_and, and_false, if_true, if_false]
    rw [kwH239_7]
    simp (disch := omega) only [kwInt, ccMckT, g0]
    rw [H _ _ (fun f i j p y => by
      rw [kwAr_o (by omega)]
      rw [ccRd, if_neg (by omega), mfill_ne (by omega)])]
    rfl
theorem kwK7 {m : mMi} {r : mRs} {B E : Nat} {x₁ : Int32} (nx : kwNx r) (hB : r.2.1.1 B = true) (hE : E = 1 ∨ E = 2 ∨ E = 3) (H : ∀ M R, (∀ f i j p, f ≠ 9 → M f i j p = m f i j p) → F126 x₁ M R = rX E M (rsT R)) : ∃ M R, kwRs 3 22 r R ∧ (∀ f i j p, ¬ (f = 9 ∧ r.2.2.1 ≤ i) → M f i j p = m f i j p) ∧ ∀ K : Int32 → mMi → mRs → mRz, bN 20 (N 1) m r (fun n m2 r2 => mckO (r2.2.1.1 B) (mckO (mIsArr (r2.2.1.2.1 n) 20 (N 0)) (bI (H238 n (N 7) (mset m2 9 n 0 0 x₁) r2) K))) = K (N E) M R := by
  obtain ⟨M, R, g₁, g₂, e₈⟩ := kwX7 nx hE H
  refine ⟨M, R, g₁, g₂, fun K => ?_⟩
  rw [kwBn nx (by omega)]
  simp (disch := omega) only [kwAl, hB, kwIsA, ccMckT, e₈, ccBi]
theorem kwH239_8 {n : Nat} {m : mMi} {r : mRs} : H239 n (N 8) m r = mckO (mIsInt (r.2.1.2.1 n) (N 0)) (mckO (mIsInt (r.2.1.2.1 n) (N 1)) (mckO (mIsInt (r.2.1.2.1 n) (N 2)) (bI (F139 (m 9 n 0 0) (m 9 n 0 1) (m 9 n 0 2) m r) (fun v19 m19 r19 => some (.inl (some (mL (Int32.toInt64 v19))), m19, r19))))) := rfl
theorem kwX8 {m : mMi} {r : mRs} {E : Nat} {x₁ x₂ x₃ : Int32} (nx : kwNx r) (hE : E = 1 ∨ E = 2 ∨ E = 3) (H : ∀ M R, (∀ f i j p, f ≠ 9 → M f i j p = m f i j p) → F139 x₁ x₂ x₃ M R = rX E M (rsT R)) : ∃ M R, kwRs 3 22 r R ∧ (∀ f i j p, ¬ (f = 9 ∧ r.2.2.1 ≤ i) → M f i j p = m f i j p) ∧ H238 r.2.2.1 (N 8) (mset (mset (mset (mfill m 9 r.2.2.1 0 3 0) 9 r.2.2.1 0 0 x₁) 9 r.2.2.1 0 1 x₂) 9 r.2.2.1 0 2 x₃) (rsA r 20 3 3) = rI (N E) M R := by
  have e₀ : (rsA r 20 3 3).2.2.1 = r.2.2.1 + 1 := rfl
  refine ⟨(kwAr (mset (mset (mset (mfill m 9 r.2.2.1 0 3 0) 9 r.2.2.1 0 0 x₁) 9 r.2.2.1 0 1 x₂) 9 r.2.2.1 0 2 x₃) (rsA r 20 3 3) r.2.2.1 3), rsT (rsA (rsA r 20 3 3) 20 5 5), kwRs_le (kwRs_trans kwRs_A (kwRs_trans kwRs_A kwRs_T)) (by omega) (by omega), fun f i j p y => ?_, ?_⟩
  · rw [kwAr_o (by omega)]
    rw [ccRd, if_neg (by omega), ccRd, if_neg (by omega), ccRd, if_neg (by omega), mfill_ne (by omega)]
  · refine kwThr (kwNx_k kwRs_A nx) kwA_kd (by omega) (by omega) hE ?_
    have g0 : (kwAr (mset (mset (mset (mfill m 9 r.2.2.1 0 3 0) 9 r.2.2.1 0 0 x₁) 9 r.2.2.1 0 1 x₂) 9 r.2.2.1 0 2 x₃) (rsA r 20 3 3) r.2.2.1 3) 9 (rsA r 20 3 3).2.2.1 0 0 = x₁ := by
      rw [kwAr_i (by omega) (by omega) (by omega)]
      simp (disch := omega) only [ccRd, if_neg, if_pos, Nat.reduceEqDiff, eq_self, true_and, and_true, false_and, and_false, if_true, if_false]
    have g1 : (kwAr (mset (mset (mset (mfill m 9 r.2.2.1 0 3 0) 9 r.2.2.1 0 0 x₁) 9 r.2.2.1 0 1 x₂) 9 r.2.2.1 0 2 x₃) (rsA r 20 3 3) r.2.2.1 3) 9 (rsA r 20 3 3).2.2.1 0 1 = x₂ := by
      rw [kwAr_i (by omega) (by omega) (by omega)]
      simp (disch := omega) only [ccRd, if_neg, if_pos, Nat.reduceEqDiff, eq_self, true_and, and_true, false_and, and_false, if_true, if_false]
    have g2 : (kwAr (mset (mset (mset (mfill m 9 r.2.2.1 0 3 0) 9 r.2.2.1 0 0 x₁) 9 r.2.2.1 0 1 x₂) 9 r.2.2.1 0 2 x₃) (rsA r 20 3 3) r.2.2.1 3) 9 (rsA r 20 3 3).2.2.1 0 2 = x₃ := by
      rw [kwAr_i (by omega) (by omega) (by omega)]
      simp (disch := omega) only [ccRd, if_neg, if_pos, Nat.reduceEqDiff, eq_self, true_and, and_true, false_and, and_false, if_true, if_false]
    rw [kwH239_8]
    simp (disch := omega) only [kwInt, ccMckT, g0, g1, g2]
    rw [H _ _ (fun f i j p y => by
      rw [kwAr_o (by omega)]
      rw [ccRd, if_neg (by omega), ccRd, if_neg (by omega), ccRd, if_neg (by omega), mfill_ne (by omega)])]
    rfl
theorem kwK8 {m : mMi} {r : mRs} {B E : Nat} {x₁ x₂ x₃ : Int32} (nx : kwNx r) (hB : r.2.1.1 B = true) (hE : E = 1 ∨ E = 2 ∨ E = 3) (H : ∀ M R, (∀ f i j p, f ≠ 9 → M f i j p = m f i j p) → F139 x₁ x₂ x₃ M R = rX E M (rsT R)) : ∃ M R, kwRs 3 22 r R ∧ (∀ f i j p, ¬ (f = 9 ∧ r.2.2.1 ≤ i) → M f i j p = m f i j p) ∧ ∀ K : Int32 → mMi → mRs → mRz, bN 20 (N 3) m r (fun n m2 r2 => mckO (r2.2.1.1 B) (mckO (mIsArr (r2.2.1.2.1 n) 20 (N 0)) (mckO (mIsArr (r2.2.1.2.1 n) 20 (N 1)) (mckO (mIsArr (r2.2.1.2.1 n) 20 (N 2)) (bI (H238 n (N 8) (mset (mset (mset m2 9 n 0 0 x₁) 9 n 0 1 x₂) 9 n 0 2 x₃) r2) K))))) = K (N E) M R := by
  obtain ⟨M, R, g₁, g₂, e₈⟩ := kwX8 nx hE H
  refine ⟨M, R, g₁, g₂, fun K => ?_⟩
  rw [kwBn nx (by omega)]
  simp (disch := omega) only [kwAl, hB, kwIsA, ccMckT, e₈, ccBi]
theorem kwH239_11 {n : Nat} {m : mMi} {r : mRs} : H239 n (N 11) m r = mckO (mIsInt (r.2.1.2.1 n) (N 0)) (bI (F156 (m 9 n 0 0) m r) (fun v16 m16 r16 => some (.inl (some (mL (Int32.toInt64 v16))), m16, r16))) := rfl
theorem kwX11 {m : mMi} {r : mRs} {E : Nat} {x₁ : Int32} (nx : kwNx r) (hE : E = 1 ∨ E = 2 ∨ E = 3) (H : ∀ M R, (∀ f i j p, f ≠ 9 → M f i j p = m f i j p) → F156 x₁ M R = rX E M (rsT R)) : ∃ M R, kwRs 3 22 r R ∧ (∀ f i j p, ¬ (f = 9 ∧ r.2.2.1 ≤ i) → M f i j p = m f i j p) ∧ H238 r.2.2.1 (N 11) (mset (mfill m 9 r.2.2.1 0 1 0) 9 r.2.2.1 0 0 x₁) (rsA r 20 1 1) = rI (N E) M R := by
  have e₀ : (rsA r 20 1 1).2.2.1 = r.2.2.1 + 1 := rfl
  refine ⟨(kwAr (mset (mfill m 9 r.2.2.1 0 1 0) 9 r.2.2.1 0 0 x₁) (rsA r 20 1 1) r.2.2.1 1), rsT (rsA (rsA r 20 1 1) 20 5 5), kwRs_le (kwRs_trans kwRs_A (kwRs_trans kwRs_A kwRs_T)) (by omega) (by omega), fun f i j p y => ?_, ?_⟩
  · rw [kwAr_o (by omega)]
    rw [ccRd, if_neg (by omega), mfill_ne (by omega)]
  · refine kwThr (kwNx_k kwRs_A nx) kwA_kd (by omega) (by omega) hE ?_
    have g0 : (kwAr (mset (mfill m 9 r.2.2.1 0 1 0) 9 r.2.2.1 0 0 x₁) (rsA r 20 1 1) r.2.2.1 1) 9 (rsA r 20 1 1).2.2.1 0 0 = x₁ := by
      rw [kwAr_i (by omega) (by omega) (by omega)]
      simp (disch := omega) only [ccRd, if_neg, if_pos, Nat.reduceEqDiff, eq_self, true_and, and_true, false_and, and_false, if_true, if_false]
    rw [kwH239_11]
    simp (disch := omega) only [kwInt, ccMckT, g0]
    rw [H _ _ (fun f i j p y => by
      rw [kwAr_o (by omega)]
      rw [ccRd, if_neg (by omega), mfill_ne (by omega)])]
    rfl
theorem kwK11 {m : mMi} {r : mRs} {B E : Nat} {x₁ : Int32} (nx : kwNx r) (hB : r.2.1.1 B = true) (hE : E = 1 ∨ E = 2 ∨ E = 3) (H : ∀ M R, (∀ f i j p, f ≠ 9 → M f i j p = m f i j p) → F156 x₁ M R = rX E M (rsT R)) : ∃ M R, kwRs 3 22 r R ∧ (∀ f i j p, ¬ (f = 9 ∧ r.2.2.1 ≤ i) → M f i j p = m f i j p) ∧ ∀ K : Int32 → mMi → mRs → mRz, bN 20 (N 1) m r (fun n m2 r2 => mckO (r2.2.1.1 B) (mckO (mIsArr (r2.2.1.2.1 n) 20 (N 0)) (bI (H238 n (N 11) (mset m2 9 n 0 0 x₁) r2) K))) = K (N E) M R := by
  obtain ⟨M, R, g₁, g₂, e₈⟩ := kwX11 nx hE H
  refine ⟨M, R, g₁, g₂, fun K => ?_⟩
  rw [kwBn nx (by omega)]
  simp (disch := omega) only [kwAl, hB, kwIsA, ccMckT, e₈, ccBi]
theorem kwK11p {m : mMi} {r : mRs} {E : Nat} {x₁ : Int32} (nx : kwNx r) (hE : E = 1 ∨ E = 2 ∨ E = 3) (H : ∀ M R, (∀ f i j p, f ≠ 9 → M f i j p = m f i j p) → F156 x₁ M R = rX E M (rsT R)) : ∃ M R, kwRs 3 22 r R ∧ (∀ f i j p, ¬ (f = 9 ∧ r.2.2.1 ≤ i) → M f i j p = m f i j p) ∧ ∀ K : Int32 → mMi → mRs → mRz, bN 20 (N 1) m r (fun n m2 r2 => mckO (mIsArr (r2.2.1.2.1 n) 20 (N 0)) (bI (H238 n (N 11) (mset m2 9 n 0 0 x₁) r2) K)) = K (N E) M R := by
  obtain ⟨M, R, g₁, g₂, e₈⟩ := kwX11 nx hE H
  refine ⟨M, R, g₁, g₂, fun K => ?_⟩
  rw [kwBn nx (by omega)]
  simp (disch := omega) only [kwAl, kwIsA, ccMckT, e₈, ccBi]
theorem kwH239_12 {n : Nat} {m : mMi} {r : mRs} : H239 n (N 12) m r = mckO (mIsInt (r.2.1.2.1 n) (N 0)) (mckO (mIsInt (r.2.1.2.1 n) (N 1)) (mckO (mIsInt (r.2.1.2.1 n) (N 2)) (mckO (mIsInt (r.2.1.2.1 n) (N 3)) (mckO (mIsInt (r.2.1.2.1 n) (N 4)) (bI (F157 (m 9 n 0 0) (m 9 n 0 1) (m 9 n 0 2) (m 9 n 0 3) (m 9 n 0 4) m r) (fun v15 m15 r15 => some (.inl (some (mL (Int32.toInt64 v15))), m15, r15))))))) := rfl
theorem kwX12 {m : mMi} {r : mRs} {E : Nat} {x₁ x₂ x₃ x₄ x₅ : Int32} (nx : kwNx r) (hE : E = 1 ∨ E = 2 ∨ E = 3) (H : ∀ M R, (∀ f i j p, f ≠ 9 → M f i j p = m f i j p) → F157 x₁ x₂ x₃ x₄ x₅ M R = rX E M (rsT R)) : ∃ M R, kwRs 3 22 r R ∧ (∀ f i j p, ¬ (f = 9 ∧ r.2.2.1 ≤ i) → M f i j p = m f i j p) ∧ H238 r.2.2.1 (N 12) (mset (mset (mset (mset (mset (mfill m 9 r.2.2.1 0 5 0) 9 r.2.2.1 0 0 x₁) 9 r.2.2.1 0 1 x₂) 9 r.2.2.1 0 2 x₃) 9 r.2.2.1 0 3 x₄) 9 r.2.2.1 0 4 x₅) (rsA r 20 5 5) = rI (N E) M R := by
  have e₀ : (rsA r 20 5 5).2.2.1 = r.2.2.1 + 1 := rfl
  refine ⟨(kwAr (mset (mset (mset (mset (mset (mfill m 9 r.2.2.1 0 5 0) 9 r.2.2.1 0 0 x₁) 9 r.2.2.1 0 1 x₂) 9 r.2.2.1 0 2 x₃) 9 r.2.2.1 0 3 x₄) 9 r.2.2.1 0 4 x₅) (rsA r 20 5 5) r.2.2.1 5), rsT (rsA (rsA r 20 5 5) 20 5 5), kwRs_le (kwRs_trans kwRs_A (kwRs_trans kwRs_A kwRs_T)) (by omega) (by omega), fun f i j p y => ?_, ?_⟩
  · rw [kwAr_o (by omega)]
    rw [ccRd, if_neg (by omega), ccRd, if_neg (by omega), ccRd, if_neg (by omega), ccRd, if_neg (by omega), ccRd, if_neg (by omega), mfill_ne (by omega)]
  · refine kwThr (kwNx_k kwRs_A nx) kwA_kd (by omega) (by omega) hE ?_
    have g0 : (kwAr (mset (mset (mset (mset (mset (mfill m 9 r.2.2.1 0 5 0) 9 r.2.2.1 0 0 x₁) 9 r.2.2.1 0 1 x₂) 9 r.2.2.1 0 2 x₃) 9 r.2.2.1 0 3 x₄) 9 r.2.2.1 0 4 x₅) (rsA r 20 5 5) r.2.2.1 5) 9 (rsA r 20 5 5).2.2.1 0 0 = x₁ := by
      rw [kwAr_i (by omega) (by omega) (by omega)]
      simp (disch := omega) only [ccRd, if_neg, if_pos, Nat.reduceEqDiff, eq_self, true_and, and_true, false_and, and_false, if_true, if_false]
    have g1 : (kwAr (mset (mset (mset (mset (mset (mfill m 9 r.2.2.1 0 5 0) 9 r.2.2.1 0 0 x₁) 9 r.2.2.1 0 1 x₂) 9 r.2.2.1 0 2 x₃) 9 r.2.2.1 0 3 x₄) 9 r.2.2.1 0 4 x₅) (rsA r 20 5 5) r.2.2.1 5) 9 (rsA r 20 5 5).2.2.1 0 1 = x₂ := by
      rw [kwAr_i (by omega) (by omega) (by omega)]
      simp (disch := omega) only [ccRd, if_neg, if_pos, Nat.reduceEqDiff, eq_self, true_and, and_true, false_and, and_false, if_true, if_false]
    have g2 : (kwAr (mset (mset (mset (mset (mset (mfill m 9 r.2.2.1 0 5 0) 9 r.2.2.1 0 0 x₁) 9 r.2.2.1 0 1 x₂) 9 r.2.2.1 0 2 x₃) 9 r.2.2.1 0 3 x₄) 9 r.2.2.1 0 4 x₅) (rsA r 20 5 5) r.2.2.1 5) 9 (rsA r 20 5 5).2.2.1 0 2 = x₃ := by
      rw [kwAr_i (by omega) (by omega) (by omega)]
      simp (disch := omega) only [ccRd, if_neg, if_pos, Nat.reduceEqDiff, eq_self, true_and, and_true, false_and, and_false, if_true, if_false]
    have g3 : (kwAr (mset (mset (mset (mset (mset (mfill m 9 r.2.2.1 0 5 0) 9 r.2.2.1 0 0 x₁) 9 r.2.2.1 0 1 x₂) 9 r.2.2.1 0 2 x₃) 9 r.2.2.1 0 3 x₄) 9 r.2.2.1 0 4 x₅) (rsA r 20 5 5) r.2.2.1 5) 9 (rsA r 20 5 5).2.2.1 0 3 = x₄ := by
      rw [kwAr_i (by omega) (by omega) (by omega)]
      simp (disch := omega) only [ccRd, if_neg, if_pos, Nat.reduceEqDiff, eq_self, true_and, and_true, false_and, and_false, if_true, if_false]
    have g4 : (kwAr (mset (mset (mset (mset (mset (mfill m 9 r.2.2.1 0 5 0) 9 r.2.2.1 0 0 x₁) 9 r.2.2.1 0 1 x₂) 9 r.2.2.1 0 2 x₃) 9 r.2.2.1 0 3 x₄) 9 r.2.2.1 0 4 x₅) (rsA r 20 5 5) r.2.2.1 5) 9 (rsA r 20 5 5).2.2.1 0 4 = x₅ := by
      rw [kwAr_i (by omega) (by omega) (by omega)]
      simp (disch := omega) only [ccRd, if_neg, if_pos, Nat.reduceEqDiff, eq_self, true_and, and_true, false_and, and_false, if_true, if_false]
    rw [kwH239_12]
    simp (disch := omega) only [kwInt, ccMckT, g0, g1, g2, g3, g4]
    rw [H _ _ (fun f i j p y => by
      rw [kwAr_o (by omega)]
      rw [ccRd, if_neg (by omega), ccRd, if_neg (by omega), ccRd, if_neg (by omega), ccRd, if_neg (by omega), ccRd, if_neg (by omega), mfill_ne (by omega)])]
    rfl
theorem kwK12 {m : mMi} {r : mRs} {B E : Nat} {x₁ x₂ x₃ x₄ x₅ : Int32} (nx : kwNx r) (hB : r.2.1.1 B = true) (hE : E = 1 ∨ E = 2 ∨ E = 3) (H : ∀ M R, (∀ f i j p, f ≠ 9 → M f i j p = m f i j p) → F157 x₁ x₂ x₃ x₄ x₅ M R = rX E M (rsT R)) : ∃ M R, kwRs 3 22 r R ∧ (∀ f i j p, ¬ (f = 9 ∧ r.2.2.1 ≤ i) → M f i j p = m f i j p) ∧ ∀ K : Int32 → mMi → mRs → mRz, bN 20 (N 5) m r (fun n m2 r2 => mckO (r2.2.1.1 B) (mckO (mIsArr (r2.2.1.2.1 n) 20 (N 0)) (mckO (mIsArr (r2.2.1.2.1 n) 20 (N 1)) (mckO (mIsArr (r2.2.1.2.1 n) 20 (N 2)) (mckO (mIsArr (r2.2.1.2.1 n) 20 (N 3)) (mckO (mIsArr (r2.2.1.2.1 n) 20 (N 4)) (bI (H238 n (N 12) (mset (mset (mset (mset (mset m2 9 n 0 0 x₁) 9 n 0 1 x₂) 9 n 0 2 x₃) 9 n 0 3 x₄) 9 n 0 4 x₅) r2) K))))))) = K (N E) M R := by
  obtain ⟨M, R, g₁, g₂, e₈⟩ := kwX12 nx hE H
  refine ⟨M, R, g₁, g₂, fun K => ?_⟩
  rw [kwBn nx (by omega)]
  simp (disch := omega) only [kwAl, hB, kwIsA, ccMckT, e₈, ccBi]
theorem kwH239_13 {n : Nat} {m : mMi} {r : mRs} : H239 n (N 13) m r = mckO (mIsInt (r.2.1.2.1 n) (N 0)) (mckO (mIsInt (r.2.1.2.1 n) (N 1)) (mckO (mIsInt (r.2.1.2.1 n) (N 2)) (bI (F158 (m 9 n 0 0) (m 9 n 0 1) (m 9 n 0 2) m r) (fun v14 m14 r14 => some (.inl (some (mL (Int32.toInt64 v14))), m14, r14))))) := rfl
theorem kwX13 {m : mMi} {r : mRs} {E : Nat} {x₁ x₂ x₃ : Int32} (nx : kwNx r) (hE : E = 1 ∨ E = 2 ∨ E = 3) (H : ∀ M R, (∀ f i j p, f ≠ 9 → M f i j p = m f i j p) → F158 x₁ x₂ x₃ M R = rX E M (rsT R)) : ∃ M R, kwRs 3 22 r R ∧ (∀ f i j p, ¬ (f = 9 ∧ r.2.2.1 ≤ i) → M f i j p = m f i j p) ∧ H238 r.2.2.1 (N 13) (mset (mset (mset (mfill m 9 r.2.2.1 0 3 0) 9 r.2.2.1 0 0 x₁) 9 r.2.2.1 0 1 x₂) 9 r.2.2.1 0 2 x₃) (rsA r 20 3 3) = rI (N E) M R := by
  have e₀ : (rsA r 20 3 3).2.2.1 = r.2.2.1 + 1 := rfl
  refine ⟨(kwAr (mset (mset (mset (mfill m 9 r.2.2.1 0 3 0) 9 r.2.2.1 0 0 x₁) 9 r.2.2.1 0 1 x₂) 9 r.2.2.1 0 2 x₃) (rsA r 20 3 3) r.2.2.1 3), rsT (rsA (rsA r 20 3 3) 20 5 5), kwRs_le (kwRs_trans kwRs_A (kwRs_trans kwRs_A kwRs_T)) (by omega) (by omega), fun f i j p y => ?_, ?_⟩
  · rw [kwAr_o (by omega)]
    rw [ccRd, if_neg (by omega), ccRd, if_neg (by omega), ccRd, if_neg (by omega), mfill_ne (by omega)]
  · refine kwThr (kwNx_k kwRs_A nx) kwA_kd (by omega) (by omega) hE ?_
    have g0 : (kwAr (mset (mset (mset (mfill m 9 r.2.2.1 0 3 0) 9 r.2.2.1 0 0 x₁) 9 r.2.2.1 0 1 x₂) 9 r.2.2.1 0 2 x₃) (rsA r 20 3 3) r.2.2.1 3) 9 (rsA r 20 3 3).2.2.1 0 0 = x₁ := by
      rw [kwAr_i (by omega) (by omega) (by omega)]
      simp (disch := omega) only [ccRd, if_neg, if_pos, Nat.reduceEqDiff, eq_self, true_and, and_true, false_and, and_false, if_true, if_false]
    have g1 : (kwAr (mset (mset (mset (mfill m 9 r.2.2.1 0 3 0) 9 r.2.2.1 0 0 x₁) 9 r.2.2.1 0 1 x₂) 9 r.2.2.1 0 2 x₃) (rsA r 20 3 3) r.2.2.1 3) 9 (rsA r 20 3 3).2.2.1 0 1 = x₂ := by
      rw [kwAr_i (by omega) (by omega) (by omega)]
      simp (disch := omega) only [ccRd, if_neg, if_pos, Nat.reduceEqDiff, eq_self, true_and, and_true, false_and, and_false, if_true, if_false]
    have g2 : (kwAr (mset (mset (mset (mfill m 9 r.2.2.1 0 3 0) 9 r.2.2.1 0 0 x₁) 9 r.2.2.1 0 1 x₂) 9 r.2.2.1 0 2 x₃) (rsA r 20 3 3) r.2.2.1 3) 9 (rsA r 20 3 3).2.2.1 0 2 = x₃ := by
      rw [kwAr_i (by omega) (by omega) (by omega)]
      simp (disch := omega) only [ccRd, if_neg, if_pos, Nat.reduceEqDiff, eq_self, true_and, and_true, false_and, and_false, if_true, if_false]
    rw [kwH239_13]
    simp (disch := omega) only [kwInt, ccMckT, g0, g1, g2]
    rw [H _ _ (fun f i j p y => by
      rw [kwAr_o (by omega)]
      rw [ccRd, if_neg (by omega), ccRd, if_neg (by omega), ccRd, if_neg (by omega), mfill_ne (by omega)])]
    rfl
theorem kwK13 {m : mMi} {r : mRs} {B E : Nat} {x₁ x₂ x₃ : Int32} (nx : kwNx r) (hB : r.2.1.1 B = true) (hE : E = 1 ∨ E = 2 ∨ E = 3) (H : ∀ M R, (∀ f i j p, f ≠ 9 → M f i j p = m f i j p) → F158 x₁ x₂ x₃ M R = rX E M (rsT R)) : ∃ M R, kwRs 3 22 r R ∧ (∀ f i j p, ¬ (f = 9 ∧ r.2.2.1 ≤ i) → M f i j p = m f i j p) ∧ ∀ K : Int32 → mMi → mRs → mRz, bN 20 (N 3) m r (fun n m2 r2 => mckO (r2.2.1.1 B) (mckO (mIsArr (r2.2.1.2.1 n) 20 (N 0)) (mckO (mIsArr (r2.2.1.2.1 n) 20 (N 1)) (mckO (mIsArr (r2.2.1.2.1 n) 20 (N 2)) (bI (H238 n (N 13) (mset (mset (mset m2 9 n 0 0 x₁) 9 n 0 1 x₂) 9 n 0 2 x₃) r2) K))))) = K (N E) M R := by
  obtain ⟨M, R, g₁, g₂, e₈⟩ := kwX13 nx hE H
  refine ⟨M, R, g₁, g₂, fun K => ?_⟩
  rw [kwBn nx (by omega)]
  simp (disch := omega) only [kwAl, hB, kwIsA, ccMckT, e₈, ccBi]
theorem kwH239_14 {n : Nat} {m : mMi} {r : mRs} : H239 n (N 14) m r = mckO (mIsInt (r.2.1.2.1 n) (N 0)) (bI (F159 (m 9 n 0 0) m r) (fun v13 m13 r13 => some (.inl (some (mL (Int32.toInt64 v13))), m13, r13))) := rfl
theorem kwX14 {m : mMi} {r : mRs} {E : Nat} {x₁ : Int32} (nx : kwNx r) (hE : E = 1 ∨ E = 2 ∨ E = 3) (H : ∀ M R, (∀ f i j p, f ≠ 9 → M f i j p = m f i j p) → F159 x₁ M R = rX E M (rsT R)) : ∃ M R, kwRs 3 22 r R ∧ (∀ f i j p, ¬ (f = 9 ∧ r.2.2.1 ≤ i) → M f i j p = m f i j p) ∧ H238 r.2.2.1 (N 14) (mset (mfill m 9 r.2.2.1 0 1 0) 9 r.2.2.1 0 0 x₁) (rsA r 20 1 1) = rI (N E) M R := by
  have e₀ : (rsA r 20 1 1).2.2.1 = r.2.2.1 + 1 := rfl
  refine ⟨(kwAr (mset (mfill m 9 r.2.2.1 0 1 0) 9 r.2.2.1 0 0 x₁) (rsA r 20 1 1) r.2.2.1 1), rsT (rsA (rsA r 20 1 1) 20 5 5), kwRs_le (kwRs_trans kwRs_A (kwRs_trans kwRs_A kwRs_T)) (by omega) (by omega), fun f i j p y => ?_, ?_⟩
  · rw [kwAr_o (by omega)]
    rw [ccRd, if_neg (by omega), mfill_ne (by omega)]
  · refine kwThr (kwNx_k kwRs_A nx) kwA_kd (by omega) (by omega) hE ?_
    have g0 : (kwAr (mset (mfill m 9 r.2.2.1 0 1 0) 9 r.2.2.1 0 0 x₁) (rsA r 20 1 1) r.2.2.1 1) 9 (rsA r 20 1 1).2.2.1 0 0 = x₁ := by
      rw [kwAr_i (by omega) (by omega) (by omega)]
      simp (disch := omega) only [ccRd, if_neg, if_pos, Nat.reduceEqDiff, eq_self, true_and, and_true, false_and, and_false, if_true, if_false]
    rw [kwH239_14]
    simp (disch := omega) only [kwInt, ccMckT, g0]
    rw [H _ _ (fun f i j p y => by
      rw [kwAr_o (by omega)]
      rw [ccRd, if_neg (by omega), mfill_ne (by omega)])]
    rfl
theorem kwK14 {m : mMi} {r : mRs} {B E : Nat} {x₁ : Int32} (nx : kwNx r) (hB : r.2.1.1 B = true) (hE : E = 1 ∨ E = 2 ∨ E = 3) (H : ∀ M R, (∀ f i j p, f ≠ 9 → M f i j p = m f i j p) → F159 x₁ M R = rX E M (rsT R)) : ∃ M R, kwRs 3 22 r R ∧ (∀ f i j p, ¬ (f = 9 ∧ r.2.2.1 ≤ i) → M f i j p = m f i j p) ∧ ∀ K : Int32 → mMi → mRs → mRz, bN 20 (N 1) m r (fun n m2 r2 => mckO (r2.2.1.1 B) (mckO (mIsArr (r2.2.1.2.1 n) 20 (N 0)) (bI (H238 n (N 14) (mset m2 9 n 0 0 x₁) r2) K))) = K (N E) M R := by
  obtain ⟨M, R, g₁, g₂, e₈⟩ := kwX14 nx hE H
  refine ⟨M, R, g₁, g₂, fun K => ?_⟩
  rw [kwBn nx (by omega)]
  simp (disch := omega) only [kwAl, hB, kwIsA, ccMckT, e₈, ccBi]
theorem kwH239_15 {n : Nat} {m : mMi} {r : mRs} : H239 n (N 15) m r = mckO (mIsInt (r.2.1.2.1 n) (N 0)) (mckO (mIsInt (r.2.1.2.1 n) (N 1)) (bI (F160 (m 9 n 0 0) (m 9 n 0 1) m r) (fun v12 m12 r12 => some (.inl (some (mL (Int32.toInt64 v12))), m12, r12)))) := rfl
theorem kwX15 {m : mMi} {r : mRs} {E : Nat} {x₁ x₂ : Int32} (nx : kwNx r) (hE : E = 1 ∨ E = 2 ∨ E = 3) (H : ∀ M R, (∀ f i j p, f ≠ 9 → M f i j p = m f i j p) → F160 x₁ x₂ M R = rX E M (rsT R)) : ∃ M R, kwRs 3 22 r R ∧ (∀ f i j p, ¬ (f = 9 ∧ r.2.2.1 ≤ i) → M f i j p = m f i j p) ∧ H238 r.2.2.1 (N 15) (mset (mset (mfill m 9 r.2.2.1 0 2 0) 9 r.2.2.1 0 0 x₁) 9 r.2.2.1 0 1 x₂) (rsA r 20 2 2) = rI (N E) M R := by
  have e₀ : (rsA r 20 2 2).2.2.1 = r.2.2.1 + 1 := rfl
  refine ⟨(kwAr (mset (mset (mfill m 9 r.2.2.1 0 2 0) 9 r.2.2.1 0 0 x₁) 9 r.2.2.1 0 1 x₂) (rsA r 20 2 2) r.2.2.1 2), rsT (rsA (rsA r 20 2 2) 20 5 5), kwRs_le (kwRs_trans kwRs_A (kwRs_trans kwRs_A kwRs_T)) (by omega) (by omega), fun f i j p y => ?_, ?_⟩
  · rw [kwAr_o (by omega)]
    rw [ccRd, if_neg (by omega), ccRd, if_neg (by omega), mfill_ne (by omega)]
  · refine kwThr (kwNx_k kwRs_A nx) kwA_kd (by omega) (by omega) hE ?_
    have g0 : (kwAr (mset (mset (mfill m 9 r.2.2.1 0 2 0) 9 r.2.2.1 0 0 x₁) 9 r.2.2.1 0 1 x₂) (rsA r 20 2 2) r.2.2.1 2) 9 (rsA r 20 2 2).2.2.1 0 0 = x₁ := by
      rw [kwAr_i (by omega) (by omega) (by omega)]
      simp (disch := omega) only [ccRd, if_neg, if_pos, Nat.reduceEqDiff, eq_self, true_and, and_true, false_and, and_false, if_true, if_false]
    have g1 : (kwAr (mset (mset (mfill m 9 r.2.2.1 0 2 0) 9 r.2.2.1 0 0 x₁) 9 r.2.2.1 0 1 x₂) (rsA r 20 2 2) r.2.2.1 2) 9 (rsA r 20 2 2).2.2.1 0 1 = x₂ := by
      rw [kwAr_i (by omega) (by omega) (by omega)]
      simp (disch := omega) only [ccRd, if_neg, if_pos, Nat.reduceEqDiff, eq_self, true_and, and_true, false_and, and_false, if_true, if_false]
    rw [kwH239_15]
    simp (disch := omega) only [kwInt, ccMckT, g0, g1]
    rw [H _ _ (fun f i j p y => by
      rw [kwAr_o (by omega)]
      rw [ccRd, if_neg (by omega), ccRd, if_neg (by omega), mfill_ne (by omega)])]
    rfl
theorem kwK15 {m : mMi} {r : mRs} {B E : Nat} {x₁ x₂ : Int32} (nx : kwNx r) (hB : r.2.1.1 B = true) (hE : E = 1 ∨ E = 2 ∨ E = 3) (H : ∀ M R, (∀ f i j p, f ≠ 9 → M f i j p = m f i j p) → F160 x₁ x₂ M R = rX E M (rsT R)) : ∃ M R, kwRs 3 22 r R ∧ (∀ f i j p, ¬ (f = 9 ∧ r.2.2.1 ≤ i) → M f i j p = m f i j p) ∧ ∀ K : Int32 → mMi → mRs → mRz, bN 20 (N 2) m r (fun n m2 r2 => mckO (r2.2.1.1 B) (mckO (mIsArr (r2.2.1.2.1 n) 20 (N 0)) (mckO (mIsArr (r2.2.1.2.1 n) 20 (N 1)) (bI (H238 n (N 15) (mset (mset m2 9 n 0 0 x₁) 9 n 0 1 x₂) r2) K)))) = K (N E) M R := by
  obtain ⟨M, R, g₁, g₂, e₈⟩ := kwX15 nx hE H
  refine ⟨M, R, g₁, g₂, fun K => ?_⟩
  rw [kwBn nx (by omega)]
  simp (disch := omega) only [kwAl, hB, kwIsA, ccMckT, e₈, ccBi]
theorem kwH239_16 {n : Nat} {m : mMi} {r : mRs} : H239 n (N 16) m r = mckO (mIsInt (r.2.1.2.1 n) (N 0)) (mckO (mIsInt (r.2.1.2.1 n) (N 1)) (bI (F161 (m 9 n 0 0) (m 9 n 0 1) m r) (fun v11 m11 r11 => some (.inl (some (mL (Int32.toInt64 v11))), m11, r11)))) := rfl
theorem kwX16 {m : mMi} {r : mRs} {E : Nat} {x₁ x₂ : Int32} (nx : kwNx r) (hE : E = 1 ∨ E = 2 ∨ E = 3) (H : ∀ M R, (∀ f i j p, f ≠ 9 → M f i j p = m f i j p) → F161 x₁ x₂ M R = rX E M (rsT R)) : ∃ M R, kwRs 3 22 r R ∧ (∀ f i j p, ¬ (f = 9 ∧ r.2.2.1 ≤ i) → M f i j p = m f i j p) ∧ H238 r.2.2.1 (N 16) (mset (mset (mfill m 9 r.2.2.1 0 2 0) 9 r.2.2.1 0 0 x₁) 9 r.2.2.1 0 1 x₂) (rsA r 20 2 2) = rI (N E) M R := by
  have e₀ : (rsA r 20 2 2).2.2.1 = r.2.2.1 + 1 := rfl
  refine ⟨(kwAr (mset (mset (mfill m 9 r.2.2.1 0 2 0) 9 r.2.2.1 0 0 x₁) 9 r.2.2.1 0 1 x₂) (rsA r 20 2 2) r.2.2.1 2), rsT (rsA (rsA r 20 2 2) 20 5 5), kwRs_le (kwRs_trans kwRs_A (kwRs_trans kwRs_A kwRs_T)) (by omega) (by omega), fun f i j p y => ?_, ?_⟩
  · rw [kwAr_o (by omega)]
    rw [ccRd, if_neg (by omega), ccRd, if_neg (by omega), mfill_ne (by omega)]
  · refine kwThr (kwNx_k kwRs_A nx) kwA_kd (by omega) (by omega) hE ?_
    have g0 : (kwAr (mset (mset (mfill m 9 r.2.2.1 0 2 0) 9 r.2.2.1 0 0 x₁) 9 r.2.2.1 0 1 x₂) (rsA r 20 2 2) r.2.2.1 2) 9 (rsA r 20 2 2).2.2.1 0 0 = x₁ := by
      rw [kwAr_i (by omega) (by omega) (by omega)]
      simp (disch := omega) only [ccRd, if_neg, if_pos, Nat.reduceEqDiff, eq_self, true_and, and_true, false_and, and_false, if_true, if_false]
    have g1 : (kwAr (mset (mset (mfill m 9 r.2.2.1 0 2 0) 9 r.2.2.1 0 0 x₁) 9 r.2.2.1 0 1 x₂) (rsA r 20 2 2) r.2.2.1 2) 9 (rsA r 20 2 2).2.2.1 0 1 = x₂ := by
      rw [kwAr_i (by omega) (by omega) (by omega)]
      simp (disch := omega) only [ccRd, if_neg, if_pos, Nat.reduceEqDiff, eq_self, true_and, and_true, false_and, and_false, if_true, if_false]
    rw [kwH239_16]
    simp (disch := omega) only [kwInt, ccMckT, g0, g1]
    rw [H _ _ (fun f i j p y => by
      rw [kwAr_o (by omega)]
      rw [ccRd, if_neg (by omega), ccRd, if_neg (by omega), mfill_ne (by omega)])]
    rfl
theorem kwK16 {m : mMi} {r : mRs} {B E : Nat} {x₁ x₂ : Int32} (nx : kwNx r) (hB : r.2.1.1 B = true) (hE : E = 1 ∨ E = 2 ∨ E = 3) (H : ∀ M R, (∀ f i j p, f ≠ 9 → M f i j p = m f i j p) → F161 x₁ x₂ M R = rX E M (rsT R)) : ∃ M R, kwRs 3 22 r R ∧ (∀ f i j p, ¬ (f = 9 ∧ r.2.2.1 ≤ i) → M f i j p = m f i j p) ∧ ∀ K : Int32 → mMi → mRs → mRz, bN 20 (N 2) m r (fun n m2 r2 => mckO (r2.2.1.1 B) (mckO (mIsArr (r2.2.1.2.1 n) 20 (N 0)) (mckO (mIsArr (r2.2.1.2.1 n) 20 (N 1)) (bI (H238 n (N 16) (mset (mset m2 9 n 0 0 x₁) 9 n 0 1 x₂) r2) K)))) = K (N E) M R := by
  obtain ⟨M, R, g₁, g₂, e₈⟩ := kwX16 nx hE H
  refine ⟨M, R, g₁, g₂, fun K => ?_⟩
  rw [kwBn nx (by omega)]
  simp (disch := omega) only [kwAl, hB, kwIsA, ccMckT, e₈, ccBi]
theorem kwH239_17 {n : Nat} {m : mMi} {r : mRs} : H239 n (N 17) m r = mckO (mIsInt (r.2.1.2.1 n) (N 0)) (bI (F162 (m 9 n 0 0) m r) (fun v10 m10 r10 => some (.inl (some (mL (Int32.toInt64 v10))), m10, r10))) := rfl
theorem kwX17 {m : mMi} {r : mRs} {E : Nat} {x₁ : Int32} (nx : kwNx r) (hE : E = 1 ∨ E = 2 ∨ E = 3) (H : ∀ M R, (∀ f i j p, f ≠ 9 → M f i j p = m f i j p) → F162 x₁ M R = rX E M (rsT R)) : ∃ M R, kwRs 3 22 r R ∧ (∀ f i j p, ¬ (f = 9 ∧ r.2.2.1 ≤ i) → M f i j p = m f i j p) ∧ H238 r.2.2.1 (N 17) (mset (mfill m 9 r.2.2.1 0 1 0) 9 r.2.2.1 0 0 x₁) (rsA r 20 1 1) = rI (N E) M R := by
  have e₀ : (rsA r 20 1 1).2.2.1 = r.2.2.1 + 1 := rfl
  refine ⟨(kwAr (mset (mfill m 9 r.2.2.1 0 1 0) 9 r.2.2.1 0 0 x₁) (rsA r 20 1 1) r.2.2.1 1), rsT (rsA (rsA r 20 1 1) 20 5 5), kwRs_le (kwRs_trans kwRs_A (kwRs_trans kwRs_A kwRs_T)) (by omega) (by omega), fun f i j p y => ?_, ?_⟩
  · rw [kwAr_o (by omega)]
    rw [ccRd, if_neg (by omega), mfill_ne (by omega)]
  · refine kwThr (kwNx_k kwRs_A nx) kwA_kd (by omega) (by omega) hE ?_
    have g0 : (kwAr (mset (mfill m 9 r.2.2.1 0 1 0) 9 r.2.2.1 0 0 x₁) (rsA r 20 1 1) r.2.2.1 1) 9 (rsA r 20 1 1).2.2.1 0 0 = x₁ := by
      rw [kwAr_i (by omega) (by omega) (by omega)]
      simp (disch := omega) only [ccRd, if_neg, if_pos, Nat.reduceEqDiff, eq_self, true_and, and_true, false_and, and_false, if_true, if_false]
    rw [kwH239_17]
    simp (disch := omega) only [kwInt, ccMckT, g0]
    rw [H _ _ (fun f i j p y => by
      rw [kwAr_o (by omega)]
      rw [ccRd, if_neg (by omega), mfill_ne (by omega)])]
    rfl
theorem kwK17 {m : mMi} {r : mRs} {B E : Nat} {x₁ : Int32} (nx : kwNx r) (hB : r.2.1.1 B = true) (hE : E = 1 ∨ E = 2 ∨ E = 3) (H : ∀ M R, (∀ f i j p, f ≠ 9 → M f i j p = m f i j p) → F162 x₁ M R = rX E M (rsT R)) : ∃ M R, kwRs 3 22 r R ∧ (∀ f i j p, ¬ (f = 9 ∧ r.2.2.1 ≤ i) → M f i j p = m f i j p) ∧ ∀ K : Int32 → mMi → mRs → mRz, bN 20 (N 1) m r (fun n m2 r2 => mckO (r2.2.1.1 B) (mckO (mIsArr (r2.2.1.2.1 n) 20 (N 0)) (bI (H238 n (N 17) (mset m2 9 n 0 0 x₁) r2) K))) = K (N E) M R := by
  obtain ⟨M, R, g₁, g₂, e₈⟩ := kwX17 nx hE H
  refine ⟨M, R, g₁, g₂, fun K => ?_⟩
  rw [kwBn nx (by omega)]
  simp (disch := omega) only [kwAl, hB, kwIsA, ccMckT, e₈, ccBi]
theorem kwH239_18 {n : Nat} {m : mMi} {r : mRs} : H239 n (N 18) m r = mckO (mIsInt (r.2.1.2.1 n) (N 0)) (mckO (mIsInt (r.2.1.2.1 n) (N 1)) (bI (F163 (m 9 n 0 0) (m 9 n 0 1) m r) (fun v9 m9 r9 => some (.inl (some (mL (Int32.toInt64 v9))), m9, r9)))) := rfl
theorem kwX18 {m : mMi} {r : mRs} {E : Nat} {x₁ x₂ : Int32} (nx : kwNx r) (hE : E = 1 ∨ E = 2 ∨ E = 3) (H : ∀ M R, (∀ f i j p, f ≠ 9 → M f i j p = m f i j p) → F163 x₁ x₂ M R = rX E M (rsT R)) : ∃ M R, kwRs 3 22 r R ∧ (∀ f i j p, ¬ (f = 9 ∧ r.2.2.1 ≤ i) → M f i j p = m f i j p) ∧ H238 r.2.2.1 (N 18) (mset (mset (mfill m 9 r.2.2.1 0 2 0) 9 r.2.2.1 0 0 x₁) 9 r.2.2.1 0 1 x₂) (rsA r 20 2 2) = rI (N E) M R := by
  have e₀ : (rsA r 20 2 2).2.2.1 = r.2.2.1 + 1 := rfl
  refine ⟨(kwAr (mset (mset (mfill m 9 r.2.2.1 0 2 0) 9 r.2.2.1 0 0 x₁) 9 r.2.2.1 0 1 x₂) (rsA r 20 2 2) r.2.2.1 2), rsT (rsA (rsA r 20 2 2) 20 5 5), kwRs_le (kwRs_trans kwRs_A (kwRs_trans kwRs_A kwRs_T)) (by omega) (by omega), fun f i j p y => ?_, ?_⟩
  · rw [kwAr_o (by omega)]
    rw [ccRd, if_neg (by omega), ccRd, if_neg (by omega), mfill_ne (by omega)]
  · refine kwThr (kwNx_k kwRs_A nx) kwA_kd (by omega) (by omega) hE ?_
    have g0 : (kwAr (mset (mset (mfill m 9 r.2.2.1 0 2 0) 9 r.2.2.1 0 0 x₁) 9 r.2.2.1 0 1 x₂) (rsA r 20 2 2) r.2.2.1 2) 9 (rsA r 20 2 2).2.2.1 0 0 = x₁ := by
      rw [kwAr_i (by omega) (by omega) (by omega)]
      simp (disch := omega) only [ccRd, if_neg, if_pos, Nat.reduceEqDiff, eq_self, true_and, and_true, false_and, and_false, if_true, if_false]
    have g1 : (kwAr (mset (mset (mfill m 9 r.2.2.1 0 2 0) 9 r.2.2.1 0 0 x₁) 9 r.2.2.1 0 1 x₂) (rsA r 20 2 2) r.2.2.1 2) 9 (rsA r 20 2 2).2.2.1 0 1 = x₂ := by
      rw [kwAr_i (by omega) (by omega) (by omega)]
      simp (disch := omega) only [ccRd, if_neg, if_pos, Nat.reduceEqDiff, eq_self, true_and, and_true, false_and, and_false, if_true, if_false]
    rw [kwH239_18]
    simp (disch := omega) only [kwInt, ccMckT, g0, g1]
    rw [H _ _ (fun f i j p y => by
      rw [kwAr_o (by omega)]
      rw [ccRd, if_neg (by omega), ccRd, if_neg (by omega), mfill_ne (by omega)])]
    rfl
theorem kwK18 {m : mMi} {r : mRs} {B E : Nat} {x₁ x₂ : Int32} (nx : kwNx r) (hB : r.2.1.1 B = true) (hE : E = 1 ∨ E = 2 ∨ E = 3) (H : ∀ M R, (∀ f i j p, f ≠ 9 → M f i j p = m f i j p) → F163 x₁ x₂ M R = rX E M (rsT R)) : ∃ M R, kwRs 3 22 r R ∧ (∀ f i j p, ¬ (f = 9 ∧ r.2.2.1 ≤ i) → M f i j p = m f i j p) ∧ ∀ K : Int32 → mMi → mRs → mRz, bN 20 (N 2) m r (fun n m2 r2 => mckO (r2.2.1.1 B) (mckO (mIsArr (r2.2.1.2.1 n) 20 (N 0)) (mckO (mIsArr (r2.2.1.2.1 n) 20 (N 1)) (bI (H238 n (N 18) (mset (mset m2 9 n 0 0 x₁) 9 n 0 1 x₂) r2) K)))) = K (N E) M R := by
  obtain ⟨M, R, g₁, g₂, e₈⟩ := kwX18 nx hE H
  refine ⟨M, R, g₁, g₂, fun K => ?_⟩
  rw [kwBn nx (by omega)]
  simp (disch := omega) only [kwAl, hB, kwIsA, ccMckT, e₈, ccBi]
theorem kwH239_19 {n : Nat} {m : mMi} {r : mRs} : H239 n (N 19) m r = mckO (mIsInt (r.2.1.2.1 n) (N 0)) (bI (F164 (m 9 n 0 0) m r) (fun v8 m8 r8 => some (.inl (some (mL (Int32.toInt64 v8))), m8, r8))) := rfl
theorem kwX19 {m : mMi} {r : mRs} {E : Nat} {x₁ : Int32} (nx : kwNx r) (hE : E = 1 ∨ E = 2 ∨ E = 3) (H : ∀ M R, (∀ f i j p, f ≠ 9 → M f i j p = m f i j p) → F164 x₁ M R = rX E M (rsT R)) : ∃ M R, kwRs 3 22 r R ∧ (∀ f i j p, ¬ (f = 9 ∧ r.2.2.1 ≤ i) → M f i j p = m f i j p) ∧ H238 r.2.2.1 (N 19) (mset (mfill m 9 r.2.2.1 0 1 0) 9 r.2.2.1 0 0 x₁) (rsA r 20 1 1) = rI (N E) M R := by
  have e₀ : (rsA r 20 1 1).2.2.1 = r.2.2.1 + 1 := rfl
  refine ⟨(kwAr (mset (mfill m 9 r.2.2.1 0 1 0) 9 r.2.2.1 0 0 x₁) (rsA r 20 1 1) r.2.2.1 1), rsT (rsA (rsA r 20 1 1) 20 5 5), kwRs_le (kwRs_trans kwRs_A (kwRs_trans kwRs_A kwRs_T)) (by omega) (by omega), fun f i j p y => ?_, ?_⟩
  · rw [kwAr_o (by omega)]
    rw [ccRd, if_neg (by omega), mfill_ne (by omega)]
  · refine kwThr (kwNx_k kwRs_A nx) kwA_kd (by omega) (by omega) hE ?_
    have g0 : (kwAr (mset (mfill m 9 r.2.2.1 0 1 0) 9 r.2.2.1 0 0 x₁) (rsA r 20 1 1) r.2.2.1 1) 9 (rsA r 20 1 1).2.2.1 0 0 = x₁ := by
      rw [kwAr_i (by omega) (by omega) (by omega)]
      simp (disch := omega) only [ccRd, if_neg, if_pos, Nat.reduceEqDiff, eq_self, true_and, and_true, false_and, and_false, if_true, if_false]
    rw [kwH239_19]
    simp (disch := omega) only [kwInt, ccMckT, g0]
    rw [H _ _ (fun f i j p y => by
      rw [kwAr_o (by omega)]
      rw [ccRd, if_neg (by omega), mfill_ne (by omega)])]
    rfl
theorem kwK19 {m : mMi} {r : mRs} {B E : Nat} {x₁ : Int32} (nx : kwNx r) (hB : r.2.1.1 B = true) (hE : E = 1 ∨ E = 2 ∨ E = 3) (H : ∀ M R, (∀ f i j p, f ≠ 9 → M f i j p = m f i j p) → F164 x₁ M R = rX E M (rsT R)) : ∃ M R, kwRs 3 22 r R ∧ (∀ f i j p, ¬ (f = 9 ∧ r.2.2.1 ≤ i) → M f i j p = m f i j p) ∧ ∀ K : Int32 → mMi → mRs → mRz, bN 20 (N 1) m r (fun n m2 r2 => mckO (r2.2.1.1 B) (mckO (mIsArr (r2.2.1.2.1 n) 20 (N 0)) (bI (H238 n (N 19) (mset m2 9 n 0 0 x₁) r2) K))) = K (N E) M R := by
  obtain ⟨M, R, g₁, g₂, e₈⟩ := kwX19 nx hE H
  refine ⟨M, R, g₁, g₂, fun K => ?_⟩
  rw [kwBn nx (by omega)]
  simp (disch := omega) only [kwAl, hB, kwIsA, ccMckT, e₈, ccBi]
theorem kwH239_20 {n : Nat} {m : mMi} {r : mRs} : H239 n (N 20) m r = mckO (mIsInt (r.2.1.2.1 n) (N 0)) (mckO (mIsInt (r.2.1.2.1 n) (N 1)) (mckO (mIsInt (r.2.1.2.1 n) (N 2)) (bI (F165 (m 9 n 0 0) (m 9 n 0 1) (m 9 n 0 2) m r) (fun v7 m7 r7 => some (.inl (some (mL (Int32.toInt64 v7))), m7, r7))))) := rfl
theorem kwX20 {m : mMi} {r : mRs} {E : Nat} {x₁ x₂ x₃ : Int32} (nx : kwNx r) (hE : E = 1 ∨ E = 2 ∨ E = 3) (H : ∀ M R, (∀ f i j p, f ≠ 9 → M f i j p = m f i j p) → F165 x₁ x₂ x₃ M R = rX E M (rsT R)) : ∃ M R, kwRs 3 22 r R ∧ (∀ f i j p, ¬ (f = 9 ∧ r.2.2.1 ≤ i) → M f i j p = m f i j p) ∧ H238 r.2.2.1 (N 20) (mset (mset (mset (mfill m 9 r.2.2.1 0 3 0) 9 r.2.2.1 0 0 x₁) 9 r.2.2.1 0 1 x₂) 9 r.2.2.1 0 2 x₃) (rsA r 20 3 3) = rI (N E) M R := by
  have e₀ : (rsA r 20 3 3).2.2.1 = r.2.2.1 + 1 := rfl
  refine ⟨(kwAr (mset (mset (mset (mfill m 9 r.2.2.1 0 3 0) 9 r.2.2.1 0 0 x₁) 9 r.2.2.1 0 1 x₂) 9 r.2.2.1 0 2 x₃) (rsA r 20 3 3) r.2.2.1 3), rsT (rsA (rsA r 20 3 3) 20 5 5), kwRs_le (kwRs_trans kwRs_A (kwRs_trans kwRs_A kwRs_T)) (by omega) (by omega), fun f i j p y => ?_, ?_⟩
  · rw [kwAr_o (by omega)]
    rw [ccRd, if_neg (by omega), ccRd, if_neg (by omega), ccRd, if_neg (by omega), mfill_ne (by omega)]
  · refine kwThr (kwNx_k kwRs_A nx) kwA_kd (by omega) (by omega) hE ?_
    have g0 : (kwAr (mset (mset (mset (mfill m 9 r.2.2.1 0 3 0) 9 r.2.2.1 0 0 x₁) 9 r.2.2.1 0 1 x₂) 9 r.2.2.1 0 2 x₃) (rsA r 20 3 3) r.2.2.1 3) 9 (rsA r 20 3 3).2.2.1 0 0 = x₁ := by
      rw [kwAr_i (by omega) (by omega) (by omega)]
      simp (disch := omega) only [ccRd, if_neg, if_pos, Nat.reduceEqDiff, eq_self, true_and, and_true, false_and, and_false, if_true, if_false]
    have g1 : (kwAr (mset (mset (mset (mfill m 9 r.2.2.1 0 3 0) 9 r.2.2.1 0 0 x₁) 9 r.2.2.1 0 1 x₂) 9 r.2.2.1 0 2 x₃) (rsA r 20 3 3) r.2.2.1 3) 9 (rsA r 20 3 3).2.2.1 0 1 = x₂ := by
      rw [kwAr_i (by omega) (by omega) (by omega)]
      simp (disch := omega) only [ccRd, if_neg, if_pos, Nat.reduceEqDiff, eq_self, true_and, and_true, false_and, and_false, if_true, if_false]
    have g2 : (kwAr (mset (mset (mset (mfill m 9 r.2.2.1 0 3 0) 9 r.2.2.1 0 0 x₁) 9 r.2.2.1 0 1 x₂) 9 r.2.2.1 0 2 x₃) (rsA r 20 3 3) r.2.2.1 3) 9 (rsA r 20 3 3).2.2.1 0 2 = x₃ := by
      rw [kwAr_i (by omega) (by omega) (by omega)]
      simp (disch := omega) only [ccRd, if_neg, if_pos, Nat.reduceEqDiff, eq_self, true_and, and_true, false_and, and_false, if_true, if_false]
    rw [kwH239_20]
    simp (disch := omega) only [kwInt, ccMckT, g0, g1, g2]
    rw [H _ _ (fun f i j p y => by
      rw [kwAr_o (by omega)]
      rw [ccRd, if_neg (by omega), ccRd, if_neg (by omega), ccRd, if_neg (by omega), mfill_ne (by omega)])]
    rfl
theorem kwK20 {m : mMi} {r : mRs} {B E : Nat} {x₁ x₂ x₃ : Int32} (nx : kwNx r) (hB : r.2.1.1 B = true) (hE : E = 1 ∨ E = 2 ∨ E = 3) (H : ∀ M R, (∀ f i j p, f ≠ 9 → M f i j p = m f i j p) → F165 x₁ x₂ x₃ M R = rX E M (rsT R)) : ∃ M R, kwRs 3 22 r R ∧ (∀ f i j p, ¬ (f = 9 ∧ r.2.2.1 ≤ i) → M f i j p = m f i j p) ∧ ∀ K : Int32 → mMi → mRs → mRz, bN 20 (N 3) m r (fun n m2 r2 => mckO (r2.2.1.1 B) (mckO (mIsArr (r2.2.1.2.1 n) 20 (N 0)) (mckO (mIsArr (r2.2.1.2.1 n) 20 (N 1)) (mckO (mIsArr (r2.2.1.2.1 n) 20 (N 2)) (bI (H238 n (N 20) (mset (mset (mset m2 9 n 0 0 x₁) 9 n 0 1 x₂) 9 n 0 2 x₃) r2) K))))) = K (N E) M R := by
  obtain ⟨M, R, g₁, g₂, e₈⟩ := kwX20 nx hE H
  refine ⟨M, R, g₁, g₂, fun K => ?_⟩
  rw [kwBn nx (by omega)]
  simp (disch := omega) only [kwAl, hB, kwIsA, ccMckT, e₈, ccBi]
theorem kwH239_21 {n : Nat} {m : mMi} {r : mRs} : H239 n (N 21) m r = mckO (mIsInt (r.2.1.2.1 n) (N 0)) (bI (F166 (m 9 n 0 0) m r) (fun v6 m6 r6 => some (.inl (some (mL (Int32.toInt64 v6))), m6, r6))) := rfl
theorem kwX21 {m : mMi} {r : mRs} {E : Nat} {x₁ : Int32} (nx : kwNx r) (hE : E = 1 ∨ E = 2 ∨ E = 3) (H : ∀ M R, (∀ f i j p, f ≠ 9 → M f i j p = m f i j p) → F166 x₁ M R = rX E M (rsT R)) : ∃ M R, kwRs 3 22 r R ∧ (∀ f i j p, ¬ (f = 9 ∧ r.2.2.1 ≤ i) → M f i j p = m f i j p) ∧ H238 r.2.2.1 (N 21) (mset (mfill m 9 r.2.2.1 0 1 0) 9 r.2.2.1 0 0 x₁) (rsA r 20 1 1) = rI (N E) M R := by
  have e₀ : (rsA r 20 1 1).2.2.1 = r.2.2.1 + 1 := rfl
  refine ⟨(kwAr (mset (mfill m 9 r.2.2.1 0 1 0) 9 r.2.2.1 0 0 x₁) (rsA r 20 1 1) r.2.2.1 1), rsT (rsA (rsA r 20 1 1) 20 5 5), kwRs_le (kwRs_trans kwRs_A (kwRs_trans kwRs_A kwRs_T)) (by omega) (by omega), fun f i j p y => ?_, ?_⟩
  · rw [kwAr_o (by omega)]
    rw [ccRd, if_neg (by omega), mfill_ne (by omega)]
  · refine kwThr (kwNx_k kwRs_A nx) kwA_kd (by omega) (by omega) hE ?_
    have g0 : (kwAr (mset (mfill m 9 r.2.2.1 0 1 0) 9 r.2.2.1 0 0 x₁) (rsA r 20 1 1) r.2.2.1 1) 9 (rsA r 20 1 1).2.2.1 0 0 = x₁ := by
      rw [kwAr_i (by omega) (by omega) (by omega)]
      simp (disch := omega) only [ccRd, if_neg, if_pos, Nat.reduceEqDiff, eq_self, true_and, and_true, false_and, and_false, if_true, if_false]
    rw [kwH239_21]
    simp (disch := omega) only [kwInt, ccMckT, g0]
    rw [H _ _ (fun f i j p y => by
      rw [kwAr_o (by omega)]
      rw [ccRd, if_neg (by omega), mfill_ne (by omega)])]
    rfl
theorem kwK21 {m : mMi} {r : mRs} {B E : Nat} {x₁ : Int32} (nx : kwNx r) (hB : r.2.1.1 B = true) (hE : E = 1 ∨ E = 2 ∨ E = 3) (H : ∀ M R, (∀ f i j p, f ≠ 9 → M f i j p = m f i j p) → F166 x₁ M R = rX E M (rsT R)) : ∃ M R, kwRs 3 22 r R ∧ (∀ f i j p, ¬ (f = 9 ∧ r.2.2.1 ≤ i) → M f i j p = m f i j p) ∧ ∀ K : Int32 → mMi → mRs → mRz, bN 20 (N 1) m r (fun n m2 r2 => mckO (r2.2.1.1 B) (mckO (mIsArr (r2.2.1.2.1 n) 20 (N 0)) (bI (H238 n (N 21) (mset m2 9 n 0 0 x₁) r2) K))) = K (N E) M R := by
  obtain ⟨M, R, g₁, g₂, e₈⟩ := kwX21 nx hE H
  refine ⟨M, R, g₁, g₂, fun K => ?_⟩
  rw [kwBn nx (by omega)]
  simp (disch := omega) only [kwAl, hB, kwIsA, ccMckT, e₈, ccBi]
theorem kwH239_22 {n : Nat} {m : mMi} {r : mRs} : H239 n (N 22) m r = bI (F167 m r) (fun v5 m5 r5 => some (.inl (some (mL (Int32.toInt64 v5))), m5, r5)) := rfl
theorem kwX22 {m : mMi} {r : mRs} {E : Nat} (nx : kwNx r) (hE : E = 1 ∨ E = 2 ∨ E = 3) (H : ∀ M R, (∀ f i j p, f ≠ 9 → M f i j p = m f i j p) → F167  M R = rX E M (rsT R)) : ∃ M R, kwRs 3 22 r R ∧ (∀ f i j p, ¬ (f = 9 ∧ r.2.2.1 ≤ i) → M f i j p = m f i j p) ∧ H238 r.2.2.1 (N 22) (mfill m 9 r.2.2.1 0 0 0) (rsA r 20 0 0) = rI (N E) M R := by
  have e₀ : (rsA r 20 0 0).2.2.1 = r.2.2.1 + 1 := rfl
  refine ⟨(kwAr (mfill m 9 r.2.2.1 0 0 0) (rsA r 20 0 0) r.2.2.1 0), rsT (rsA (rsA r 20 0 0) 20 5 5), kwRs_le (kwRs_trans kwRs_A (kwRs_trans kwRs_A kwRs_T)) (by omega) (by omega), fun f i j p y => ?_, ?_⟩
  · rw [kwAr_o (by omega)]
    rw [mfill_ne (by omega)]
  · refine kwThr (kwNx_k kwRs_A nx) kwA_kd (by omega) (by omega) hE ?_
    rw [kwH239_22]
    rw [H _ _ (fun f i j p y => by
      rw [kwAr_o (by omega)]
      rw [mfill_ne (by omega)])]
    rfl
theorem kwK22 {m : mMi} {r : mRs} {B E : Nat} (nx : kwNx r) (hB : r.2.1.1 B = true) (hE : E = 1 ∨ E = 2 ∨ E = 3) (H : ∀ M R, (∀ f i j p, f ≠ 9 → M f i j p = m f i j p) → F167  M R = rX E M (rsT R)) : ∃ M R, kwRs 3 22 r R ∧ (∀ f i j p, ¬ (f = 9 ∧ r.2.2.1 ≤ i) → M f i j p = m f i j p) ∧ ∀ K : Int32 → mMi → mRs → mRz, bN 20 (N 0) m r (fun n m2 r2 => mckO (r2.2.1.1 B) (bI (H238 n (N 22) m2 r2) K)) = K (N E) M R := by
  obtain ⟨M, R, g₁, g₂, e₈⟩ := kwX22 nx hE H
  refine ⟨M, R, g₁, g₂, fun K => ?_⟩
  rw [kwBn nx (by omega)]
  simp (disch := omega) only [kwAl, hB, kwIsA, ccMckT, e₈, ccBi]
theorem kwH239_26 {n : Nat} {m : mMi} {r : mRs} : H239 n (N 26) m r = mckO (mIsInt (r.2.1.2.1 n) (N 0)) (bI (F113 (m 9 n 0 0) m r) (fun v1 m1 r1 => some (.inl (some (mL (Int32.toInt64 v1))), m1, r1))) := rfl
theorem kwX26 {m : mMi} {r : mRs} {E : Nat} {x₁ : Int32} (nx : kwNx r) (hE : E = 1 ∨ E = 2 ∨ E = 3) (H : ∀ M R, (∀ f i j p, f ≠ 9 → M f i j p = m f i j p) → F113 x₁ M R = rX E M (rsT R)) : ∃ M R, kwRs 3 22 r R ∧ (∀ f i j p, ¬ (f = 9 ∧ r.2.2.1 ≤ i) → M f i j p = m f i j p) ∧ H238 r.2.2.1 (N 26) (mset (mfill m 9 r.2.2.1 0 1 0) 9 r.2.2.1 0 0 x₁) (rsA r 20 1 1) = rI (N E) M R := by
  have e₀ : (rsA r 20 1 1).2.2.1 = r.2.2.1 + 1 := rfl
  refine ⟨(kwAr (mset (mfill m 9 r.2.2.1 0 1 0) 9 r.2.2.1 0 0 x₁) (rsA r 20 1 1) r.2.2.1 1), rsT (rsA (rsA r 20 1 1) 20 5 5), kwRs_le (kwRs_trans kwRs_A (kwRs_trans kwRs_A kwRs_T)) (by omega) (by omega), fun f i j p y => ?_, ?_⟩
  · rw [kwAr_o (by omega)]
    rw [ccRd, if_neg (by omega), mfill_ne (by omega)]
  · refine kwThr (kwNx_k kwRs_A nx) kwA_kd (by omega) (by omega) hE ?_
    have g0 : (kwAr (mset (mfill m 9 r.2.2.1 0 1 0) 9 r.2.2.1 0 0 x₁) (rsA r 20 1 1) r.2.2.1 1) 9 (rsA r 20 1 1).2.2.1 0 0 = x₁ := by
      rw [kwAr_i (by omega) (by omega) (by omega)]
      simp (disch := omega) only [ccRd, if_neg, if_pos, Nat.reduceEqDiff, eq_self, true_and, and_true, false_and, and_false, if_true, if_false]
    rw [kwH239_26]
    simp (disch := omega) only [kwInt, ccMckT, g0]
    rw [H _ _ (fun f i j p y => by
      rw [kwAr_o (by omega)]
      rw [ccRd, if_neg (by omega), mfill_ne (by omega)])]
    rfl
theorem kwK26 {m : mMi} {r : mRs} {B E : Nat} {x₁ : Int32} (nx : kwNx r) (hB : r.2.1.1 B = true) (hE : E = 1 ∨ E = 2 ∨ E = 3) (H : ∀ M R, (∀ f i j p, f ≠ 9 → M f i j p = m f i j p) → F113 x₁ M R = rX E M (rsT R)) : ∃ M R, kwRs 3 22 r R ∧ (∀ f i j p, ¬ (f = 9 ∧ r.2.2.1 ≤ i) → M f i j p = m f i j p) ∧ ∀ K : Int32 → mMi → mRs → mRz, bN 20 (N 1) m r (fun n m2 r2 => mckO (r2.2.1.1 B) (mckO (mIsArr (r2.2.1.2.1 n) 20 (N 0)) (bI (H238 n (N 26) (mset m2 9 n 0 0 x₁) r2) K))) = K (N E) M R := by
  obtain ⟨M, R, g₁, g₂, e₈⟩ := kwX26 nx hE H
  refine ⟨M, R, g₁, g₂, fun K => ?_⟩
  rw [kwBn nx (by omega)]
  simp (disch := omega) only [kwAl, hB, kwIsA, ccMckT, e₈, ccBi]
