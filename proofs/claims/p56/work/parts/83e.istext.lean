/-! TEXTS that are read: isText. -/
def kwTxt (m : mMi) (t : List Nat) : Prop := m 2 7 0 1 = N t.length ∧ t.length ≤ 240 ∧ ∀ k, k < t.length → m 2 7 1 k = N (t.getD k 0)
theorem kwTw_lt : ∀ (t : List Nat) (m : mMi) (e p : Nat), p < e → ccTwL t m e 2 7 1 p = m 2 7 1 p := by
  intro t
  induction t with
  | nil => intro m e p _; rfl
  | cons b t i₁ =>
    intro m e p h
    show ccTwL t (mset (mset m 2 7 1 e (N b)) 2 7 0 1 (N (e + 1))) (e + 1) 2 7 1 p = _
    rw [i₁ _ _ _ (by omega), ccRd, if_neg (by omega), ccRd, if_neg (by omega)]
theorem kwTw_g : ∀ (t : List Nat) (m : mMi) (e k : Nat), k < t.length → ccTwL t m e 2 7 1 (e + k) = N (t.getD k 0) := by
  intro t
  induction t with
  | nil => intro m e k h; exact absurd h (Nat.not_lt_zero k)
  | cons b t i₁ =>
    intro m e k h
    show ccTwL t (mset (mset m 2 7 1 e (N b)) 2 7 0 1 (N (e + 1))) (e + 1) 2 7 1 (e + k) = _
    rw [List.length_cons] at h
    cases k with
    | zero =>
      rw [kwTw_lt _ _ _ _ (by omega), ccRd, if_neg (by omega), ccRd, if_pos ⟨rfl, rfl, rfl, Nat.add_zero e⟩]
      rfl
    | succ k =>
      have e₁ : e + (k + 1) = (e + 1) + k := by omega
      rw [e₁, i₁ _ _ _ (by omega)]
      rfl
theorem kwTxt_w {t : List Nat} {m : mMi} (h₁ : m 2 7 0 1 = N 0) (h₂ : t.length ≤ 240) : kwTxt (ccTwL t m 0) t := ⟨by
  rw [ccTwL_n t m 0 h₁, Nat.zero_add], h₂, fun k y => by
  have z := kwTw_g t m 0 k y
  rw [Nat.zero_add] at z
  exact z⟩
theorem kwTxt_cg {t : List Nat} {m M : mMi} (h : kwTxt m t) (h₁ : ∀ j p, M 2 7 j p = m 2 7 j p) : kwTxt M t := ⟨by rw [h₁]; exact h.1, h.2.1, fun k y => by rw [h₁]; exact h.2.2 k y⟩
theorem kwE156 {t : List Nat} {m : mMi} {r : mRs} {k : Nat} (h : kwTxt m t) (hk : k < t.length) : F156 (N k) m r = rI (N (t.getD k 0)) m r := by
  have b := h.2.1
  unfold F156
  rw [h.1, ccE106 (by omega) (by omega), if_pos hk, ccBv, ccMckIn (by omega) (by omega), mix_N (by omega), h.2.2 k hk]
theorem kwN156 {t : List Nat} {m : mMi} {r : mRs} (h : kwTxt m t) : F156 (N t.length) m r = rX 2 m (rsT r) := by
  have b := h.2.1
  unfold F156
  rw [h.1, ccE106 (by omega) (by omega), if_neg (by omega), ccBvX]
theorem kwH243 {f a2 : Nat} {x1 x3 : Int32} {mi : mMi} {rs : mRs} : H243_12 a2 (f + 1) x1 x3 mi rs = mckO (mIsObj (rs.2.1.2.1 a2) 15) (bI (H223 a2 mi rs) (fun v1 m1 r1 => mifO (decide (v1 ≤ x3)) (bN 20 (N 1) m1 r1 (fun n2 m2 r2 => mckO (mIsArr (r2.2.1.2.1 n2) 20 (N 0)) (bI (H238 n2 (N 11) (mset m2 9 n2 0 0 x1) r2) (fun v3 m3 r3 => mifO (decide (v3 ≠ (N 2))) (mckO (mZ (N 0) || false) (some (.inl (some (mI (N 0))), m3, r3))) (mckO (mZ (N 1) || false) (some (.inl (some (mI (N 1))), m3, r3))))))) (bI (F156 x3 m1 r1) (fun v4 m4 r4 => mckO (mIsObj (r4.2.1.2.1 a2) 15) (bI (H224 a2 x3 m4 r4) (fun v5 m5 r5 => mifO (decide (v4 = v5)) (H243_12 a2 f x1 (x3 + (N 1)) m5 r5) (some (.inl (some (mI (N 0))), m5, r5)))))))) := rfl
theorem kwEnd2b {A : mRz} {m : mMi} {r : mRs} : mifO (decide (N 2 ≠ N 2)) A (mckO (mZ (N 1) || false) (some (.inl (some (mI (N 1))), m, r))) = rI (N 1) m r := rfl
/-- textByte behind the text is refused; no text's row is touched -/
theorem kwX11v {m : mMi} {r : mRs} {E : Nat} {x₁ : Int32} (nx : kwNx r) (hE : E = 1 ∨ E = 2 ∨ E = 3) (H : ∀ M R, (∀ f i j p, f ≠ 9 → M f i j p = m f i j p) → F156 x₁ M R = rX E M (rsT R)) : ∃ M R, kwRs 3 22 r R ∧ (∀ f i j p, ¬ (f = 9 ∧ r.2.2.1 ≤ i) → M f i j p = m f i j p) ∧ H238 r.2.2.1 (N 11) (mset (mfill m 9 r.2.2.1 0 1 0) 9 r.2.2.1 0 0 x₁) (rsA r 20 1 1) = rI (N E) M R ∧ ∀ b, R.2.1.2.2 b = r.2.1.2.2 b := by
  have e₀ : (rsA r 20 1 1).2.2.1 = r.2.2.1 + 1 := rfl
  refine ⟨(kwAr (mset (mfill m 9 r.2.2.1 0 1 0) 9 r.2.2.1 0 0 x₁) (rsA r 20 1 1) r.2.2.1 1), rsT (rsA (rsA r 20 1 1) 20 5 5), kwRs_le (kwRs_trans kwRs_A (kwRs_trans kwRs_A kwRs_T)) (by omega) (by omega), fun f i j p y => ?_, ?_, fun _ => rfl⟩
  · rw [kwAr_o (by omega)]
    rw [ccRd, if_neg (by omega), mfill_ne (by omega)]
  · refine kwThr (kwNx_k kwRs_A nx) kwA_kd (by omega) (by omega) hE ?_
    have g0 : (kwAr (mset (mfill m 9 r.2.2.1 0 1 0) 9 r.2.2.1 0 0 x₁) (rsA r 20 1 1) r.2.2.1 1) 9 (rsA r 20 1 1).2.2.1 0 0 = x₁ := by
      rw [kwAr_i (by omega) (by omega) (by omega)]
      simp (disch := omega) only [ccRd, if_neg, if_pos, Nat.reduceEqDiff, eq_self, true_and, and_true, false_and, and_false, if_true, if_false]
    rw [kwH239_11]
    simp (disch := omega) only [kwInt, ccMckT, g0]
    rw [H _ _ (fun f i j p y => by
      rw [kwAr_o (by omega)]
      rw [ccRd, if_neg (by omega), mfill_ne (by omega)])]
    rfl
/-- isText of a text that was built -/
theorem kwIsT {n₀ : Nat} {m : mMi} {r : mRs} {s : Nat} {t : List Nat} (nx : kwNx r) (h : kwStr n₀ m r s t) (h₁ : kwTxt m t) : ∃ M R, H243 s (N t.length) m r = rI (N 1) M R ∧ kwRs 3 22 r R ∧ kwF9 r m M ∧ ∀ b, R.2.1.2.2 b = r.2.1.2.2 b := by
  obtain ⟨M, R, f₁, g₁, c₁, v₁⟩ := kwX11v (m := m) (r := r) (E := 2) (x₁ := N t.length) nx (by omega) (fun M R y => kwN156 (kwTxt_cg h₁ (fun j p => y 2 7 j p (by omega))))
  have bl := h₁.2.1
  obtain ⟨v, _, k₁, _⟩ := id h
  have lp : ∀ d k f, k + d = t.length → H243_12 s (f + d + 1) (N t.length) (N k) m r = rI (N 1) M R := by
    intro d
    induction d with
    | zero =>
      intro k f y
      have e₁ : k = t.length := by omega
      have e₂ : N t.length ≤ N t.length := by rw [N_le (by omega) (by omega)]; omega
      subst e₁
      rw [kwH243, kwObj k₁, kwE223 h, ccBi, ccIte, if_pos e₂, kwBn nx (by omega)]
      simp (disch := omega) only [kwIsA, ccMckT, c₁, ccBi]
      rw [kwEnd2b]
    | succ d i₁ =>
      intro k f y
      have e₀ : f + (d + 1) + 1 = f + d + 1 + 1 := by omega
      have e₂ : ¬ N t.length ≤ N k := by rw [N_le (by omega) (by omega)]; omega
      rw [e₀, kwH243, kwObj k₁, kwE223 h, ccBi, ccIte, if_neg e₂, kwE156 h₁ (by omega), ccBi, kwObj k₁, kwE224 h (by omega), ccBi, ccIte, if_pos rfl, N_add]
      exact i₁ (k + 1) f (by omega)
  refine ⟨M, R, ?_, f₁, g₁, v₁⟩
  obtain ⟨g, hg⟩ := ccFU (k := t.length) (by omega)
  unfold H243
  rw [kwObj k₁, kwE223 h, ccBi, ccIte, if_pos rfl, hg]
  exact lp t.length 0 g (by omega)
theorem kwH243p {f k2 : Nat} {x1 x3 : Int32} {mi : mMi} {rs : mRs} : H243p_12 k2 (f + 1) x1 x3 mi rs = mckO (mTxO k2) (mifO (decide ((Int32.ofNat (mTxt k2).length) ≤ x3)) (bN 20 (N 1) mi rs (fun n1 m1 r1 => mckO (mIsArr (r1.2.1.2.1 n1) 20 (N 0)) (bI (H238 n1 (N 11) (mset m1 9 n1 0 0 x1) r1) (fun v2 m2 r2 => mifO (decide (v2 ≠ (N 2))) (mckO (mZ (N 0) || false) (some (.inl (some (mI (N 0))), m2, r2))) (mckO (mZ (N 1) || false) (some (.inl (some (mI (N 1))), m2, r2))))))) (bI (F156 x3 mi rs) (fun v3 m3 r3 => mckO (mIn x3 (mTxt k2).length) (mifO (decide (v3 = ((mTxt k2).getD (mix x3) 0))) (H243p_12 k2 f x1 (x3 + (N 1)) m3 r3) (some (.inl (some (mI (N 0))), m3, r3)))))) := rfl
/-- isText of a text of the pools -/
theorem kwIsP {k₂ : Nat} {m : mMi} {r : mRs} {t : List Nat} (nx : kwNx r) (h : kwPool k₂ t) (h₁ : kwTxt m t) : ∃ M R, H243p k₂ (N t.length) m r = rI (N 1) M R ∧ kwRs 3 22 r R ∧ kwF9 r m M ∧ ∀ b, R.2.1.2.2 b = r.2.1.2.2 b := by
  obtain ⟨M, R, f₁, g₁, c₁, v₁⟩ := kwX11v (m := m) (r := r) (E := 2) (x₁ := N t.length) nx (by omega) (fun M R y => kwN156 (kwTxt_cg h₁ (fun j p => y 2 7 j p (by omega))))
  have bl := h₁.2.1
  obtain ⟨p₁, p₂, p₃, p₄⟩ := h
  have lu : (mTxt k₂).length = t.length := by rw [p₂, List.length_map]
  have lp : ∀ d k f, k + d = t.length → H243p_12 k₂ (f + d + 1) (N t.length) (N k) m r = rI (N 1) M R := by
    intro d
    induction d with
    | zero =>
      intro k f y
      have e₁ : k = t.length := by omega
      have e₂ : N t.length ≤ N t.length := by rw [N_le (by omega) (by omega)]; omega
      subst e₁
      rw [kwH243p, p₁, ccMckT, lu, kwOf, ccIte, if_pos e₂, kwBn nx (by omega)]
      simp (disch := omega) only [kwIsA, ccMckT, c₁, ccBi]
      rw [kwEnd2b]
    | succ d i₁ =>
      intro k f y
      have e₀ : f + (d + 1) + 1 = f + d + 1 + 1 := by omega
      have e₂ : ¬ N t.length ≤ N k := by rw [N_le (by omega) (by omega)]; omega
      rw [e₀, kwH243p, p₁, ccMckT, lu, kwOf, ccIte, if_neg e₂, kwE156 h₁ (by omega), ccBi, ccMckIn (by omega) (by omega), mix_N (by omega), kwPool_g p₂ (by omega), ccIte, if_pos rfl, N_add]
      exact i₁ (k + 1) f (by omega)
  refine ⟨M, R, ?_, f₁, g₁, v₁⟩
  obtain ⟨g, hg⟩ := ccFU (k := t.length) (by omega)
  unfold H243p
  rw [p₁, ccMckT, lu, kwOf, ccIte, if_pos rfl, hg]
  exact lp t.length 0 g (by omega)
