/-! TEXTS that are built: a builder is made, the text is taken, it is read. -/
theorem kwE199 {m : mMi} {r : mRs} (nx : kwNx r) : ∃ M R, (∀ k : Nat → mMi → mRs → mRz, bNo 14 4 m r k = k r.2.2.1 (mfill m 9 r.2.2.1 0 4 0) (rsO r 14 4)) ∧ H199 r.2.2.1 (mfill m 9 r.2.2.1 0 4 0) (rsO r 14 4) = rV M R ∧ kwB r.2.2.1 M R r.2.2.1 16 [] ∧ kwRs 2 20 r R ∧ kwOp r.2.2.1 r m M R := by
  have nx₁ : kwNx (rsO r 14 4) := kwNx_k (kwRs_O (r := r) (ci := 14) (n := 4)) nx
  have k₁ : (rsA (rsO r 14 4) 22 16 16).2.1.2.1 r.2.2.1 = some (14, 0) := by
    rw [kwA_lt (Nat.lt_succ_self _)]
    exact kwO_kd
  have k₂ : (rsA (rsO r 14 4) 22 16 16).2.1.2.1 (r.2.2.1 + 1) = some (22, 16) := kwA_kd
  refine ⟨mset (mfill (mfill m 9 r.2.2.1 0 4 0) 9 (r.2.2.1 + 1) 0 16 0) 9 r.2.2.1 0 1 (N 0), rsV (rsA (rsO r 14 4) 22 16 16) r.2.2.1 (r.2.2.1 + 1), fun k => kwBo nx, ?_, ⟨r.2.2.1 + 1, ⟨Nat.le_refl _, Nat.lt_succ_of_lt (Nat.lt_succ_self _), Nat.le_succ _, Nat.lt_succ_self _, by omega⟩, k₁, kwV_v, k₂, ?_, ?_, by decide, by decide, fun k y => ?_, fun k y => absurd y (Nat.not_lt_zero k)⟩, kwRs_le (kwRs_trans kwRs_O (kwRs_trans kwRs_A kwRs_V)) (by omega) (by omega), ⟨fun f i j p y => ?_, fun b y => ?_⟩⟩
  · unfold H199 H207
    rw [kwBk nx₁ (by omega)]
    show bV (bP 14 r.2.2.1 (r.2.2.1 + 1) _ (rsA (rsO r 14 4) 22 16 16) _) _ = _
    rw [kwBp k₁]
    show bV (mckO (mIsObj ((rsA (rsO r 14 4) 22 16 16).2.1.2.1 r.2.2.1) 14) _) _ = _
    rw [kwObj k₁]
    rfl
  · rw [ccRd, if_pos ⟨rfl, rfl, rfl, rfl⟩]
  · rw [ccRd, if_neg (by omega), kwFlR, if_neg (by omega), kwFlR, if_pos ⟨rfl, rfl, rfl, by omega⟩]
    rfl
  · rw [ccRd, if_neg (by omega), kwFlR, if_pos ⟨rfl, rfl, rfl, y⟩]
    exact ⟨0, by omega, rfl⟩
  · rw [ccRd, if_neg (by omega), kwFlR, if_neg (by omega), kwFlR, if_neg (by omega)]
  · rw [kwV_n (by omega)]
    exact kwO_n (r := r) (ci := 14) (n := 4) (by omega)
/-- the text s -/
def kwStr (n₀ : Nat) (m : mMi) (r : mRs) (s : Nat) (t : List Nat) : Prop := ∃ v, (n₀ ≤ s ∧ s < r.2.2.1 ∧ n₀ ≤ v ∧ v < r.2.2.1) ∧ r.2.1.2.1 s = some (15, 0) ∧ r.2.1.2.2 s = v + 1 ∧ r.2.1.2.1 v = some (22, t.length) ∧ m 9 s 0 1 = N 0 ∧ t.length ≤ 20000 ∧ (∀ k, k < t.length → t.getD k 0 < 128) ∧ ∀ k, k < t.length → m 9 v 0 k = N (t.getD k 0)
theorem kwE206 {m : mMi} {r : mRs} {a n : Nat} (k₁ : r.2.1.2.1 a = some (14, n)) : H206 a m r = rI (m 9 a 0 3) m r := by
  unfold H206 H218
  rw [kwObj k₁, kwObj k₁, ccBi]
theorem kwE232 {m : mMi} {r : mRs} {v cap x : Nat} (nx : kwNx r) (k₃ : r.2.1.2.1 v = some (22, cap)) (l₁ : x ≤ cap) (l₂ : cap ≤ 20000) (y₁ : ∀ k, k < cap → ∃ b, b < 128 ∧ m 9 v 0 k = N b) (hv : v < r.2.2.1) : ∃ M, H232 v (N 0) (N x) m r = some (.inl (some (mR 9 r.2.2.1 0)), M, rsA r 22 x x) ∧ (∀ k, k < x → M 9 r.2.2.1 0 k = m 9 v 0 k) ∧ kwF9 r m M := by
  have kn : (rsA r 22 x x).2.1.2.1 r.2.2.1 = some (22, x) := kwA_kd
  have kv : (rsA r 22 x x).2.1.2.1 v = some (22, cap) := by rw [kwA_lt hv]; exact k₃
  by_cases g : x = cap
  · subst g
    have by₁ : mByteOk m 9 v 0 0 x = true := kwBytes y₁ (Nat.le_refl _)
    have e₁ : Nat.ble x 100000 = true := Nat.ble_eq_true_of_le (by omega)
    refine ⟨mcopy m 9 v 0 0 9 r.2.2.1 0 0 x, ?_, fun k y => ?_, fun f i j p y => ?_⟩
    · have e₂ : ∀ k : Nat → mMi → mRs → mRz, bC v m r k = k r.2.2.1 (mcopy m 9 v 0 0 9 r.2.2.1 0 0 x) (rsA r 22 x x) := fun k => by
        unfold bC
        rw [k₃]
        show mckO ((Nat.beq 22 22 && Nat.ble x 100000 && mByteOk m 9 v 0 0 x) && nOk r) _ = _
        rw [e₁, by₁, kwNx_ok nx]
        rfl
      unfold H232
      rw [ccIte, if_neg (by intro y; exact y rfl), k₃, kwLn, kwOf, ccIte, if_pos rfl, e₂, kwObj kn]
    · rw [kwCpR, if_pos ⟨rfl, rfl, rfl, by omega, by omega⟩]
      have e₅ : 0 + (k - 0) = k := by omega
      rw [e₅]
    · rw [kwCpR, if_neg (fun z => y ⟨z.1, by omega⟩)]
  · have n₁ : ¬ N x = N cap := by rw [N_eq (by omega) (by omega)]; exact g
    have s₁ : N x - N 0 = N x := N_sub (Nat.zero_le _)
    have s₂ : N cap - N 0 = N cap := N_sub (Nat.zero_le _)
    have i₁ : (if N x < N cap then N x else N cap) = N x := if_pos (by rw [N_lt (by omega) (by omega)]; omega)
    have fv : ∀ k, mfill m 9 r.2.2.1 0 x 0 9 v 0 k = m 9 v 0 k := fun k => by rw [kwFlR, if_neg (by omega)]
    have by₁ : mByteOk (mfill m 9 r.2.2.1 0 x 0) 9 v 0 0 x = true := kwBytes (cap := cap) (fun k y => by
      rw [fv k]
      exact y₁ k y) l₁
    have s₃ : (mSpanY (some (22, cap)) (N 0) (N x) && mSpanY (some (22, x)) (N 0) (N x) && mByteOk (mfill m 9 r.2.2.1 0 x 0) 9 v 0 0 x || mSpan (some (22, cap)) (N 0) (N x) && mSpan (some (22, x)) (N 0) (N x)) = true := by
      rw [kwSpY (by omega) (by omega), kwSpY (by omega) (by omega), by₁]
      rfl
    have e₀ : H90 (N 0) (N x) m r = rV m r := by
      unfold H90
      rw [ccIte, if_pos (by rw [N_le (by omega) (by omega)]; omega)]
    refine ⟨mcopy (mfill m 9 r.2.2.1 0 x 0) 9 v 0 0 9 r.2.2.1 0 0 x, ?_, fun k y => ?_, fun f i j p y => ?_⟩
    · unfold H232 H233
      rw [ccIte, if_neg (by intro y; exact y rfl), k₃, kwLn, kwOf, ccIte, if_neg n₁, e₀, ccBv, s₁, kwBk nx (by omega), kv, kwLn, kn, kwOf, s₂, i₁, mix_N (by omega), mix_N (by omega), s₃, ccMckT, kwBr]
    · rw [kwCpR, if_pos ⟨rfl, rfl, rfl, by omega, by omega⟩, fv]
      have e₅ : 0 + (k - 0) = k := by omega
      rw [e₅]
    · rw [kwCpR, if_neg (fun z => y ⟨z.1, by omega⟩), kwFlR, if_neg (fun z => y ⟨z.1, by omega⟩)]
/-- the text of a builder is taken -/
theorem kwE204 {n₀ : Nat} {m : mMi} {r : mRs} {a cap : Nat} {t : List Nat} (h : kwB n₀ m r a cap t) (nx : kwNx r) : ∃ M R, H204 a m r = some (.inl (some (mR 9 r.2.2.1 0)), M, R) ∧ kwStr r.2.2.1 M R r.2.2.1 t ∧ kwRs 2 (4 + t.length) r R ∧ kwOp r.2.2.1 r m M R := by
  obtain ⟨v, ⟨a₁, a₂, a₃, a₄, a₅⟩, k₁, k₂, k₃, c₁, c₂, l₁, l₂, y₁, y₂⟩ := h
  obtain ⟨r₁, hr₁⟩ : ∃ r₁, r₁ = rsO r 15 4 := ⟨_, rfl⟩
  have o₁ : kwRs 1 4 r r₁ := by rw [hr₁]; exact kwRs_O
  have nx₁ : kwNx r₁ := kwNx_k o₁ nx
  have n₁ : r₁.2.2.1 = r.2.2.1 + 1 := by rw [hr₁]; rfl
  obtain ⟨m₁, hm₁⟩ : ∃ M, M = mset (mfill m 9 r.2.2.1 0 4 0) 9 r.2.2.1 0 1 (N 0) := ⟨_, rfl⟩
  have f₁ : ∀ f i j p, ¬ (f = 9 ∧ i = r.2.2.1) → m₁ f i j p = m f i j p := fun f i j p y => by
    rw [hm₁, ccRd, if_neg (fun z => y ⟨z.1, z.2.1⟩), kwFlR, if_neg (fun z => y ⟨z.1, z.2.1⟩)]
  have f₀ : ∀ f i j p, ¬ (f = 9 ∧ i = r.2.2.1) → mfill m 9 r.2.2.1 0 4 0 f i j p = m f i j p := fun f i j p y => by
    rw [kwFlR, if_neg (fun z => y ⟨z.1, z.2.1⟩)]
  have ka : r₁.2.1.2.1 a = some (14, 0) := by rw [o₁.2.2.2.2.2 a a₂]; exact k₁
  have kv : r₁.2.1.2.1 v = some (22, cap) := by rw [o₁.2.2.2.2.2 v a₄]; exact k₃
  have va : r₁.2.1.2.2 a = v + 1 := by rw [hr₁, kwO_n (by omega)]; exact k₂
  have ks : r₁.2.1.2.1 r.2.2.1 = some (15, 0) := by rw [hr₁]; exact kwO_kd
  obtain ⟨M, e₁, e₂, e₃⟩ := kwE232 (m := m₁) (x := t.length) nx₁ kv l₁ l₂ (fun k y => by
    rw [f₁ 9 v 0 k (by omega)]
    exact y₁ k y) (by omega)
  have kb : (rsA r₁ 22 t.length t.length).2.1.2.1 r.2.2.1 = some (15, 0) := by rw [kwA_lt (by omega)]; exact ks
  have c₃ : mfill m 9 r.2.2.1 0 4 0 9 a 0 3 = N t.length := by rw [f₀ 9 a 0 3 (by omega)]; exact c₂
  have c₄ : mfill m 9 r.2.2.1 0 4 0 9 a 0 1 = N 0 := by rw [f₀ 9 a 0 1 (by omega)]; exact c₁
  refine ⟨M, rsV (rsA r₁ 22 t.length t.length) r.2.2.1 r₁.2.2.1, ?_, ⟨r₁.2.2.1, ⟨Nat.le_refl _, by show r.2.2.1 < r₁.2.2.1 + 1; omega, by omega, Nat.lt_succ_self _⟩, kb, kwV_v, kwA_kd (s := t.length), ?_, by omega, fun k y => ?_, fun k y => ?_⟩, kwRs_le (kwRs_trans o₁ (kwRs_trans kwRs_A kwRs_V)) (by omega) (by omega), ⟨fun f i j p y => ?_, fun b y => ?_⟩⟩
  · unfold H204
    rw [kwBo nx, ← hr₁]
    unfold H221 H222 H217
    rw [kwObj ka, kwObj ka, va, kwGw, kwBr, kwObj ka, kwE206 ka, ccBi, kwObj ka, kwE214 ka c₄, ccBi, ccIte, if_neg (by decide), kwObj ks, c₃, ← hm₁, e₁, kwBr, kwBp kb]
    rfl
  · rw [e₃ 9 r.2.2.1 0 1 (by omega), hm₁, ccRd, if_pos ⟨rfl, rfl, rfl, rfl⟩]
  · exact (y₂ k y).1
  · rw [e₂ k y, f₁ 9 v 0 k (by omega)]
    exact (y₂ k y).2
  · rw [e₃ f i j p (by omega), f₁ f i j p (by omega)]
  · rw [kwV_n (by omega), hr₁]
    exact kwO_n (r := r) (ci := 15) (n := 4) (by omega)
theorem kwE223 {n₀ : Nat} {m : mMi} {r : mRs} {s : Nat} {t : List Nat} (h : kwStr n₀ m r s t) : H223 s m r = rI (N t.length) m r := by
  obtain ⟨v, _, k₁, k₂, k₃, c₁, _, _, _⟩ := h
  have z₀ : (0 : Int32) = N 0 := rfl
  unfold H223 H226
  rw [kwObj k₁, k₂, kwGw, k₃, kwLn, kwObj k₁, kwObj k₁, c₁, z₀, decide_eq_true rfl, ccMckT, ccBi, kwOf, kwShr]
theorem kwA255 {b : Nat} (h : b < 128) : N b &&& N 255 = N b := by
  have y : ∀ b : Fin 128, N b.val &&& N 255 = N b.val := by decide
  exact y ⟨b, h⟩
theorem kwCh {α : Type} {b : Nat} {x : Option α} (h : b < 128) : mckO (!(decide (N b < 0)) && Nat.blt (mix (N b)) 65536) x = x := by
  have z₀ : (0 : Int32) = N 0 := rfl
  have e₁ : ¬ N b < N 0 := by rw [N_lt (by omega) (by omega)]; omega
  have e₂ : Nat.blt b 65536 = true := Nat.ble_eq_true_of_le (by omega)
  rw [z₀, decide_eq_false e₁, mix_N (by omega), e₂]
  rfl
theorem kwE224 {n₀ : Nat} {m : mMi} {r : mRs} {s k : Nat} {t : List Nat} (h : kwStr n₀ m r s t) (hk : k < t.length) : H224 s (N k) m r = rI (N (t.getD k 0)) m r := by
  obtain ⟨v, _, k₁, k₂, k₃, c₁, l₁, y₁, y₂⟩ := h
  have z₀ : (0 : Int32) = N 0 := rfl
  have b := y₁ k hk
  have e₁ : ¬ N k < N 0 := by rw [N_lt (by omega) (by omega)]; omega
  have e₂ : N k < N t.length := by rw [N_lt (by omega) (by omega)]; exact hk
  obtain ⟨i₁, i₂⟩ := kwAry (n := t.length) (x := k) hk (by omega)
  have e₃ : H227 s m r = rI (N 1) m r := by
    unfold H227
    rw [kwObj k₁, c₁, ccIte, if_neg (by intro y; exact y rfl)]
    rfl
  have e₄ : H229 v (N k) m r = rI (N (t.getD k 0)) m r := by
    unfold H229
    rw [k₃, kwLn, kwOf, z₀, decide_eq_false e₁, decide_eq_true e₂, i₁, i₂, Bool.or_true, mix_N (by omega), y₂ k hk, kwA255 b]
    show mckO (!(decide (N (t.getD k 0) < 0)) && Nat.blt (mix (N (t.getD k 0))) 65536) (mckO (!(decide (N (t.getD k 0) < 0)) && Nat.blt (mix (N (t.getD k 0))) 65536) _) = _
    rw [kwCh b, kwCh b]
  unfold H224
  rw [kwObj k₁, e₃, ccBi, ccIte, if_neg (by decide), kwObj k₁, k₂, kwGw, e₄, ccBi, kwCh b]
