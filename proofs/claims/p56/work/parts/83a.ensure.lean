/-! TEXTS that are built: room for more, and one letter. -/
theorem kwA_lt {r : mRs} {kd n s a : Nat} (h : a < r.2.2.1) : (rsA r kd n s).2.1.2.1 a = r.2.1.2.1 a := (kwRs_A (r := r) (kd := kd) (n := n) (s := s)).2.2.2.2.2 a h
theorem kwE234 {m : mMi} {r : mRs} {a b c : Nat} (h₁ : a ≤ 20000) (h₂ : b ≤ 20000) (h₃ : c ≤ 50000) (h₄ : 1 ≤ c) : H234 (N a) (N b) (N c) m r = rI (N (a + (if b < c then c else b))) m r := by
  have e₁ : (if N b < N c then N c else N b) = N (if b < c then c else b) := by
    by_cases g : b < c
    · rw [if_pos g, if_pos (by rw [N_lt (by omega) (by omega)]; exact g)]
    · rw [if_neg g, if_neg (by rw [N_lt (by omega) (by omega)]; exact g)]
  obtain ⟨d, hd⟩ : ∃ d, d = (if b < c then c else b) := ⟨_, rfl⟩
  have bd : 1 ≤ d ∧ d ≤ 50000 := by
    rw [hd]
    by_cases g : b < c
    · rw [if_pos g]; omega
    · rw [if_neg g]; omega
  unfold H234
  rw [e₁, ← hd, N_add]
  have e₂ : ¬ N (a + d) ≤ N 0 := by rw [N_le (by omega) (by omega)]; omega
  have e₃ : ¬ N 2147483639 < N (a + d) := by rw [N_lt (by omega) (by omega)]; omega
  rw [ccIte, if_neg e₂, ccIte, if_neg e₃]
theorem kwE212s {n₀ : Nat} {m : mMi} {r : mRs} {a cap q : Nat} {t : List Nat} (h : kwB n₀ m r a cap t) (g : q ≤ cap) : H212 a (N q) m r = rV m r := by
  obtain ⟨v, ⟨a₁, a₂, a₃, a₄, a₅⟩, k₁, k₂, k₃, c₁, c₂, l₁, l₂, y₁, y₂⟩ := h
  have e₁ : N q - N cap ≤ N 0 := by
    rw [← I_N, ← I_N, I_sub, ← I_N, I_le (by omega) (by omega) (by omega) (by omega)]
    omega
  unfold H212
  rw [kwObj k₁, k₂, kwGw, k₃, kwLn, kwObj k₁, c₁, kwOf, kwShr, ccIte, if_pos e₁]
/-- room for q letters -/
theorem kwE212 {n₀ : Nat} {m : mMi} {r : mRs} {a cap q : Nat} {t : List Nat} (h : kwB n₀ m r a cap t) (nx : kwNx r) (hq : q ≤ 9000) : ∃ M R cap₁, H212 a (N q) m r = rV M R ∧ kwB n₀ M R a cap₁ t ∧ q ≤ cap₁ ∧ kwRs 1 (2 * q) r R ∧ kwOp n₀ r m M R := by
  obtain ⟨v, ⟨a₁, a₂, a₃, a₄, a₅⟩, k₁, k₂, k₃, c₁, c₂, l₁, l₂, y₁, y₂⟩ := h
  have e₀ : N q - N cap = I ((q : Int) - (cap : Int)) := by rw [← I_N, ← I_N, I_sub]
  by_cases g : q ≤ cap
  · have hh : kwB n₀ m r a cap t := ⟨v, ⟨a₁, a₂, a₃, a₄, a₅⟩, k₁, k₂, k₃, c₁, c₂, l₁, l₂, y₁, y₂⟩
    exact ⟨m, r, cap, kwE212s hh g, hh, g, kwRs_le kwRs_rfl (by omega) (by omega), kwOp_rfl⟩
  · have e₁ : ¬ N q - N cap ≤ N 0 := by
      rw [e₀, ← I_N, I_le (by omega) (by omega) (by omega) (by omega)]
      omega
    have e₂ : N q - N cap = N (q - cap) := N_sub (by omega)
    obtain ⟨p, hp⟩ : ∃ p, p = cap + (if q - cap < cap + 2 then cap + 2 else q - cap) := ⟨_, rfl⟩
    have bp : q ≤ p ∧ p ≤ 2 * q ∧ cap < p := by
      rw [hp]
      by_cases g₂ : q - cap < cap + 2
      · rw [if_pos g₂]; omega
      · rw [if_neg g₂]; omega
    have e₃ : H213 a (N q) m r = rI (N p) m r := by
      have n₁ : N p ≠ N 2147483647 := by
        intro y
        have z := (N_eq (by omega) (by omega)).mp y
        omega
      unfold H213
      rw [kwObj k₁, k₂, kwGw, k₃, kwLn, kwObj k₁, kwObj k₁, c₁, kwOf, kwShl, kwShl, e₂, N_add, kwE234 (by omega) (by omega) (by omega) (by omega), ← hp, ccBi, ccIte, if_pos n₁, kwObj k₁, c₁, kwShr]
    have kn : (rsA r 22 p p).2.1.2.1 r.2.2.1 = some (22, p) := kwA_kd
    have kv : (rsA r 22 p p).2.1.2.1 v = some (22, cap) := by rw [kwA_lt a₄]; exact k₃
    have ka : (rsA r 22 p p).2.1.2.1 a = some (14, 0) := by rw [kwA_lt a₂]; exact k₁
    have i₁ : (if N p < N cap then N p else N cap) = N cap := if_neg (by rw [N_lt (by omega) (by omega)]; omega)
    obtain ⟨M, hM⟩ : ∃ M, M = mcopy (mfill m 9 r.2.2.1 0 p 0) 9 v 0 0 9 r.2.2.1 0 0 cap := ⟨_, rfl⟩
    have fv : ∀ k, mfill m 9 r.2.2.1 0 p 0 9 v 0 k = m 9 v 0 k := fun k => by rw [kwFlR, if_neg (by omega)]
    have by₁ : mByteOk (mfill m 9 r.2.2.1 0 p 0) 9 v 0 0 cap = true := kwBytes (cap := cap) (fun k y => by
      rw [fv k]
      exact y₁ k y) (by omega)
    have e₄ : H231 v (N p) m r = some (.inl (some (mR 9 r.2.2.1 0)), M, rsA r 22 p p) := by
      have n₁ : N p ≠ N cap := by
        intro y
        have z := (N_eq (by omega) (by omega)).mp y
        omega
      have s₁ : (mSpanY (some (22, cap)) (N 0) (N cap) && mSpanY (some (22, p)) (N 0) (N cap) && mByteOk (mfill m 9 r.2.2.1 0 p 0) 9 v 0 0 cap || mSpan (some (22, cap)) (N 0) (N cap) && mSpan (some (22, p)) (N 0) (N cap)) = true := by
        rw [kwSpY (by omega) (by omega), kwSpY (by omega) (by omega), by₁]
        rfl
      unfold H231
      rw [k₃, kwLn, kwOf, ccIte, if_pos n₁, kwBk nx (by omega), kv, kwLn, kn, kwOf, i₁, mix_N (by omega), mix_N (by omega), s₁, ccMckT, ← hM]
    have fM : ∀ f i j x, ¬ (f = 9 ∧ i = r.2.2.1) → M f i j x = m f i j x := fun f i j x y => by
      rw [hM, kwCpR, if_neg (fun z => y ⟨z.1, z.2.1⟩), kwFlR, if_neg (fun z => y ⟨z.1, z.2.1⟩)]
    have R₁ : kwRs 1 p r (rsV (rsA r 22 p p) a r.2.2.1) := kwRs_trans (kwRs_A (r := r) (kd := 22) (n := p) (s := p)) kwRs_V
    refine ⟨M, rsV (rsA r 22 p p) a r.2.2.1, p, ?_, ⟨r.2.2.1, ⟨a₁, Nat.lt_of_lt_of_le a₂ (Nat.le_succ _), by omega, Nat.lt_succ_self _, by omega⟩, ka, kwV_v, kn, ?_, ?_, by omega, by omega, fun k y => ?_, fun k y => ?_⟩, by omega, kwRs_le R₁ (by omega) (by omega), ⟨fun f i j x y => fM f i j x (by omega), fun b y => ?_⟩⟩
    · unfold H212
      rw [kwObj k₁, k₂, kwGw, k₃, kwLn, kwObj k₁, c₁, kwOf, kwShr, ccIte, if_neg e₁, kwObj k₁, kwGw, kwObj k₁, e₃, ccBi, kwObj k₁, c₁, kwShl, e₄, kwBr, kwBp ka]
    · rw [fM 9 a 0 1 (by omega)]; exact c₁
    · rw [fM 9 a 0 3 (by omega)]; exact c₂
    · rw [hM, kwCpR]
      by_cases g₂ : k < cap
      · rw [if_pos ⟨rfl, rfl, rfl, by omega, by omega⟩, fv]
        obtain ⟨b, z₁, z₂⟩ := y₁ k g₂
        have e₅ : 0 + (k - 0) = k := by omega
        rw [e₅]
        exact ⟨b, z₁, z₂⟩
      · rw [if_neg (by omega), kwFlR, if_pos ⟨rfl, rfl, rfl, y⟩]
        exact ⟨0, by omega, rfl⟩
    · refine ⟨(y₂ k y).1, ?_⟩
      rw [hM, kwCpR, if_pos ⟨rfl, rfl, rfl, by omega, by omega⟩, fv]
      have e₅ : 0 + (k - 0) = k := by omega
      rw [e₅]
      exact (y₂ k y).2
    · rw [kwV_n (by omega)]
      rfl
