/-! TEXTS that are built: a number's digits. -/
def kwPo (m : mMi) (v dp : Nat) (u : List Nat) : mMi := fun f i j p => if f = 9 ∧ i = v ∧ j = 0 ∧ dp ≤ p ∧ p < dp + u.length then N (u.getD (p - dp) 0) else m f i j p
theorem kwPo_nil {m : mMi} {v dp : Nat} : kwPo m v dp [] = m := by
  funext f i j p
  unfold kwPo
  rw [List.length_nil, if_neg (by omega)]
theorem kwPo_cons {m : mMi} {v dp d : Nat} {u : List Nat} : mset (kwPo m v (dp + 1) u) 9 v 0 dp (N d) = kwPo m v dp (d :: u) := by
  funext f i j p
  rw [ccRd]
  unfold kwPo
  rw [List.length_cons]
  by_cases g : f = 9 ∧ i = v ∧ j = 0 ∧ p = dp
  · rw [if_pos g, if_pos ⟨g.1, g.2.1, g.2.2.1, by omega, by omega⟩]
    have e : p - dp = 0 := by omega
    rw [e]
    rfl
  · rw [if_neg g]
    by_cases g₂ : f = 9 ∧ i = v ∧ j = 0 ∧ dp + 1 ≤ p ∧ p < dp + 1 + u.length
    · rw [if_pos g₂, if_pos ⟨g₂.1, g₂.2.1, g₂.2.2.1, by omega, by omega⟩]
      have e : p - dp = (p - (dp + 1)) + 1 := by omega
      rw [e]
      rfl
    · rw [if_neg g₂, if_neg (fun z => g₂ ⟨z.1, z.2.1, z.2.2.1, by omega, by omega⟩)]
theorem kwPo_n {m : mMi} {v dp f i j p : Nat} {u : List Nat} (h : ¬ (f = 9 ∧ i = v ∧ j = 0 ∧ dp ≤ p ∧ p < dp + u.length)) : kwPo m v dp u f i j p = m f i j p := if_neg h
theorem kwNl1 {x : Nat} (h : x < 10) : ccNl x = [48 + x] := by
  have e₁ : ccDk x = 0 := if_pos h
  unfold ccNl
  rw [e₁]
  show [48 + x / 1 % 10] = _
  rw [Nat.div_one, Nat.mod_eq_of_lt h]
theorem kwNl2 {x : Nat} (h₁ : 10 ≤ x) (h : x < 100) : ccNl x = [48 + x / 10, 48 + x % 10] := by
  have e₁ : ccDk x = 1 := by
    unfold ccDk
    rw [if_neg (by omega), if_pos h]
  unfold ccNl
  rw [e₁]
  show [48 + x / 10 % 10, 48 + x / 1 % 10] = _
  rw [Nat.div_one, Nat.mod_eq_of_lt (by omega : x / 10 < 10)]
theorem kwNl3 {x : Nat} (h₁ : 100 ≤ x) (h : x < 1000) : ccNl x = [48 + x / 100, 48 + x / 10 % 10, 48 + x % 10] := by
  have e₁ : ccDk x = 2 := by
    unfold ccDk
    rw [if_neg (by omega), if_neg (by omega), if_pos h]
  unfold ccNl
  rw [e₁]
  show [48 + x / 100 % 10, 48 + x / 10 % 10, 48 + x / 1 % 10] = _
  rw [Nat.div_one, Nat.mod_eq_of_lt (by omega : x / 100 < 10)]
theorem kwNl_b {x b : Nat} (h : x < 1000) (hb : b ∈ ccNl x) : b < 128 := by
  by_cases g₁ : x < 10
  · rw [kwNl1 g₁] at hb
    have e₁ : b = 48 + x := List.mem_singleton.mp hb
    omega
  · by_cases g₂ : x < 100
    · rw [kwNl2 (by omega) g₂] at hb
      rcases List.mem_cons.mp hb with e₁ | e₁
      · omega
      · have e₂ : b = 48 + x % 10 := List.mem_singleton.mp e₁
        omega
    · rw [kwNl3 (by omega) h] at hb
      rcases List.mem_cons.mp hb with e₁ | e₁
      · omega
      · rcases List.mem_cons.mp e₁ with e₂ | e₂
        · omega
        · have e₃ : b = 48 + x % 10 := List.mem_singleton.mp e₂
          omega
theorem kwNl_l {x : Nat} (h : x < 1000) : 1 ≤ (ccNl x).length ∧ (ccNl x).length ≤ 3 := by
  by_cases g₁ : x < 10
  · rw [kwNl1 g₁]; exact ⟨Nat.le_refl 1, by show 1 ≤ 3; omega⟩
  · by_cases g₂ : x < 100
    · rw [kwNl2 (by omega) g₂]; exact ⟨by show 1 ≤ 2; omega, by show 2 ≤ 3; omega⟩
    · rw [kwNl3 (by omega) h]; exact ⟨by show 1 ≤ 3; omega, Nat.le_refl 3⟩
theorem kwMng {x : Nat} : -(N x) = I (-(x : Int)) := by rw [← I_N, I_neg]
theorem kwMng2 {x : Nat} : -(I (-(x : Int))) = N x := by
  rw [I_neg, ← I_N]
  congr 1
  omega
theorem kwH220 {f : Nat} {x0 x1 x2 x3 : Int32} {mi : mMi} {rs : mRs} : H220_16 (f + 1) x0 x1 x2 x3 mi rs = mifO (decide ((N 10) ≤ x3)) (some (.inl (some (mI ((N 10) + x1))), mi, rs)) (mifO (decide (x0 ≤ x2)) (H220_16 f x0 x1 ((N 10) * x2) (x3 + (N 1)) mi rs) (some (.inl (some (mI (x3 + x1))), mi, rs))) := rfl
theorem kwE220 {m : mMi} {r : mRs} {x : Nat} (h : x < 1000) : H220 (N x) m r = rI (N (ccNl x).length) m r := by
  have e₀ : ¬ N x < N 0 := by rw [N_lt (by omega) (by omega)]; omega
  obtain ⟨g, hg⟩ := ccFU (k := 2) (by omega)
  have s₁ : ¬ N 10 ≤ N 1 := by decide
  have s₂ : ¬ N 10 ≤ N 2 := by decide
  have s₃ : ¬ N 10 ≤ N 3 := by decide
  have t₁ : N 10 * I (-10) = I (-100) := by decide
  have t₂ : N 10 * I (-100) = I (-1000) := by decide
  have l₁ : (I (-(x : Int)) ≤ I (-10)) = (10 ≤ x) := propext (by rw [I_le (by omega) (by omega) (by omega) (by omega)]; omega)
  have l₂ : (I (-(x : Int)) ≤ I (-100)) = (100 ≤ x) := propext (by rw [I_le (by omega) (by omega) (by omega) (by omega)]; omega)
  have l₃ : (I (-(x : Int)) ≤ I (-1000)) = (1000 ≤ x) := propext (by rw [I_le (by omega) (by omega) (by omega) (by omega)]; omega)
  have n₁ : ¬ I (-(x : Int)) ≤ I (-1000) := by rw [l₃]; omega
  unfold H220
  rw [ccIte, if_neg e₀, kwMng, hg, kwH220, ccIte, if_neg s₁]
  by_cases g₁ : x < 10
  · have n₂ : ¬ I (-(x : Int)) ≤ I (-10) := by rw [l₁]; omega
    rw [ccIte, if_neg n₂, kwNl1 g₁, N_add]
    rfl
  · have n₂ : I (-(x : Int)) ≤ I (-10) := by rw [l₁]; omega
    rw [ccIte, if_pos n₂, t₁, N_add, kwH220, ccIte, if_neg s₂]
    by_cases g₂ : x < 100
    · have n₃ : ¬ I (-(x : Int)) ≤ I (-100) := by rw [l₂]; omega
      rw [ccIte, if_neg n₃, kwNl2 (by omega) g₂, N_add]
      rfl
    · have n₃ : I (-(x : Int)) ≤ I (-100) := by rw [l₂]; omega
      rw [ccIte, if_pos n₃, t₂, N_add, kwH220, ccIte, if_neg s₃, ccIte, if_neg n₁, kwNl3 (by omega) h, N_add]
      rfl
/-- the digits of the JDK's tables -/
def kwDg (m : mMi) : Prop := ∀ k, k < 100 → m 3 4 0 k = N (48 + k % 10) ∧ m 3 5 0 k = N (48 + k / 10)
theorem kwH219 {f a2 : Nat} {x0 x1 x5 x6 : Int32} {mi : mMi} {rs : mRs} : H219_22 a2 (f + 1) x0 x1 x5 x6 mi rs = mifO (decide ((I (-100)) < x0)) (mckO (mIn (-x0) 100) (mifO (mIsArr (rs.2.1.2.1 a2) 21 (x5 + (I (-1)))) none (mckO (mIsArr (rs.2.1.2.1 a2) 22 (x5 + (I (-1)))) (mifO (decide ((I (-9)) ≤ x0)) (mifO (decide (x6 = (N 0))) (some (.inl (some (mI (x5 + (I (-1))))), (mset mi 9 a2 0 (mix (x5 + (I (-1)))) (Int8.toInt32 (Int32.toInt8 (mi 3 4 0 (mix (-x0)))))), rs)) (mifO (mIsArr (rs.2.1.2.1 a2) 21 ((x5 + (I (-1))) + (I (-1)))) none (mckO (mIsArr (rs.2.1.2.1 a2) 22 ((x5 + (I (-1))) + (I (-1)))) (some (.inl (some (mI ((x5 + (I (-1))) + (I (-1))))), (mset (mset mi 9 a2 0 (mix (x5 + (I (-1)))) (Int8.toInt32 (Int32.toInt8 (mi 3 4 0 (mix (-x0)))))) 9 a2 0 (mix ((x5 + (I (-1))) + (I (-1)))) (Int8.toInt32 (Int32.toInt8 (N 45)))), rs))))) (mckO (mIn (-x0) 100) (mifO (mIsArr (rs.2.1.2.1 a2) 21 ((x5 + (I (-1))) + (I (-1)))) none (mckO (mIsArr (rs.2.1.2.1 a2) 22 ((x5 + (I (-1))) + (I (-1)))) (mifO (decide (x6 = (N 0))) (some (.inl (some (mI ((x5 + (I (-1))) + (I (-1))))), (mset (mset mi 9 a2 0 (mix (x5 + (I (-1)))) (Int8.toInt32 (Int32.toInt8 (mi 3 4 0 (mix (-x0)))))) 9 a2 0 (mix ((x5 + (I (-1))) + (I (-1)))) (Int8.toInt32 (Int32.toInt8 ((mset mi 9 a2 0 (mix (x5 + (I (-1)))) (Int8.toInt32 (Int32.toInt8 (mi 3 4 0 (mix (-x0)))))) 3 5 0 (mix (-x0)))))), rs)) (mifO (mIsArr (rs.2.1.2.1 a2) 21 (((x5 + (I (-1))) + (I (-1))) + (I (-1)))) none (mckO (mIsArr (rs.2.1.2.1 a2) 22 (((x5 + (I (-1))) + (I (-1))) + (I (-1)))) (some (.inl (some (mI (((x5 + (I (-1))) + (I (-1))) + (I (-1))))), (mset (mset (mset mi 9 a2 0 (mix (x5 + (I (-1)))) (Int8.toInt32 (Int32.toInt8 (mi 3 4 0 (mix (-x0)))))) 9 a2 0 (mix ((x5 + (I (-1))) + (I (-1)))) (Int8.toInt32 (Int32.toInt8 ((mset mi 9 a2 0 (mix (x5 + (I (-1)))) (Int8.toInt32 (Int32.toInt8 (mi 3 4 0 (mix (-x0)))))) 3 5 0 (mix (-x0)))))) 9 a2 0 (mix (((x5 + (I (-1))) + (I (-1))) + (I (-1)))) (Int8.toInt32 (Int32.toInt8 (N 45)))), rs)))))))))))) (mckO (mIn (((x0 / (N 100)) * (N 100)) - x0) 100) (mifO (mIsArr (rs.2.1.2.1 a2) 21 (x5 + (I (-1)))) none (mckO (mIsArr (rs.2.1.2.1 a2) 22 (x5 + (I (-1)))) (mckO (mIn (((x0 / (N 100)) * (N 100)) - x0) 100) (mifO (mIsArr (rs.2.1.2.1 a2) 21 ((x5 + (I (-1))) + (I (-1)))) none (mckO (mIsArr (rs.2.1.2.1 a2) 22 ((x5 + (I (-1))) + (I (-1)))) (H219_22 a2 f (x0 / (N 100)) x1 ((x5 + (I (-1))) + (I (-1))) x6 (mset (mset mi 9 a2 0 (mix (x5 + (I (-1)))) (Int8.toInt32 (Int32.toInt8 (mi 3 4 0 (mix (((x0 / (N 100)) * (N 100)) - x0)))))) 9 a2 0 (mix ((x5 + (I (-1))) + (I (-1)))) (Int8.toInt32 (Int32.toInt8 ((mset mi 9 a2 0 (mix (x5 + (I (-1)))) (Int8.toInt32 (Int32.toInt8 (mi 3 4 0 (mix (((x0 / (N 100)) * (N 100)) - x0)))))) 3 5 0 (mix (((x0 / (N 100)) * (N 100)) - x0)))))) rs))))))) := rfl
theorem kwE219s {m : mMi} {r : mRs} {a c e x f : Nat} {y : Int32} (d : kwDg m) (k₁ : r.2.1.2.1 a = some (22, c)) (h₁ : e ≤ c) (h₂ : c ≤ 100000) (h₃ : x < 100) (h₄ : (ccNl x).length ≤ e) : H219_22 a (f + 1) (I (-(x : Int))) y (N e) (N 0) m r = rI (N (e - (ccNl x).length)) (kwPo m a (e - (ccNl x).length) (ccNl x)) r := by
  obtain ⟨d₁, d₂⟩ := d x h₃
  have l₁ : I (-100) < I (-(x : Int)) := by rw [I_lt (by omega) (by omega) (by omega) (by omega)]; omega
  have b₀ := (kwNl_l (x := x) (by omega)).1
  obtain ⟨i₁, i₂⟩ := kwAry (n := c) (x := e - 1) (by omega) h₂
  by_cases g₁ : x < 10
  · have l₂ : I (-9) ≤ I (-(x : Int)) := by rw [I_le (by omega) (by omega) (by omega) (by omega)]; omega
    rw [kwNl1 g₁] at h₄ ⊢
    have l₃ : [48 + x].length = 1 := rfl
    rw [l₃] at h₄ ⊢
    have e₁ : x % 10 = x := Nat.mod_eq_of_lt g₁
    rw [e₁] at d₁
    rw [kwH219, ccIte, if_pos l₁, kwMng2, ccMckIn h₃ (by omega), N_dec (by omega), k₁, i₂]
    show mckO (mIsArr (some (22, c)) 22 (N (e - 1))) _ = _
    rw [i₁, ccMckT, ccIte, if_pos l₂, ccIte, if_pos rfl, mix_N (by omega), mix_N (by omega), d₁, kwB8 (by omega), ← kwPo_cons, kwPo_nil]
  · have l₂ : ¬ I (-9) ≤ I (-(x : Int)) := by rw [I_le (by omega) (by omega) (by omega) (by omega)]; omega
    rw [kwNl2 (by omega) h₃] at h₄ ⊢
    have l₃ : [48 + x / 10, 48 + x % 10].length = 2 := rfl
    rw [l₃] at h₄ ⊢
    obtain ⟨i₃, i₄⟩ := kwAry (n := c) (x := e - 1 - 1) (by omega) h₂
    have e₃ : mset m 9 a 0 (e - 1) (N (48 + x % 10)) 3 5 0 x = N (48 + x / 10) := by rw [ccRd, if_neg (by omega)]; exact d₂
    have e₄ : e - 1 - 1 = e - 2 := by omega
    have e₅ : e - 1 = e - 2 + 1 := by omega
    rw [kwH219, ccIte, if_pos l₁, kwMng2, ccMckIn h₃ (by omega), N_dec (by omega), k₁, i₂]
    show mckO (mIsArr (some (22, c)) 22 (N (e - 1))) _ = _
    rw [i₁, ccMckT, ccIte, if_neg l₂, ccMckIn h₃ (by omega), N_dec (by omega), i₄]
    show mckO (mIsArr (some (22, c)) 22 (N (e - 1 - 1))) _ = _
    rw [i₃, ccMckT, ccIte, if_pos rfl, mix_N (by omega), mix_N (by omega), mix_N (by omega), d₁, kwB8 (by omega), e₃, kwB8 (by omega), ← kwPo_cons, ← kwPo_cons, kwPo_nil, e₄, e₅]
theorem kwE219 {m : mMi} {r : mRs} {a c e x : Nat} (d : kwDg m) (k₁ : r.2.1.2.1 a = some (22, c)) (h₁ : e ≤ c) (h₂ : c ≤ 100000) (h₃ : x < 1000) (h₄ : (ccNl x).length ≤ e) : H219 a (N x) (N e) m r = rI (N (e - (ccNl x).length)) (kwPo m a (e - (ccNl x).length) (ccNl x)) r := by
  have e₀ : N 0 ≤ N x := by rw [N_le (by omega) (by omega)]; omega
  unfold H219
  rw [ccIte, if_pos e₀, ccIte, if_neg (by intro y; exact y rfl), kwMng]
  by_cases g₁ : x < 100
  · obtain ⟨g, hg⟩ := ccFU (k := 0) (by omega)
    rw [hg]
    exact kwE219s d k₁ h₁ h₂ g₁ h₄
  · obtain ⟨g, hg⟩ := ccFU (k := 1) (by omega)
    have q₁ : I (-(x : Int)) / N 100 = I (-((x / 100 : Nat) : Int)) := by
      rw [← I_N, I_div (by omega) (by omega) (by omega) (by omega), Int.neg_tdiv]
      rfl
    have q₂ : I (-((x / 100 : Nat) : Int)) * N 100 - I (-(x : Int)) = N (x % 100) := by
      rw [← I_N, I_mul, I_sub, ← I_N]
      congr 1
      omega
    obtain ⟨d₁, d₂⟩ := d (x % 100) (by omega)
    have l₁ : ¬ I (-100) < I (-(x : Int)) := by rw [I_lt (by omega) (by omega) (by omega) (by omega)]; omega
    have y₁ : ccNl (x / 100) = [48 + x / 100] := kwNl1 (by omega)
    rw [kwNl3 (by omega) h₃] at h₄ ⊢
    have l₃ : [48 + x / 100, 48 + x / 10 % 10, 48 + x % 10].length = 3 := rfl
    rw [l₃] at h₄ ⊢
    obtain ⟨i₁, i₂⟩ := kwAry (n := c) (x := e - 1) (by omega) h₂
    obtain ⟨i₃, i₄⟩ := kwAry (n := c) (x := e - 1 - 1) (by omega) h₂
    have m₁ : x % 100 % 10 = x % 10 := by omega
    have m₂ : x % 100 / 10 = x / 10 % 10 := by omega
    rw [m₁] at d₁
    rw [m₂] at d₂
    have e₃ : mset m 9 a 0 (e - 1) (N (48 + x % 10)) 3 5 0 (x % 100) = N (48 + x / 10 % 10) := by rw [ccRd, if_neg (by omega)]; exact d₂
    have e₄ : e - 1 - 1 = e - 2 := by omega
    have e₅ : e - 1 = e - 3 + 1 + 1 := by omega
    have e₆ : e - 2 = e - 3 + 1 := by omega
    obtain ⟨M, hM⟩ : ∃ M, M = mset (mset m 9 a 0 (e - 1) (N (48 + x % 10))) 9 a 0 (e - 2) (N (48 + x / 10 % 10)) := ⟨_, rfl⟩
    have dM : kwDg M := fun k y => by
      rw [hM, ccRd, if_neg (by omega), ccRd, if_neg (by omega), ccRd, if_neg (by omega), ccRd, if_neg (by omega)]
      exact d k y
    have z := kwE219s (x := x / 100) (f := g) (y := N e) (e := e - 2) dM k₁ (by omega) h₂ (by omega) (by rw [y₁]; show 1 ≤ e - 2; omega)
    rw [y₁] at z
    have l₄ : [48 + x / 100].length = 1 := rfl
    have e₇ : e - 2 - 1 = e - 3 := by omega
    rw [l₄, e₇] at z
    have e₈ : kwPo M a (e - 3) [48 + x / 100] = kwPo m a (e - 3) [48 + x / 100, 48 + x / 10 % 10, 48 + x % 10] := by
      rw [← kwPo_cons, kwPo_nil, ← kwPo_cons, ← kwPo_cons, ← kwPo_cons, kwPo_nil, hM, e₆, e₅]
    rw [e₈] at z
    rw [hg, kwH219, ccIte, if_neg l₁, q₁, q₂, ccMckIn (by omega) (by omega), N_dec (by omega), k₁, i₂]
    show mckO (mIsArr (some (22, c)) 22 (N (e - 1))) _ = _
    rw [i₁, ccMckT, ccMckIn (by omega) (by omega), N_dec (by omega), i₄]
    show mckO (mIsArr (some (22, c)) 22 (N (e - 1 - 1))) _ = _
    rw [i₃, ccMckT, mix_N (by omega), mix_N (by omega), mix_N (by omega), d₁, kwB8 (by omega), e₃, kwB8 (by omega), e₄, ← hM]
    exact z
/-- a number is put behind -/
theorem kwE203 {n₀ : Nat} {m : mMi} {r : mRs} {a cap x : Nat} {t : List Nat} (h : kwB n₀ m r a cap t) (nx : kwNx r) (d : kwDg m) (hx : x < 1000) (hl : t.length < 8000) : ∃ M R cap₁, H203 a (N x) m r = some (.inl (some (mR 9 a 0)), M, R) ∧ kwB n₀ M R a cap₁ (t ++ ccNl x) ∧ kwRs 1 (2 * t.length + 6) r R ∧ kwOp n₀ r m M R := by
  obtain ⟨b₁, b₂⟩ := kwNl_l hx
  obtain ⟨m₁, r₁, cap₁, e₁, h₁, g₁, f₁, o₁⟩ := kwE212 h nx (by omega : t.length + (ccNl x).length ≤ 9000)
  obtain ⟨v₀, _, k₀, _, _, _, c₀, _⟩ := h
  obtain ⟨v, ⟨a₁, a₂, a₃, a₄, a₅⟩, k₁, k₂, k₃, c₁, c₂, l₁, l₂, y₁, y₂⟩ := h₁
  have d₁ : kwDg m₁ := fun k y => by
    rw [o₁.1 3 4 0 k (by omega), o₁.1 3 5 0 k (by omega)]
    exact d k y
  have el : (t ++ ccNl x).length = t.length + (ccNl x).length := List.length_append
  have z := kwE219 (e := t.length + (ccNl x).length) d₁ k₃ (by omega) (by omega) hx (by omega)
  have e₂ : t.length + (ccNl x).length - (ccNl x).length = t.length := by omega
  rw [e₂] at z
  refine ⟨mset (kwPo m₁ v t.length (ccNl x)) 9 a 0 3 (N (t.length + (ccNl x).length)), r₁, cap₁, ?_, ⟨v, ⟨a₁, a₂, a₃, a₄, a₅⟩, k₁, k₂, k₃, ?_, ?_, by omega, l₂, fun i y => ?_, fun i y => ?_⟩, kwRs_le f₁ (by omega) (by omega), ⟨fun f i j p y => ?_, o₁.2⟩⟩
  · unfold H203 H211
    rw [kwObj k₀, kwObj k₀, kwE220 hx, ccBi, kwObj k₀, c₀, N_add, e₁, ccBv, kwObj k₁, kwE214 k₁ c₁, ccBi, ccIte, if_neg (by decide), kwObj k₁, k₂, kwGw, z, ccBi, kwObj k₁, kwBr]
  · rw [ccRd, if_neg (by omega), kwPo_n (by omega)]; exact c₁
  · rw [ccRd, if_pos ⟨rfl, rfl, rfl, rfl⟩, el]
  · rw [ccRd, if_neg (by omega)]
    unfold kwPo
    by_cases g : 9 = 9 ∧ v = v ∧ 0 = 0 ∧ t.length ≤ i ∧ i < t.length + (ccNl x).length
    · have s₄ : i - t.length < (ccNl x).length := by omega
      rw [if_pos g]
      refine ⟨(ccNl x).getD (i - t.length) 0, kwNl_b hx ?_, rfl⟩
      rw [List.getD_eq_getElem?_getD, List.getElem?_eq_getElem s₄]
      exact List.getElem_mem s₄
    · rw [if_neg g]; exact y₁ i y
  · rw [ccRd, if_neg (by omega)]
    unfold kwPo
    by_cases g : t.length ≤ i
    · have s₄ : i - t.length < (ccNl x).length := by omega
      rw [if_pos ⟨rfl, rfl, rfl, g, by omega⟩, kwGetR g]
      refine ⟨kwNl_b hx ?_, rfl⟩
      rw [List.getD_eq_getElem?_getD, List.getElem?_eq_getElem s₄]
      exact List.getElem_mem s₄
    · rw [if_neg (by omega), kwGetL (by omega)]; exact y₂ i (by omega)
  · rw [ccRd, if_neg (by omega), kwPo_n (by omega)]
    exact o₁.1 f i j p y
