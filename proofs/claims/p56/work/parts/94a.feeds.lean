/-! WHAT IS TOLD: letters into the class's input. -/
/-- a letter of the text, or a space behind it -/
def kwCc (t : List Nat) (k : Nat) : Nat := if k < t.length then t.getD k 0 else 32
/-- letters so far -/
def kwPw (g : Nat → Nat) : Nat → Nat
  | 0 => 0
  | k + 1 => kwPw g k * 256 + g k
theorem kwPw_b {g : Nat → Nat} (h : ∀ k, g k < 128) {k : Nat} (hk : k ≤ 3) : kwPw g k < 8388608 := by
  have y : k = 0 ∨ k = 1 ∨ k = 2 ∨ k = 3 := by omega
  have h₀ := h 0
  have h₁ := h 1
  have h₂ := h 2
  rcases y with y | y | y | y <;> subst y
  · show 0 < 8388608
    omega
  · show 0 * 256 + g 0 < 8388608
    omega
  · show (0 * 256 + g 0) * 256 + g 1 < 8388608
    omega
  · show ((0 * 256 + g 0) * 256 + g 1) * 256 + g 2 < 8388608
    omega
theorem kwPw_4 {g : Nat → Nat} : kwPw g 4 = kwWd4 (g 0) (g 1) (g 2) (g 3) := by
  show (((0 * 256 + g 0) * 256 + g 1) * 256 + g 2) * 256 + g 3 = ((g 0 * 256 + g 1) * 256 + g 2) * 256 + g 3
  rw [Nat.zero_mul, Nat.zero_add]
theorem kwCc_b {t : List Nat} (h : ∀ k, k < t.length → t.getD k 0 < 128) (k : Nat) : kwCc t k < 128 := by
  unfold kwCc
  by_cases g : k < t.length
  · rw [if_pos g]
    exact h k g
  · rw [if_neg g]
    omega
theorem kwI5i {o : Option (Nat × Nat)} {k : Nat} {x : mRz} (h : o = some (20, 5)) (hk : k < 5) : mckO (mIsInt o (N k)) x = x := by
  rw [h]
  have e : mIsInt (some (20, 5)) (N k) = true := by
    show mIn (N k) 5 = true
    exact mIn_N hk (by omega)
  rw [e, ccMckT]
theorem kwA5 {o : Option (Nat × Nat)} {k : Nat} {x : mRz} (h : o = some (20, 5)) (hk : k < 5) : mckO (mIsArr o 20 (N k)) x = x := by
  rw [h]
  have e : mIsArr (some (20, 5)) 20 (N k) = true := by
    show (Nat.beq 20 20 && mIn (N k) 5) = true
    rw [mIn_N hk (by omega)]
    rfl
  rw [e, ccMckT]
theorem kwL2 {a₁ a₃ f : Nat} {x₂ x₄ : Int32} {m : mMi} {r : mRs} : H237_2 a₁ a₃ (f + 1) 2 x₂ x₄ m r = mckO (mIsObj (r.2.1.2.1 a₁) 15) (bI (H223 a₁ m r) (fun v m r => mifO (decide (v ≤ x₂)) (some (.inl (some (mI (N 1))), m, r)) (bN 20 (N 5) m r (fun n m r => H237_2 a₁ n f 17 x₂ (N 0) m r)))) := rfl
theorem kwL17 {a₁ a₃ f : Nat} {x₂ x₄ : Int32} {m : mMi} {r : mRs} : H237_2 a₁ a₃ (f + 1) 17 x₂ x₄ m r = mifO (decide ((N 20) ≤ x₄)) (mckO (mIsInt (r.2.1.2.1 a₃) (N 0)) (mckO (mIsInt (r.2.1.2.1 a₃) (N 1)) (mckO (mIsInt (r.2.1.2.1 a₃) (N 2)) (mckO (mIsInt (r.2.1.2.1 a₃) (N 3)) (mckO (mIsInt (r.2.1.2.1 a₃) (N 4)) (bI (F99 (m 9 a₃ 0 0) (m 9 a₃ 0 1) (m 9 a₃ 0 2) (m 9 a₃ 0 3) (m 9 a₃ 0 4) m r) (fun v m r => mifO (decide ((N 0) ≤ v)) (H237_2 a₁ 0 f 2 (x₂ + (N 20)) (N 0) m r) (some (.inl (some (mI (N 0))), m, r))))))))) (mckO (mIsInt (r.2.1.2.1 a₃) (x₄ / (N 4))) (mckO (mIsObj (r.2.1.2.1 a₁) 15) (bI (H223 a₁ m r) (fun v M R => mifO (decide (v ≤ (x₂ + x₄))) (mckO (mIsArr (R.2.1.2.1 a₃) 20 (x₄ / (N 4))) (H237_2 a₁ a₃ f 17 x₂ (x₄ + (N 1)) (mset M 9 a₃ 0 (mix (x₄ / (N 4))) (((m 9 a₃ 0 (mix (x₄ / (N 4)))) <<< ((N 8) &&& 31)) ||| (N 32))) R)) (mckO (mIsObj (R.2.1.2.1 a₁) 15) (bI (H224 a₁ (x₂ + x₄) M R) (fun v M R => mckO (mIsArr (R.2.1.2.1 a₃) 20 (x₄ / (N 4))) (H237_2 a₁ a₃ f 17 x₂ (x₄ + (N 1)) (mset M 9 a₃ 0 (mix (x₄ / (N 4))) (((m 9 a₃ 0 (mix (x₄ / (N 4)))) <<< ((N 8) &&& 31)) ||| v)) R)))))))) := rfl
/-- twenty letters into five words -/
theorem kwFd17 {a₁ a₃ n₀ i c₁ : Nat} {t : List Nat} {m₀ : mMi} {r : mRs} (ka : r.2.1.2.1 a₃ = some (20, 5)) (ko : r.2.1.2.1 a₁ = some (15, c₁)) (hs : ∀ M : mMi, (∀ f u j p, ¬ (f = 9 ∧ u = a₃) → M f u j p = m₀ f u j p) → kwStr n₀ M r a₁ t) (hi : i ≤ 1000) (hc : ∀ k, k < t.length → t.getD k 0 < 128) (hl : t.length ≤ 20000) : ∀ d p (m : mMi), p + d = 20 → (∀ f u j q, ¬ (f = 9 ∧ u = a₃) → m f u j q = m₀ f u j q) → (∀ q, q < 5 → m 9 a₃ 0 q = N (kwPw (fun j => kwCc t (i + 4 * q + j)) (min 4 (p - 4 * q)))) → ∃ M, (∀ f, H237_2 a₁ a₃ (f + d) 17 (N i) (N p) m r = H237_2 a₁ a₃ f 17 (N i) (N 20) M r) ∧ (∀ f u j q, ¬ (f = 9 ∧ u = a₃) → M f u j q = m₀ f u j q) ∧ ∀ q, q < 5 → M 9 a₃ 0 q = N (kwPw (fun j => kwCc t (i + 4 * q + j)) 4) := by
  intro d
  induction d with
  | zero =>
    intro p m h₁ h₂ h₃
    have e₁ : p = 20 := by omega
    subst e₁
    refine ⟨m, fun f => rfl, h₂, fun q y => ?_⟩
    have e₂ : min 4 (20 - 4 * q) = 4 := by omega
    rw [h₃ q y, e₂]
  | succ d h =>
    intro p m h₁ h₂ h₃
    have st := hs m h₂
    have e₁ : ¬ N 20 ≤ N p := by rw [N_le (by omega) (by omega)]; omega
    have e₂ : N p / N 4 = N (p / 4) := N_div (by omega) (by omega) (by omega)
    have e₃ : N i + N p = N (i + p) := by rw [N_add]
    have e₄ : N p + N 1 = N (p + 1) := by rw [N_add]
    obtain ⟨w, hw⟩ : ∃ w, w = kwPw (fun j => kwCc t (i + 4 * (p / 4) + j)) (p - 4 * (p / 4)) := ⟨_, rfl⟩
    have w₁ : m 9 a₃ 0 (p / 4) = N w := by
      have y : min 4 (p - 4 * (p / 4)) = p - 4 * (p / 4) := by omega
      rw [h₃ (p / 4) (by omega), y, hw]
    have w₂ : w < 8388608 := by
      rw [hw]
      exact kwPw_b (fun k => kwCc_b hc _) (by omega)
    have w₃ : ((m 9 a₃ 0 (p / 4)) <<< ((N 8) &&& 31)) ||| N (kwCc t (i + p)) = N (w * 256 + kwCc t (i + p)) := by
      rw [w₁]
      exact kwShw w₂ (kwCc_b hc _)
    obtain ⟨M, b₁, b₂, b₃⟩ := h (p + 1) (mset m 9 a₃ 0 (p / 4) (N (w * 256 + kwCc t (i + p)))) (by omega) (fun f u j q y => by rw [ccRd, if_neg (by omega)]; exact h₂ f u j q y) (fun q y => by
      by_cases g : q = p / 4
      · have z₁ : min 4 (p + 1 - 4 * q) = p - 4 * (p / 4) + 1 := by omega
        rw [z₁, g, ccRd, if_pos ⟨rfl, rfl, rfl, rfl⟩, hw]
        show N (_ * 256 + kwCc t (i + p)) = N (_ * 256 + kwCc t (i + 4 * (p / 4) + (p - 4 * (p / 4))))
        have z₂ : i + 4 * (p / 4) + (p - 4 * (p / 4)) = i + p := by omega
        rw [z₂]
      · have z₁ : min 4 (p + 1 - 4 * q) = min 4 (p - 4 * q) := by omega
        rw [z₁, ccRd, if_neg (by omega)]
        exact h₃ q y)
    refine ⟨M, fun f => ?_, b₂, b₃⟩
    have e₅ : f + (d + 1) = f + d + 1 := by omega
    rw [e₅, kwL17, ccIte, if_neg e₁, e₂, e₃, e₄, kwI5i ka (by omega), kwObj ko, kwE223 st, ccBi, mix_N (by omega), ccIte]
    by_cases g : i + p < t.length
    · have g₁ : ¬ N t.length ≤ N (i + p) := by rw [N_le (by omega) (by omega)]; omega
      have g₂ : kwCc t (i + p) = t.getD (i + p) 0 := by
        unfold kwCc
        rw [if_pos g]
      rw [g₂] at w₃ b₁
      rw [if_neg g₁, kwObj ko, kwE224 st g, ccBi, kwA5 ka (by omega), w₃]
      exact b₁ f
    · have g₁ : N t.length ≤ N (i + p) := by rw [N_le (by omega) (by omega)]; omega
      have g₂ : kwCc t (i + p) = 32 := by
        unfold kwCc
        rw [if_neg g]
      rw [g₂] at w₃ b₁
      rw [if_pos g₁, kwA5 ka (by omega), w₃]
      exact b₁ f
/-- five words into the input -/
theorem kwE99 {m : mMi} {e : Nat} {g : Nat → Nat} (e₂ : m 2 1 0 1 = N e) (he : e + 20 ≤ 900) (hg : ∀ k, g k < 128) (x : Nat → Int32) (hx : ∀ q, q < 5 → x q = N (kwPw (fun j => g (4 * q + j)) 4)) : ∃ m₁, (∀ rs, F99 (x 0) (x 1) (x 2) (x 3) (x 4) m rs = rI (N (e + 20)) m₁ rs) ∧ m₁ 2 1 0 1 = N (e + 20) ∧ (∀ k, k < 20 → m₁ 2 1 1 (e + k) = N (g k)) ∧ ∀ f a j p, ¬ (f = 2 ∧ a = 1 ∧ ((j = 0 ∧ p = 1) ∨ (j = 1 ∧ e ≤ p))) → m₁ f a j p = m f a j p := by
  have g₁ : N e + N 20 ≤ N 900 := by rw [N_add, N_le (by omega) (by omega)]; exact he
  obtain ⟨a₁, p₁, p₂, p₃, p₄⟩ := ccE63 (x := x 0) e₂ (by omega)
  obtain ⟨a₂, q₁, q₂, q₃, q₄⟩ := ccE63 (x := x 1) p₂ (by omega)
  obtain ⟨a₃, r₁, r₂, r₃, r₄⟩ := ccE63 (x := x 2) q₂ (by omega)
  obtain ⟨a₄, s₁, s₂, s₃, s₄⟩ := ccE63 (x := x 3) r₂ (by omega)
  obtain ⟨a₅, t₁, t₂, t₃, t₄⟩ := ccE63 (x := x 4) s₂ (by omega)
  have st : ∀ f a j p, ¬ (f = 2 ∧ a = 1 ∧ ((j = 0 ∧ p = 1) ∨ (j = 1 ∧ e ≤ p))) → a₅ f a j p = m f a j p := fun f a j p y₁ => by rw [t₄ f a j p (by omega), s₄ f a j p (by omega), r₄ f a j p (by omega), q₄ f a j p (by omega), p₄ f a j p (by omega)]
  have t₂' : a₅ 2 1 0 1 = N (e + 20) := by rw [t₂]
  have wd : ∀ q j, q < 5 → j < 4 → Int8.toInt32 (Int32.toInt8 (ccSh j (x q))) = N (g (4 * q + j)) := fun q j y₁ y₂ => by
    obtain ⟨z₀, z₁, z₂, z₃⟩ := kwWd4_b (a := g (4 * q + 0)) (b := g (4 * q + 1)) (c := g (4 * q + 2)) (d := g (4 * q + 3)) (hg _) (hg _) (hg _) (hg _)
    rw [hx q y₁, kwPw_4]
    have y₃ : j = 0 ∨ j = 1 ∨ j = 2 ∨ j = 3 := by omega
    rcases y₃ with y₃ | y₃ | y₃ | y₃ <;> subst y₃
    · exact z₀
    · exact z₁
    · exact z₂
    · exact z₃
  refine ⟨a₅, fun rs => ?_, t₂', fun k y₁ => ?_, st⟩
  · unfold F99
    rw [e₂, ccIte, if_pos g₁, p₁, ccBv, q₁, ccBv, r₁, ccBv, s₁, ccBv, t₁, ccBv, t₂']
  · obtain ⟨j, hj⟩ : ∃ j, j = k % 4 := ⟨_, rfl⟩
    by_cases z₁ : k < 4
    · have z₂ : e + k = e + j := by omega
      have z₃ : k = 4 * 0 + j := by omega
      rw [t₄ 2 1 1 _ (by omega), s₄ 2 1 1 _ (by omega), r₄ 2 1 1 _ (by omega), q₄ 2 1 1 _ (by omega), z₂, p₃ j (by omega), wd 0 j (by omega) (by omega), ← z₃]
    · by_cases z₃ : k < 8
      · have z₂ : e + k = e + 4 + j := by omega
        have z₅ : k = 4 * 1 + j := by omega
        rw [t₄ 2 1 1 _ (by omega), s₄ 2 1 1 _ (by omega), r₄ 2 1 1 _ (by omega), z₂, q₃ j (by omega), wd 1 j (by omega) (by omega), ← z₅]
      · by_cases z₄ : k < 12
        · have z₂ : e + k = e + 4 + 4 + j := by omega
          have z₅ : k = 4 * 2 + j := by omega
          rw [t₄ 2 1 1 _ (by omega), s₄ 2 1 1 _ (by omega), z₂, r₃ j (by omega), wd 2 j (by omega) (by omega), ← z₅]
        · by_cases z₅ : k < 16
          · have z₂ : e + k = e + 4 + 4 + 4 + j := by omega
            have z₆ : k = 4 * 3 + j := by omega
            rw [t₄ 2 1 1 _ (by omega), z₂, s₃ j (by omega), wd 3 j (by omega) (by omega), ← z₆]
          · have z₂ : e + k = e + 4 + 4 + 4 + 4 + j := by omega
            have z₆ : k = 4 * 4 + j := by omega
            rw [z₂, t₃ j (by omega), wd 4 j (by omega) (by omega), ← z₆]
theorem kwStr_k {n₀ s : Nat} {m M : mMi} {r R : mRs} {t : List Nat} (h : kwStr n₀ m r s t) (h₁ : ∀ u j p, u < r.2.2.1 → M 9 u j p = m 9 u j p) (h₂ : r.2.2.1 ≤ R.2.2.1) (h₃ : ∀ a, a < r.2.2.1 → R.2.1.2.1 a = r.2.1.2.1 a) (h₄ : ∀ a, a < r.2.2.1 → R.2.1.2.2 a = r.2.1.2.2 a) : kwStr n₀ M R s t := by
  obtain ⟨v, ⟨v₁, v₂, v₃, v₄⟩, k₁, k₂, k₃, c₁, l₁, y₁, y₂⟩ := h
  exact ⟨v, ⟨v₁, by omega, v₃, by omega⟩, by rw [h₃ s v₂]; exact k₁, by rw [h₄ s v₂]; exact k₂, by rw [h₃ v v₄]; exact k₃, by rw [h₁ s 0 1 v₂]; exact c₁, l₁, y₁, fun k z => by rw [h₁ v 0 k v₄]; exact y₂ k z⟩
/-- the letters, twenty by twenty -/
theorem kwFd2 {a₁ n₀ : Nat} {t : List Nat} (hl : t.length ≤ 900) : ∀ d i a₃ (x : Int32) (m : mMi) (r : mRs), kwStr n₀ m r a₁ t → kwNx r → t.length ≤ i + 20 * d → i + 20 * d ≤ 900 → m 2 1 0 1 = N i → (∀ k, k < i → m 2 1 1 k = N (kwCc t k)) → ∃ M R e, (∀ f, H237_2 a₁ a₃ (f + 22 * d + 1) 2 (N i) x m r = rI (N 1) M R) ∧ t.length ≤ e ∧ e ≤ 900 ∧ M 2 1 0 1 = N e ∧ (∀ k, k < e → M 2 1 1 k = N (kwCc t k)) ∧ kwRs d (5 * d) r R ∧ R.2.1.2.2 = r.2.1.2.2 ∧ ∀ f u j q, ¬ (f = 9 ∧ r.2.2.1 ≤ u) → ¬ (f = 2 ∧ u = 1 ∧ ((j = 0 ∧ q = 1) ∨ j = 1)) → M f u j q = m f u j q := by
  intro d
  induction d with
  | zero =>
    intro i a₃ x m r st nx h₁ h₂ h₃ h₄
    obtain ⟨v, hv⟩ := st
    have ko := hv.2.1
    have g₁ : N t.length ≤ N i := by rw [N_le (by omega) (by omega)]; omega
    refine ⟨m, r, i, fun f => ?_, by omega, by omega, h₃, h₄, kwRs_rfl, rfl, fun _ _ _ _ _ _ => rfl⟩
    rw [kwL2, kwObj ko, kwE223 ⟨v, hv⟩, ccBi, ccIte, if_pos g₁]
  | succ d h =>
    intro i a₃ x m r st nx h₁ h₂ h₃ h₄
    obtain ⟨v, hv⟩ := st
    have st : kwStr n₀ m r a₁ t := ⟨v, hv⟩
    have ko := hv.2.1
    have hc := hv.2.2.2.2.2.2.1
    have ha := hv.1.2.1
    by_cases g : t.length ≤ i
    · have g₁ : N t.length ≤ N i := by rw [N_le (by omega) (by omega)]; omega
      refine ⟨m, r, i, fun f => ?_, by omega, by omega, h₃, h₄, kwRs_le kwRs_rfl (by omega) (by omega), rfl, fun _ _ _ _ _ _ => rfl⟩
      rw [kwL2, kwObj ko, kwE223 st, ccBi, ccIte, if_pos g₁]
    have g₁ : ¬ N t.length ≤ N i := by rw [N_le (by omega) (by omega)]; omega
    obtain ⟨m₀, hm₀⟩ : ∃ m₀, m₀ = mfill m 9 r.2.2.1 0 5 0 := ⟨_, rfl⟩
    have f₀ : ∀ f u j q, ¬ (f = 9 ∧ u = r.2.2.1) → m₀ f u j q = m f u j q := fun f u j q y => by rw [hm₀, ccFill, if_neg (by omega)]
    have kR := kwRs_A (r := r) (kd := 20) (n := 5) (s := 5)
    have hs : ∀ M : mMi, (∀ f u j p, ¬ (f = 9 ∧ u = r.2.2.1) → M f u j p = m₀ f u j p) → kwStr n₀ M (rsA r 20 5 5) a₁ t := fun M y => kwStr_k st (fun u j p z => by rw [y 9 u j p (by omega), f₀ 9 u j p (by omega)]) kR.2.2.1 kR.2.2.2.2.2 (fun a _ => rfl)
    obtain ⟨M₁, b₁, b₂, b₃⟩ := kwFd17 (i := i) (a₁ := a₁) (m₀ := m₀) (r := rsA r 20 5 5) kwA_kd (by rw [kR.2.2.2.2.2 a₁ ha]; exact ko) hs (by omega) hc (by omega) 20 0 m₀ (by omega) (fun _ _ _ _ _ => rfl) (fun q y => by
      have z : min 4 (0 - 4 * q) = 0 := by omega
      rw [z, hm₀, ccFill, if_pos ⟨rfl, rfl, rfl, y⟩]
      rfl)
    have e₁ : M₁ 2 1 0 1 = N i := by rw [b₂ 2 1 0 1 (by omega), f₀ 2 1 0 1 (by omega)]; exact h₃
    obtain ⟨M₂, c₁, c₂, c₃, c₄⟩ := kwE99 (g := fun k => kwCc t (i + k)) e₁ (by omega) (fun k => kwCc_b hc _) (fun q => M₁ 9 r.2.2.1 0 q) (fun q y => by
      rw [b₃ q y]
      congr 2
      funext j
      rw [Nat.add_assoc])
    have kr : M₂ 2 1 0 1 = N (i + 20) := c₂
    obtain ⟨M₃, R, e, d₁, d₂, d₃, d₄, d₅, d₆, d₇, d₈⟩ := h (i + 20) 0 (N 0) M₂ (rsA r 20 5 5) (kwStr_k st (fun u j p z => by rw [c₄ 9 u j p (by omega), b₂ 9 u j p (by omega), f₀ 9 u j p (by omega)]) kR.2.2.1 kR.2.2.2.2.2 (fun a _ => rfl)) (kwNx_k kR nx) (by omega) (by omega) c₂ (fun k y => by
      by_cases z : k < i
      · rw [c₄ 2 1 1 k (by omega), b₂ 2 1 1 k (by omega), f₀ 2 1 1 k (by omega)]
        exact h₄ k z
      · have z₁ := c₃ (k - i) (by omega)
        have z₂ : i + (k - i) = k := by omega
        rw [z₂] at z₁
        exact z₁)
    refine ⟨M₃, R, e, fun f => ?_, d₂, d₃, d₄, d₅, kwRs_le (kwRs_trans kR d₆) (by omega) (by omega), d₇, fun f u j q y₁ y₂ => ?_⟩
    · have e₂ : f + 22 * (d + 1) + 1 = f + 22 * d + 1 + 1 + 20 + 1 := by omega
      have e₃ : N 20 ≤ N 20 := by rw [N_le (by omega) (by omega)]; omega
      have e₄ : N 0 ≤ N (i + 20) := by rw [N_le (by omega) (by omega)]; omega
      have e₅ := c₁ (rsA r 20 5 5)
      rw [e₂, kwL2, kwObj ko, kwE223 st, ccBi, ccIte, if_neg g₁, kwBn nx (by omega), ← hm₀, b₁, kwL17, ccIte, if_pos e₃, kwI5i kwA_kd (by omega), kwI5i kwA_kd (by omega), kwI5i kwA_kd (by omega), kwI5i kwA_kd (by omega), kwI5i kwA_kd (by omega), e₅, ccBi, ccIte, if_pos e₄, N_add]
      exact d₁ f
    · have y₃ : r.2.2.1 ≤ (rsA r 20 5 5).2.2.1 := kR.2.2.1
      rw [d₈ f u j q (by omega) y₂, c₄ f u j q (by omega), b₂ f u j q (by omega), f₀ f u j q (by omega)]
