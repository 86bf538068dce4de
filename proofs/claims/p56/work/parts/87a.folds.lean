/-! LOOKS: what is kept from place to place; a builder's steps. -/
theorem kwTop_s {f : Nat → Bool} : ∀ d p x, ccTopv f (d + 1) p x = if f (p + d) = true then N ((p + d) / 12) else ccTopv f d p x := by
  intro d
  induction d with
  | zero => intro p x; rfl
  | succ d i₁ =>
    intro p x
    have e : p + (d + 1) = p + 1 + d := by omega
    show ccTopv f (d + 1) (p + 1) (if f p = true then N (p / 12) else x) = _
    rw [i₁, e]
    rfl
theorem kwBst_s {P : Nat → Bool} {lt : Nat → Nat → Bool} : ∀ d p x, ccBst P lt (d + 1) p x = if P (p + d) = true then (if ccBst P lt d p x = I (-1) then N (p + d) else if lt (p + d) (mix (ccBst P lt d p x)) = true then N (p + d) else ccBst P lt d p x) else ccBst P lt d p x := by
  intro d
  induction d with
  | zero => intro p x; rfl
  | succ d i₁ =>
    intro p x
    have e : p + (d + 1) = p + 1 + d := by omega
    show ccBst P lt (d + 1) (p + 1) (if P p = true then (if x = I (-1) then N p else if lt p (mix x) = true then N p else x) else x) = _
    rw [i₁, e]
    rfl
theorem kwSmr_s {P : Nat → Bool} {v : Nat → Int32} : ∀ d p x, ccSmr P v (d + 1) p x = if P (p + d) = true then ccSmr P v d p x + v (p + d) else ccSmr P v d p x := by
  intro d
  induction d with
  | zero =>
    intro p x
    have z : x + N 0 = x := Int32.add_zero x
    show (if P p = true then x + v p else x + N 0) = if P p = true then x + v p else x
    rw [z]
  | succ d i₁ =>
    intro p x
    have e : p + (d + 1) = p + 1 + d := by omega
    show ccSmr P v (d + 1) (p + 1) (if P p = true then x + v p else x + N 0) = _
    rw [i₁, e]
    rfl
/-- what looks keep behind the first p places -/
def kwLk (W : Nat → Nat) (C : Nat → Nat → Int32) (w l p : Nat) (x2 x3 x4 x5 x6 x7 x8 : Int32) : Prop := x2 = ccTopv (ccP C) p 0 (I (-1)) ∧ (x3 = ccCode (ccBst (ccP C) (ccLtR W C w l) p 0 (I (-1))) ∧ ∀ q, q < 96 → ccBst (ccP C) (ccLtR W C w l) p 0 (I (-1)) = N q → x5 = ccRv W C w l q) ∧ (x4 = ccCode (ccBst (ccP C) (ccLtW C) p 0 (I (-1))) ∧ ∀ q, q < 96 → ccBst (ccP C) (ccLtW C) p 0 (I (-1)) = N q → x6 = C 5 q) ∧ x7 = ccSmr (ccP C) (ccRv W C w l) p 0 (N 0) ∧ x8 = N (ccCnt (ccP C) p)
theorem kwLk_0 {W : Nat → Nat} {C : Nat → Nat → Int32} {w l : Nat} {x5 x6 : Int32} : kwLk W C w l 0 (I (-1)) (I (-1)) (I (-1)) x5 x6 (N 0) (N 0) := by
  refine ⟨rfl, ⟨rfl, fun q h₁ h₂ => ?_⟩, ⟨rfl, fun q h₁ h₂ => ?_⟩, rfl, rfl⟩
  · have z : I (-1) = N q := h₂
    rw [ccMN (by omega)] at z
    exact False.elim z
  · have z : I (-1) = N q := h₂
    rw [ccMN (by omega)] at z
    exact False.elim z
theorem kwLk_n {W : Nat → Nat} {C : Nat → Nat → Int32} {w l p : Nat} {x2 x3 x4 x5 x6 x7 x8 : Int32} (h : kwLk W C w l p x2 x3 x4 x5 x6 x7 x8) (g : ccP C p = false) : kwLk W C w l (p + 1) x2 x3 x4 x5 x6 x7 x8 := by
  have e : 0 + p = p := Nat.zero_add p
  have g' : ¬ ccP C (0 + p) = true := by rw [e, g]; intro y; cases y
  obtain ⟨h₁, ⟨h₂, h₃⟩, ⟨h₄, h₅⟩, h₆, h₇⟩ := h
  unfold kwLk
  rw [kwTop_s, kwBst_s, kwBst_s, kwSmr_s, ccCnt_s, if_neg g', if_neg g', if_neg g', if_neg g', g, if_neg (by intro y; cases y), Nat.add_zero]
  exact ⟨h₁, ⟨h₂, h₃⟩, ⟨h₄, h₅⟩, h₆, h₇⟩
theorem kwLk_f {W : Nat → Nat} {C : Nat → Nat → Int32} {w l p : Nat} {x2 x3 x4 x5 x6 x7 x8 : Int32} : ∀ d, (∀ k, k < d → ccP C (p + k) = false) → kwLk W C w l p x2 x3 x4 x5 x6 x7 x8 → kwLk W C w l (p + d) x2 x3 x4 x5 x6 x7 x8 := by
  intro d
  induction d with
  | zero => intro _ h; exact h
  | succ d i₁ =>
    intro h₁ h
    exact kwLk_n (i₁ (fun k y => h₁ k (by omega)) h) (h₁ d (by omega))
theorem kwCode_n {x : Int32} {P : Nat → Bool} (h : ccBs P x) : (ccCode x < N 0 ↔ x = I (-1)) := by
  unfold ccCode
  rcases h with h₁ | ⟨q, h₁, h₂, _⟩
  · rw [h₁, if_pos rfl]
    exact ⟨fun _ => rfl, fun _ => by decide⟩
  · rw [h₂, if_neg (by rw [ccNm (by omega)]; exact fun h => h), mix_N (by omega), N_lt (by omega) (by omega), ccNm (by omega)]
    exact ⟨fun y => by omega, fun y => False.elim y⟩
/-- the least reserve, one place on -/
theorem kwLk_r {W : Nat → Nat} {C : Nat → Nat → Int32} {w l L c p : Nat} {x2 x3 x4 x5 x6 x7 x8 : Int32} (h : kwLk W C w l p x2 x3 x4 x5 x6 x7 x8) (g : ccP C p = true) (hp : p = 12 * L + c) (hc : c < 12) (hp' : p < 96) : (x3 < N 0 ∨ ¬ x5 ≤ ccRv W C w l p → ccCode (ccBst (ccP C) (ccLtR W C w l) (p + 1) 0 (I (-1))) = N 100 * N L + N c ∧ ∀ q, q < 96 → ccBst (ccP C) (ccLtR W C w l) (p + 1) 0 (I (-1)) = N q → ccRv W C w l p = ccRv W C w l q) ∧ (¬ x3 < N 0 → x5 ≤ ccRv W C w l p → ccCode (ccBst (ccP C) (ccLtR W C w l) (p + 1) 0 (I (-1))) = x3 ∧ ∀ q, q < 96 → ccBst (ccP C) (ccLtR W C w l) (p + 1) 0 (I (-1)) = N q → x5 = ccRv W C w l q) := by
  obtain ⟨h₁, ⟨h₂, h₃⟩, ⟨h₄, h₅⟩, h₆, h₇⟩ := h
  have is := ccBst_is (P := ccP C) (lt := ccLtR W C w l) p 0 (I (-1)) (by omega) (Or.inl rfl)
  have e : 0 + p = p := Nat.zero_add p
  rw [kwBst_s, e, if_pos g]
  obtain ⟨z, hz⟩ : ∃ z, z = ccBst (ccP C) (ccLtR W C w l) p 0 (I (-1)) := ⟨_, rfl⟩
  rw [← hz] at h₂ h₃ is ⊢
  have cp : ccCode (N p) = N 100 * N L + N c := by
    have e₁ : p / 12 = L := by omega
    have e₂ : p % 12 = c := by omega
    unfold ccCode
    rw [if_neg (by rw [ccNm (by omega)]; exact fun h => h), mix_N (by omega), e₁, e₂, N_mul, N_add]
  have cn := kwCode_n is
  rw [← h₂] at cn
  rcases is with i₁ | ⟨q, i₁, i₂, _⟩
  · have y₁ : x3 < N 0 := cn.mpr i₁
    refine ⟨fun _ => ?_, fun y => absurd y₁ y⟩
    rw [if_pos i₁]
    exact ⟨cp, fun q y₂ y₃ => by rw [ccNinj y₃ (by omega) (by omega)]⟩
  · have n₁ : ¬ z = I (-1) := by rw [i₂, ccNm (by omega)]; exact fun h => h
    have y₁ : ¬ x3 < N 0 := fun y => n₁ (cn.mp y)
    have x₅ : x5 = ccRv W C w l q := h₃ q i₁ i₂
    have mq : mix z = q := by rw [i₂]; exact mix_N (by omega)
    rw [if_neg n₁, mq]
    refine ⟨fun y => ?_, fun _ y => ?_⟩
    · have y₂ : ¬ x5 ≤ ccRv W C w l p := by
        rcases y with u | u
        · exact absurd u y₁
        · exact u
      have y₃ : ccLtR W C w l p q = true := decide_eq_true (by rw [← x₅]; exact Int32.not_le.mp y₂)
      rw [if_pos y₃]
      exact ⟨cp, fun q' y₄ y₅ => by rw [ccNinj y₅ (by omega) (by omega)]⟩
    · have y₃ : ¬ ccLtR W C w l p q = true := by
        unfold ccLtR
        rw [decide_eq_true_eq, ← x₅]
        exact Int32.not_lt.mpr y
      rw [if_neg y₃]
      exact ⟨h₂.symm, fun q' y₄ y₅ => h₃ q' y₄ y₅⟩
/-- the greatest wobble, one place on -/
theorem kwLk_w {W : Nat → Nat} {C : Nat → Nat → Int32} {w l L c p : Nat} {x2 x3 x4 x5 x6 x7 x8 : Int32} (h : kwLk W C w l p x2 x3 x4 x5 x6 x7 x8) (g : ccP C p = true) (hp : p = 12 * L + c) (hc : c < 12) (hp' : p < 96) : (x4 < N 0 ∨ ¬ C 5 p ≤ x6 → ccCode (ccBst (ccP C) (ccLtW C) (p + 1) 0 (I (-1))) = N 100 * N L + N c ∧ ∀ q, q < 96 → ccBst (ccP C) (ccLtW C) (p + 1) 0 (I (-1)) = N q → C 5 p = C 5 q) ∧ (¬ x4 < N 0 → C 5 p ≤ x6 → ccCode (ccBst (ccP C) (ccLtW C) (p + 1) 0 (I (-1))) = x4 ∧ ∀ q, q < 96 → ccBst (ccP C) (ccLtW C) (p + 1) 0 (I (-1)) = N q → x6 = C 5 q) := by
  obtain ⟨h₁, ⟨h₄, h₅⟩, ⟨h₂, h₃⟩, h₆, h₇⟩ := h
  have is := ccBst_is (P := ccP C) (lt := ccLtW C) p 0 (I (-1)) (by omega) (Or.inl rfl)
  have e : 0 + p = p := Nat.zero_add p
  rw [kwBst_s, e, if_pos g]
  obtain ⟨z, hz⟩ : ∃ z, z = ccBst (ccP C) (ccLtW C) p 0 (I (-1)) := ⟨_, rfl⟩
  rw [← hz] at h₂ h₃ is ⊢
  have cp : ccCode (N p) = N 100 * N L + N c := by
    have e₁ : p / 12 = L := by omega
    have e₂ : p % 12 = c := by omega
    unfold ccCode
    rw [if_neg (by rw [ccNm (by omega)]; exact fun h => h), mix_N (by omega), e₁, e₂, N_mul, N_add]
  have cn := kwCode_n is
  rw [← h₂] at cn
  rcases is with i₁ | ⟨q, i₁, i₂, _⟩
  · have y₁ : x4 < N 0 := cn.mpr i₁
    refine ⟨fun _ => ?_, fun y => absurd y₁ y⟩
    rw [if_pos i₁]
    exact ⟨cp, fun q y₂ y₃ => by rw [ccNinj y₃ (by omega) (by omega)]⟩
  · have n₁ : ¬ z = I (-1) := by rw [i₂, ccNm (by omega)]; exact fun h => h
    have y₁ : ¬ x4 < N 0 := fun y => n₁ (cn.mp y)
    have x₅ : x6 = C 5 q := h₃ q i₁ i₂
    have mq : mix z = q := by rw [i₂]; exact mix_N (by omega)
    rw [if_neg n₁, mq]
    refine ⟨fun y => ?_, fun _ y => ?_⟩
    · have y₂ : ¬ C 5 p ≤ x6 := by
        rcases y with u | u
        · exact absurd u y₁
        · exact u
      have y₃ : ccLtW C p q = true := decide_eq_true (by rw [← x₅]; exact Int32.not_le.mp y₂)
      rw [if_pos y₃]
      exact ⟨cp, fun q' y₄ y₅ => by rw [ccNinj y₅ (by omega) (by omega)]⟩
    · have y₃ : ¬ ccLtW C p q = true := by
        unfold ccLtW
        rw [decide_eq_true_eq, ← x₅]
        exact Int32.not_lt.mpr y
      rw [if_neg y₃]
      exact ⟨h₂.symm, fun q' y₄ y₅ => h₃ q' y₄ y₅⟩
/-- a builder at work: n₁ where it began, at most k cells since r₀, of at most LB letters -/
def kwZz (n₁ LB k : Nat) (r₀ : mRs) (m₀ : mMi) (a : Nat) (t : List Nat) (m : mMi) (r : mRs) : Prop := (∃ cap, kwB n₁ m r a cap t) ∧ kwNx r ∧ kwRs k (k * (2 * LB + 40)) r₀ r ∧ kwOp n₁ r₀ m₀ m r ∧ r.2.1.1 = r₀.2.1.1
theorem kwZz_k {n₁ LB k : Nat} {r₀ : mRs} {m₀ : mMi} {a : Nat} {t : List Nat} {m : mMi} {r : mRs} (h : kwZz n₁ LB k r₀ m₀ a t m r) : r.2.1.2.1 a = some (14, 0) := by
  obtain ⟨⟨cap, v, _, k₁, _⟩, _⟩ := h
  exact k₁
theorem kwZz_e {n₁ LB k : Nat} {r₀ r R : mRs} {m₀ m M : mMi} {a cap : Nat} {t u : List Nat} (h : kwZz n₁ LB k r₀ m₀ a t m r) (h₁ : kwB n₁ M R a cap u) (h₂ : kwRs 1 (2 * LB + 40) r R) (h₃ : kwOp n₁ r m M R) : kwZz n₁ LB (k + 1) r₀ m₀ a u M R := by
  obtain ⟨_, nx, f, o, al⟩ := h
  have e : (k + 1) * (2 * LB + 40) = k * (2 * LB + 40) + (2 * LB + 40) := by rw [Nat.add_mul, Nat.one_mul]
  exact ⟨⟨cap, h₁⟩, kwNx_k h₂ nx, by rw [e]; exact kwRs_trans f h₂, kwOp_trans o h₃, by rw [h₂.2.1]; exact al⟩
theorem kwZz_c {n₁ LB k b : Nat} {r₀ r : mRs} {m₀ m : mMi} {a : Nat} {t : List Nat} (h : kwZz n₁ LB k r₀ m₀ a t m r) (hb : b < 128) (hl : t.length ≤ LB) (hL : LB ≤ 4000) : ∃ M R, H202 a (N b) m r = some (.inl (some (mR 9 a 0)), M, R) ∧ kwZz n₁ LB (k + 1) r₀ m₀ a (t ++ [b]) M R := by
  obtain ⟨⟨cap, h₀⟩, nx, _⟩ := id h
  obtain ⟨M, R, cap₁, e₁, h₁, f₁, o₁⟩ := kwE202 h₀ nx hb (by omega)
  exact ⟨M, R, e₁, kwZz_e h h₁ (kwRs_le f₁ (by omega) (by omega)) o₁⟩
theorem kwZz_p {n₁ LB k j : Nat} {r₀ r : mRs} {m₀ m : mMi} {a : Nat} {t u : List Nat} (h : kwZz n₁ LB k r₀ m₀ a t m r) (hb : kwPool j u) (hl : t.length ≤ LB) (hL : LB ≤ 4000) : ∃ M R, H201 a j m r = some (.inl (some (mR 9 a 0)), M, R) ∧ kwZz n₁ LB (k + 1) r₀ m₀ a (t ++ u) M R := by
  obtain ⟨⟨cap, h₀⟩, nx, _⟩ := id h
  have lu := hb.2.2.1
  obtain ⟨M, R, cap₁, e₁, h₁, f₁, o₁⟩ := kwE201 h₀ nx hb (by omega)
  exact ⟨M, R, e₁, kwZz_e h h₁ (kwRs_le f₁ (by omega) (by omega)) o₁⟩
theorem kwZz_n {n₁ LB k x : Nat} {r₀ r : mRs} {m₀ m : mMi} {a : Nat} {t : List Nat} (h : kwZz n₁ LB k r₀ m₀ a t m r) (d : kwDg m₀) (h10 : 0 ≤ n₁) (hx : x < 1000) (hl : t.length ≤ LB) (hL : LB ≤ 4000) : ∃ M R, H203 a (N x) m r = some (.inl (some (mR 9 a 0)), M, R) ∧ kwZz n₁ LB (k + 1) r₀ m₀ a (t ++ ccNl x) M R := by
  obtain ⟨⟨cap, h₀⟩, nx, _, o, _⟩ := id h
  have d₁ : kwDg m := fun i y => by
    rw [o.1 3 4 0 i (by omega), o.1 3 5 0 i (by omega)]
    exact d i y
  obtain ⟨M, R, cap₁, e₁, h₁, f₁, o₁⟩ := kwE203 h₀ nx d₁ hx (by omega)
  exact ⟨M, R, e₁, kwZz_e h h₁ (kwRs_le f₁ (by omega) (by omega)) o₁⟩
