/-! LOOKS: all places. -/
theorem kwLvl_s {C : Nat → Nat → Int32} {w l L : Nat} : ∀ d c, ccLvl C w l L (d + 1) c = ccLvl C w l L d c ++ [ccLvb C w l L (c + d)] := by
  intro d
  induction d with
  | zero => intro c; rfl
  | succ d i₁ =>
    intro c
    have e : c + (d + 1) = c + 1 + d := by omega
    show ccLvb C w l L c :: ccLvl C w l L (d + 1) (c + 1) = _
    rw [i₁, e]
    rfl
/-- one place of a layer -/
theorem kwOne {n₀ : Nat} {m₀ : mMi} {B w l n lm dp cl bd : Nat} {β : Nat → Int32} {W : Nat → Nat} {T Z D a L c : Nat} {m : mMi} {r : mRs} {x2 x3 x4 x5 x6 x7 x8 : Int32} (h : kwPq n₀ m₀ B w l n lm dp cl bd β W T Z D a (ccLvl (m₀ 0 0) w l L c 0) m r) (hn : B < n₀ ∧ 10 ≤ n₀) (bT : T ≤ 900000000) (nm : kwNms m₀ n) (dg : kwDg m₀) (h₁ : L < l) (h₂ : L + c < w) (k : kwLk W (m₀ 0 0) w l (12 * L + c) x2 x3 x4 x5 x6 x7 x8) : ∃ e z2 z3 z4 z5 z6 z7 z8 M R, e ≤ 45 ∧ kwPq n₀ m₀ B w l n lm dp cl bd β W T Z D a (ccLvl (m₀ 0 0) w l L (c + 1) 0) M R ∧ kwRu n₀ 116 2333 r R ∧ kwLk W (m₀ 0 0) w l (12 * L + (c + 1)) z2 z3 z4 z5 z6 z7 z8 ∧ ∀ f x9 x10, H242_73 B 0 a (f + 45) 96 x2 x3 x4 x5 x6 x7 x8 x9 x10 (N L) (N c) (N 0) (N 0) (N 0) m r = H242_73 B 0 a (f + e) 96 z2 z3 z4 z5 z6 z7 z8 (x9 + N 1) x10 (N L) (N (c + 1)) (N 0) (N 0) (N 0) M R := by
  have qr := (kwI_0 h.1).2
  have b₁ : w ≤ 12 := qr.2.2.2.2.1
  have b₂ : l ≤ 8 := qr.2.2.2.2.2.2.1
  have bn : n ≤ 20 := nm.1
  have cm : m 0 0 = m₀ 0 0 := kwFk_0 h.2.2.2.1 (by omega)
  obtain ⟨m₁, r₁, p₁, u₁, k₁⟩ := kwLet (L := L) (c := c) h hn h₁ h₂ (by rw [ccLvl_len]; omega)
  have e₀ : 0 + c = c := Nat.zero_add c
  rw [cm] at p₁
  have tt : ccLvl (m₀ 0 0) w l L c 0 ++ [ccLvb (m₀ 0 0) w l L c] = ccLvl (m₀ 0 0) w l L (c + 1) 0 := by rw [kwLvl_s, e₀]
  rw [tt] at p₁
  have cm₁ : m₁ 0 0 = m₀ 0 0 := kwFk_0 p₁.2.2.2.1 (by omega)
  have hp := (kwHP_p (w := w) (C := m₀ 0 0) h₁ h₂).1
  cases g : ccHP (m₀ 0 0) w l L c
  · obtain ⟨M, R, p₂, u₂, k₂⟩ := kwConN p₁ bT h₁ h₂ (by rw [cm₁]; exact g)
    rw [g] at hp
    refine ⟨44, x2, x3, x4, x5, x6, x7, x8, M, R, by omega, p₂, kwRu_le (kwRu_trans u₁ u₂) (Nat.le_refl _) (by omega) (by omega), kwLk_n k hp.symm, fun f x9 x10 => ?_⟩
    have e₁ : f + 45 = (f + 44) + 1 := rfl
    rw [e₁, k₁, k₂]
  · obtain ⟨e, z2, z3, z4, z5, z6, z7, z8, v, he, k₂, k₃⟩ := kwConP (a := a) p₁.1 (by rw [cm₁]; exact k) rfl h₁ h₂ (by rw [cm₁]; exact g)
    obtain ⟨M, R, p₂, u₂, k₄⟩ := kwNwP p₁ bT ⟨nm.1, fun i y => by rw [p₁.2.2.2.1 1 0 2 i (by omega) (by omega) (by omega)]; exact nm.2 i y⟩ (fun i y => by
      rw [p₁.2.2.2.1 3 4 0 i (by omega) (by omega) (by omega), p₁.2.2.2.1 3 5 0 i (by omega) (by omega) (by omega)]
      exact dg i y) h₁ h₂ (by rw [cm₁]; exact g)
    rw [cm₁] at k₂
    refine ⟨e + (41 - n), z2, z3, z4, z5, z6, z7, z8, M, R, by omega, p₂, kwRu_le (kwRu_trans u₁ u₂) (Nat.le_refl _) (by omega) (by omega), k₂, fun f x9 x10 => ?_⟩
    have e₁ : f + 45 = (f + 44) + 1 := rfl
    have e₂ : f + 44 = (f + 42) + 2 := rfl
    have e₃ : f + 42 + e = (f + (e + (41 - n))) + n + 1 := by omega
    rw [e₁, k₁, e₂, k₃, e₃, k₄]
/-- a layer's places -/
theorem kwLine {n₀ : Nat} {m₀ : mMi} {B w l n lm dp cl bd : Nat} {β : Nat → Int32} {W : Nat → Nat} {T Z D a L : Nat} (hn : B < n₀ ∧ 10 ≤ n₀) (bT : T ≤ 900000000) (nm : kwNms m₀ n) (dg : kwDg m₀) (h₁ : L < l) : ∀ d c m r x2 x3 x4 x5 x6 x7 x8, c + d = w - L → kwPq n₀ m₀ B w l n lm dp cl bd β W T Z D a (ccLvl (m₀ 0 0) w l L c 0) m r → kwLk W (m₀ 0 0) w l (12 * L + c) x2 x3 x4 x5 x6 x7 x8 → ∃ e z2 z3 z4 z5 z6 z7 z8 M R, e ≤ 45 * d ∧ kwPq n₀ m₀ B w l n lm dp cl bd β W T Z D a (ccLvl (m₀ 0 0) w l L (w - L) 0) M R ∧ kwRu n₀ (116 * d) (2333 * d) r R ∧ kwLk W (m₀ 0 0) w l (12 * L + (w - L)) z2 z3 z4 z5 z6 z7 z8 ∧ ∀ f x9 x10, H242_73 B 0 a (f + 45 * d) 96 x2 x3 x4 x5 x6 x7 x8 x9 x10 (N L) (N c) (N 0) (N 0) (N 0) m r = H242_73 B 0 a (f + e) 96 z2 z3 z4 z5 z6 z7 z8 (x9 + N d) x10 (N L) (N (w - L)) (N 0) (N 0) (N 0) M R := by
  intro d
  induction d with
  | zero =>
    intro c m r x2 x3 x4 x5 x6 x7 x8 y h k
    have e₁ : c = w - L := by omega
    subst e₁
    refine ⟨0, x2, x3, x4, x5, x6, x7, x8, m, r, Nat.le_refl _, h, kwRu_rfl, k, fun f x9 x10 => ?_⟩
    have z : x9 + N 0 = x9 := Int32.add_zero x9
    rw [z]
  | succ d i₁ =>
    intro c m r x2 x3 x4 x5 x6 x7 x8 y h k
    obtain ⟨e, z2, z3, z4, z5, z6, z7, z8, m₁, r₁, he, p₁, u₁, k₁, c₁⟩ := kwOne h hn bT nm dg h₁ (by omega) k
    obtain ⟨e₂, y2, y3, y4, y5, y6, y7, y8, M, R, he₂, p₂, u₂, k₂, c₂⟩ := i₁ (c + 1) m₁ r₁ z2 z3 z4 z5 z6 z7 z8 (by omega) p₁ k₁
    refine ⟨e + e₂, y2, y3, y4, y5, y6, y7, y8, M, R, by omega, p₂, kwRu_le (kwRu_trans u₁ u₂) (Nat.le_refl _) (by omega) (by omega), k₂, fun f x9 x10 => ?_⟩
    have e₃ : f + 45 * (d + 1) = (f + 45 * d) + 45 := by omega
    have e₄ : f + 45 * d + e = (f + e) + 45 * d := by omega
    have e₅ : x9 + N 1 + N d = x9 + N (d + 1) := by
      rw [Int32.add_assoc, N_add]
      congr 2
      omega
    rw [e₃, c₁, e₄, c₂, e₅, Nat.add_assoc]
