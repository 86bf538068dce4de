/-! WORLD and class: a fall goes together. -/
/-- the tie of a World with a castle of the class; bx: also what a World of its own knows -/
def kwU (n t : Nat) (β : Nat → Int32) (bx : Bool) (m : mMi) (B : Nat) (C : Nat → Nat → Int32) : Prop := kwG m B C ∧ kwK ccX0 n m B C ∧ kwF m B C ∧ C 7 2 = N t ∧ (bx = true → kwX n t β m B C)
theorem kwHR191 {f B : Nat} {x1 x2 x3 x4 : Int32} {mi : mMi} {rs : mRs} : HR191 (f + 1) 191 B x1 x2 x3 x4 mi rs = mckO (rs.2.1.1 B) (bI (H178 B x1 x2 mi rs) (fun v1 m1 r1 => mckO (r1.2.1.1 B) (mifO (decide (v1 ≠ (N 0))) (bV (H192 B x1 x2 (N 0) x3 m1 r1) (fun m2 r2 => mckO (r2.2.1.1 B) (mckO (mIn x1 10) (mckO (mIn x2 14) (mckO (mIn x1 10) (mckO (mIn x2 14) (mckO (mIn x1 10) (mckO (mIn x2 14) (bV (H193 B (m2 20 B (mix x1) (mix x2)) x1 x4 (mset m2 20 B (mix x1) (mix x2) (I (-1))) r2) (fun m3 r3 => mckO (r3.2.1.1 B) (bV (H193 B (m2 21 B (mix x1) (mix x2)) x1 x4 m3 r3) (fun m4 r4 => mckO (r4.2.1.1 B) (bV (HR191 f 194 B (x1 + (N 1)) (x2 - (N 1)) (N 2) (I (-1)) m4 r4) (fun m5 r5 => mckO (r5.2.1.1 B) (bV (HR191 f 194 B (x1 + (N 1)) x2 (N 2) (I (-1)) m5 r5) (fun m6 r6 => mckO (r6.2.1.1 B) (some (.inl none, m6, r6)))))))))))))))))) (some (.inl none, m1, r1))))) := rfl
theorem kwHR194 {f B : Nat} {x1 x2 x3 x4 : Int32} {mi : mMi} {rs : mRs} : HR191 (f + 1) 194 B x1 x2 x3 x4 mi rs = mckO (rs.2.1.1 B) (bI (H179 B x1 x2 mi rs) (fun v1 m1 r1 => mckO (r1.2.1.1 B) (mifO (decide (v1 ≠ (N 0))) (bV (H192 B x1 x2 (N 1) x3 m1 r1) (fun m2 r2 => mckO (r2.2.1.1 B) (mckO (mIn x1 10) (mckO (mIn x2 14) (mckO (mIn x1 10) (mckO (mIn x2 14) (bV (H193 B (m2 24 B (mix x1) (mix x2)) x1 x4 (mset m2 24 B (mix x1) (mix x2) (I (-1))) r2) (fun m3 r3 => mckO (r3.2.1.1 B) (bV (HR191 f 191 B x1 x2 (N 2) (I (-1)) m3 r3) (fun m4 r4 => mckO (r4.2.1.1 B) (some (.inl none, m4, r4)))))))))))) (some (.inl none, m1, r1))))) := rfl
theorem kwA {C : Nat → Nat → Int32} {n : Nat} {X : Nat → Bool} {m : mMi} {B k z : Nat} (h₁ : kwK X n m B C) (h₂ : k < n) (h₃ : C 11 k = N z) : m 6 B 2 k = N z := by
  rw [(h₁ k h₂).1]
  exact h₃
theorem kwFa {m : mMi} {B h : Nat} {C : Nat → Nat → Int32} (h₁ : kwF m B C) (h₂ : C 10 5 = N h) (h₃ : h < 40) : ∃ a, m 6 B 0 18 = N a ∧ a ≤ h := by
  obtain ⟨_, a, h₄, e₁, e₂, e₃, e₄⟩ := h₁
  have e₅ : h = h₄ := ccNinj (by rw [← h₂, e₂]) (by omega) (by omega)
  exact ⟨a, e₁, by omega⟩
/-- what World does in one step: a pair -/
theorem kwWstepP {mw : mMi} {B w l n lm dp cl bd t L c cs a b h₁ z₁ h₂ z₂ : Nat} {β : Nat → Int32} {bx : Bool} {C : Nat → Nat → Int32} {x : Int32} (q : kwS mw B w l n lm dp cl bd) (u : kwU n t β bx mw B C) (i₀ : ccCd n C) (h₃ : t < 1000000000) (h₄ : L < l) (h₅ : L + c < w) (h₆ : cs < 4) (e₁ : a < n) (e₂ : b < n) (e₃ : a ≠ b) (e₄ : C 2 (12 * L + c) = N a) (e₅ : C 3 (12 * L + c) = N b) (e₆ : C 11 a = N z₁) (e₇ : 1 ≤ z₁) (e₈ : z₁ ≤ 9) (e₉ : C 11 b = N z₂) (f₁ : 1 ≤ z₂) (f₂ : z₂ ≤ 9) (f₃ : C 10 5 = N h₁) (f₄ : h₁ < 40) (f₅ : (ccKd (ccU (ccKn C t L c 0 cs) 2 (12 * L + c) (I (-1))) bd L a h₁ z₁ (decide (N a = x))) 10 5 = N h₂) (f₆ : h₂ < 40) :
    ∃ m₁, (∀ f rs m₂ m₃, rs.2.1.1 B = true → HR191 f 194 B (N (L + 1)) (N c - N 1) (N 2) (I (-1)) m₁ rs = rV m₂ rs → HR191 f 194 B (N (L + 1)) (N c) (N 2) (I (-1)) m₂ rs = rV m₃ rs → HR191 (f + 1) 191 B (N L) (N c) (N cs) x mw rs = rV m₃ rs) ∧ kwU n (t + 1) β bx m₁ B (kwCP C bd t L c cs a b h₁ z₁ h₂ z₂ x) ∧ kwFr B mw m₁ ∧ kwSt B mw m₁ := by
  have q₁ := q
  obtain ⟨_, _, _, _, _, g₅, _, b₁, b₂, b₃, b₄, b₅, _, _, _, b₆⟩ := q₁
  obtain ⟨u₁, u₂, u₃, u₄, u₅⟩ := u
  have v₁ : mw 6 B 0 20 = N t := by rw [u₃.1]; exact u₄
  -- noted
  obtain ⟨m₅, hm₅⟩ : ∃ m, m = kwNote mw B t L c 0 cs := ⟨_, rfl⟩
  have G₅ : kwG m₅ B (ccKn C t L c 0 cs) := by rw [hm₅]; exact kwG_n u₁
  have K₅ : kwK ccX0 n m₅ B (ccKn C t L c 0 cs) := by rw [hm₅]; exact kwK_n u₂
  have F₅ : kwF m₅ B (ccKn C t L c 0 cs) := by rw [hm₅]; exact kwF_n u₃ h₆
  have X₅ : bx = true → kwX n (t + 1) β m₅ B (ccKn C t L c 0 cs) := fun y => by rw [hm₅]; exact kwX_n (u₅ y) h₆
  have k₁ : ccKn C t L c 0 cs 2 (12 * L + c) = N a := by rw [ccKn_o (by omega) (by omega) (by omega)]; exact e₄
  have k₂ : ccKn C t L c 0 cs 3 (12 * L + c) = N b := by rw [ccKn_o (by omega) (by omega) (by omega)]; exact e₅
  have k₃ : ccKn C t L c 0 cs 2 (12 * L + c) ≠ I (-1) := by rw [k₁]; exact fun y => (ccNm (by omega)).mp y
  have r₁ : m₅ 20 B L c = N a := by rw [(G₅ L c (by omega) (by omega)).1]; exact k₁
  have r₂ : m₅ 21 B L c = N b := by rw [((G₅ L c (by omega) (by omega)).2.2 k₃).1]; exact k₂
  -- out of the grid
  obtain ⟨m₆, hm₆⟩ : ∃ m, m = mset m₅ 20 B L c (I (-1)) := ⟨_, rfl⟩
  obtain ⟨C₆, hC₆⟩ : ∃ D, D = ccU (ccKn C t L c 0 cs) 2 (12 * L + c) (I (-1)) := ⟨_, rfl⟩
  have G₆ : kwG m₆ B C₆ := by rw [hm₆, hC₆]; exact kwG_p G₅ (by omega)
  have K₆ : kwK (ccX2 a b) n m₆ B C₆ := by rw [hm₆, hC₆]; exact kwK_p K₅ (by omega) b₅ e₁ e₂ k₁ k₂
  have F₆ : kwF m₆ B C₆ := by rw [hm₆, hC₆]; exact kwF_u F₅ (by omega) (Or.inl rfl)
  have X₆ : bx = true → kwX n (t + 1) β m₆ B C₆ := fun y => by rw [hm₆, hC₆]; exact kwX_u (X₅ y) (by omega) (Or.inl rfl)
  have c₁ : C₆ 11 a = N z₁ := by
    rw [hC₆]
    unfold ccU
    rw [if_neg (by omega), ccKn_o (by omega) (by omega) (by omega)]
    exact e₆
  have c₂ : C₆ 11 b = N z₂ := by
    rw [hC₆]
    unfold ccU
    rw [if_neg (by omega), ccKn_o (by omega) (by omega) (by omega)]
    exact e₉
  have c₃ : C₆ 10 5 = N h₁ := by
    rw [hC₆]
    unfold ccU
    rw [if_neg (by omega), ccKn_o (by omega) (by omega) (by omega)]
    exact f₃
  obtain ⟨a₁, a₂, a₃⟩ := kwFa F₆ c₃ f₄
  have S₆ : kwSt B mw m₆ := by rw [hm₆, hm₅]; exact kwSt_r kwNote_st (by omega)
  have R₆ : kwFr B mw m₆ := by rw [hm₆, hm₅]; exact kwFr_r kwNote_fr (by omega)
  have d₆ : m₆ 6 B 1 5 = N bd := by rw [S₆ 1 5 (by omega)]; exact g₅
  -- the first card
  obtain ⟨m₇, hm₇⟩ : ∃ m, m = kwDrop m₆ B bd L a a₁ z₁ (decide (N a = x)) := ⟨_, rfl⟩
  obtain ⟨C₇, hC₇⟩ : ∃ D, D = ccKd C₆ bd L a h₁ z₁ (decide (N a = x)) := ⟨_, rfl⟩
  have G₇ : kwG m₇ B C₇ := by rw [hm₇, hC₇]; exact kwG_d G₆
  have K₇ : kwK (ccX1 b) n m₇ B C₇ := by rw [hm₇, hC₇]; exact kwK_d K₆ b₅ e₁ f₄ (fun j y => by simp only [ccX2, ccX1, y, decide_false, Bool.false_or]) c₁ e₇
  have F₇ : kwF m₇ B C₇ := by rw [hm₇, hC₇]; exact kwF_d F₆ a₂ c₃ (by omega) f₄
  have X₇ : bx = true → kwX n (t + 1) β m₇ B C₇ := fun y => by rw [hm₇, hC₇]; exact kwX_d (X₆ y) a₂ c₃ (by omega) f₄ e₁ b₅ c₁ e₈
  have c₄ : C₇ 11 b = N z₂ := by
    rw [hC₇, ccKd_o (by omega) (by omega) (by omega) (by omega) (by omega)]
    exact c₂
  have c₅ : C₇ 10 5 = N h₂ := by rw [hC₇, hC₆]; exact f₅
  obtain ⟨a₄, a₅, a₆⟩ := kwFa F₇ c₅ f₆
  have S₇ : kwSt B mw m₇ := by rw [hm₇]; exact kwSt_trans S₆ kwDrop_st
  have R₇ : kwFr B mw m₇ := by rw [hm₇]; exact kwFr_trans R₆ kwDrop_fr
  have d₇ : m₇ 6 B 1 5 = N bd := by rw [S₇ 1 5 (by omega)]; exact g₅
  -- the second card
  obtain ⟨m₈, hm₈⟩ : ∃ m, m = kwDrop m₇ B bd L b a₄ z₂ (decide (N b = x)) := ⟨_, rfl⟩
  obtain ⟨C₈, hC₈⟩ : ∃ D, D = ccKd C₇ bd L b h₂ z₂ (decide (N b = x)) := ⟨_, rfl⟩
  have G₈ : kwG m₈ B C₈ := by rw [hm₈, hC₈]; exact kwG_d G₇
  have K₈ : kwK ccX0 n m₈ B C₈ := by rw [hm₈, hC₈]; exact kwK_d K₇ b₅ e₂ f₆ (fun j y => by simp only [ccX1, ccX0, y, decide_false]) c₄ f₁
  have F₈ : kwF m₈ B C₈ := by rw [hm₈, hC₈]; exact kwF_d F₇ a₅ c₅ (by omega) f₆
  have X₈ : bx = true → kwX n (t + 1) β m₈ B C₈ := fun y => by rw [hm₈, hC₈]; exact kwX_d (X₇ y) a₅ c₅ (by omega) f₆ e₂ b₅ c₄ f₂
  have e₀ : C₈ = kwCP C bd t L c cs a b h₁ z₁ h₂ z₂ x := by rw [hC₈, hC₇, hC₆]; rfl
  rw [e₀] at G₈ K₈ F₈ X₈
  refine ⟨m₈, fun f rs m₂ m₃ hB y₁ y₂ => ?_, ⟨G₈, K₈, F₈, ?_, X₈⟩, by rw [hm₈]; exact kwFr_trans R₇ kwDrop_fr, by rw [hm₈]; exact kwSt_trans S₇ kwDrop_st⟩
  · have hp : ccHP C w l L c = true := ccHP_i h₄ h₅ (by rw [e₄]; exact fun y => (ccNm (by omega)).mp y)
    have s₁ : ∀ r : mRs, r.2.1.1 B = true → H193 B (N a) (N L) x m₆ r = rV m₇ r := fun r y => by
      rw [hm₇]
      exact kwE193 y d₆ b₆ (by omega) (by omega) a₂ (by omega) (kwA K₆ e₁ c₁) e₇ e₈
    have s₂ : ∀ r : mRs, r.2.1.1 B = true → H193 B (N b) (N L) x m₇ r = rV m₈ r := fun r y => by
      rw [hm₈]
      exact kwE193 y d₇ b₆ (by omega) (by omega) a₅ (by omega) (kwA K₇ e₂ c₄) f₁ f₂
    have s₃ : H192 B (N L) (N c) (N 0) (N cs) mw rs = rV m₅ rs := by
      rw [hm₅]
      exact kwE192 hB v₁ h₃ h₆
    rw [kwHR191]
    simp (disch := omega) only [hB, kwE178 hB q u₁ i₀, hp, s₃, r₁, r₂, ← hm₆, s₁ rs hB, s₂ rs hB, y₁, y₂, true_and, and_true, false_and, and_false, if_true, if_false, ccIte, ccBi, ccBiX, ccBv, ccBvX, ccZ0, ccZ1, ccTZ, ccT0, ccT1, Bool.or_false, ccMckT, ccMckIn, ne_eq, not_true_eq_false, not_false_eq_true, if_pos, if_neg, reduceIte, eq_self, Bool.false_eq_true, Bool.true_eq_false, mix_N, N_add, N_mul, N_sub, N_div, ccMod, N_lt, N_le, N_eq, ccNm, ccMN, ccNm2, ccM2N, ccMM2, ccM2M, ccMlt, ccMle, ccNltM, ccNleM, ccM2lt, ccM2le, ccNlt2, ccNle2, Nat.reduceAdd, Nat.reduceMul, Nat.reduceSub, Nat.reduceLT, Nat.reduceLeDiff, Nat.reduceEqDiff, Nat.reduceDiv, Nat.reduceMod]
  · have o₁ : kwCP C bd t L c cs a b h₁ z₁ h₂ z₂ x 7 2 = ccKn C t L c 0 cs 7 2 := by
      unfold kwCP
      rw [ccKd_o (by omega) (by omega) (by omega) (by omega) (by omega), ccKd_o (by omega) (by omega) (by omega) (by omega) (by omega)]
      unfold ccU
      rw [if_neg (by omega)]
    rw [o₁]
    unfold ccKn ccU
    rw [if_pos ⟨rfl, rfl⟩]
/-- a flat card -/
theorem kwWstepF {mw : mMi} {B w l n lm dp cl bd t L c cs a h₁ z₁ : Nat} {β : Nat → Int32} {bx : Bool} {C : Nat → Nat → Int32} {x : Int32} (q : kwS mw B w l n lm dp cl bd) (u : kwU n t β bx mw B C) (i₀ : ccCd n C) (h₃ : t < 1000000000) (h₄ : L < l) (h₅ : L + c < w) (h₆ : cs < 4) (e₁ : a < n) (e₄ : C 6 (12 * L + c) = N a) (e₆ : C 11 a = N z₁) (e₇ : 1 ≤ z₁) (e₈ : z₁ ≤ 9) (f₃ : C 10 5 = N h₁) (f₄ : h₁ < 40) :
    ∃ m₁, (∀ f rs m₂, rs.2.1.1 B = true → HR191 f 191 B (N L) (N c) (N 2) (I (-1)) m₁ rs = rV m₂ rs → HR191 (f + 1) 194 B (N L) (N c) (N cs) x mw rs = rV m₂ rs) ∧ kwU n (t + 1) β bx m₁ B (kwCF C bd t L c cs a h₁ z₁ x) ∧ kwFr B mw m₁ ∧ kwSt B mw m₁ := by
  have q₁ := q
  obtain ⟨_, _, _, _, _, g₅, _, b₁, b₂, b₃, b₄, b₅, _, _, _, b₆⟩ := q₁
  obtain ⟨u₁, u₂, u₃, u₄, u₅⟩ := u
  have v₁ : mw 6 B 0 20 = N t := by rw [u₃.1]; exact u₄
  obtain ⟨m₅, hm₅⟩ : ∃ m, m = kwNote mw B t L c 1 cs := ⟨_, rfl⟩
  have G₅ : kwG m₅ B (ccKn C t L c 1 cs) := by rw [hm₅]; exact kwG_n u₁
  have K₅ : kwK ccX0 n m₅ B (ccKn C t L c 1 cs) := by rw [hm₅]; exact kwK_n u₂
  have F₅ : kwF m₅ B (ccKn C t L c 1 cs) := by rw [hm₅]; exact kwF_n u₃ h₆
  have X₅ : bx = true → kwX n (t + 1) β m₅ B (ccKn C t L c 1 cs) := fun y => by rw [hm₅]; exact kwX_n (u₅ y) h₆
  have k₁ : ccKn C t L c 1 cs 6 (12 * L + c) = N a := by rw [ccKn_o (by omega) (by omega) (by omega)]; exact e₄
  have r₁ : m₅ 24 B L c = N a := by rw [(G₅ L c (by omega) (by omega)).2.1]; exact k₁
  obtain ⟨m₆, hm₆⟩ : ∃ m, m = mset m₅ 24 B L c (I (-1)) := ⟨_, rfl⟩
  obtain ⟨C₆, hC₆⟩ : ∃ D, D = ccU (ccKn C t L c 1 cs) 6 (12 * L + c) (I (-1)) := ⟨_, rfl⟩
  have G₆ : kwG m₆ B C₆ := by rw [hm₆, hC₆]; exact kwG_f G₅ (by omega)
  have K₆ : kwK (ccX1 a) n m₆ B C₆ := by rw [hm₆, hC₆]; exact kwK_f K₅ (by omega) b₅ e₁ k₁
  have F₆ : kwF m₆ B C₆ := by rw [hm₆, hC₆]; exact kwF_u F₅ (by omega) (Or.inr rfl)
  have X₆ : bx = true → kwX n (t + 1) β m₆ B C₆ := fun y => by rw [hm₆, hC₆]; exact kwX_u (X₅ y) (by omega) (Or.inr rfl)
  have c₁ : C₆ 11 a = N z₁ := by
    rw [hC₆]
    unfold ccU
    rw [if_neg (by omega), ccKn_o (by omega) (by omega) (by omega)]
    exact e₆
  have c₃ : C₆ 10 5 = N h₁ := by
    rw [hC₆]
    unfold ccU
    rw [if_neg (by omega), ccKn_o (by omega) (by omega) (by omega)]
    exact f₃
  obtain ⟨a₁, a₂, a₃⟩ := kwFa F₆ c₃ f₄
  have S₆ : kwSt B mw m₆ := by rw [hm₆, hm₅]; exact kwSt_r kwNote_st (by omega)
  have R₆ : kwFr B mw m₆ := by rw [hm₆, hm₅]; exact kwFr_r kwNote_fr (by omega)
  have d₆ : m₆ 6 B 1 5 = N bd := by rw [S₆ 1 5 (by omega)]; exact g₅
  obtain ⟨m₇, hm₇⟩ : ∃ m, m = kwDrop m₆ B bd L a a₁ z₁ (decide (N a = x)) := ⟨_, rfl⟩
  obtain ⟨C₇, hC₇⟩ : ∃ D, D = ccKd C₆ bd L a h₁ z₁ (decide (N a = x)) := ⟨_, rfl⟩
  have G₇ : kwG m₇ B C₇ := by rw [hm₇, hC₇]; exact kwG_d G₆
  have K₇ : kwK ccX0 n m₇ B C₇ := by rw [hm₇, hC₇]; exact kwK_d K₆ b₅ e₁ f₄ (fun j y => by simp only [ccX1, ccX0, y, decide_false]) c₁ e₇
  have F₇ : kwF m₇ B C₇ := by rw [hm₇, hC₇]; exact kwF_d F₆ a₂ c₃ (by omega) f₄
  have X₇ : bx = true → kwX n (t + 1) β m₇ B C₇ := fun y => by rw [hm₇, hC₇]; exact kwX_d (X₆ y) a₂ c₃ (by omega) f₄ e₁ b₅ c₁ e₈
  have e₀ : C₇ = kwCF C bd t L c cs a h₁ z₁ x := by rw [hC₇, hC₆]; rfl
  rw [e₀] at G₇ K₇ F₇ X₇
  refine ⟨m₇, fun f rs m₂ hB y₁ => ?_, ⟨G₇, K₇, F₇, ?_, X₇⟩, by rw [hm₇]; exact kwFr_trans R₆ kwDrop_fr, by rw [hm₇]; exact kwSt_trans S₆ kwDrop_st⟩
  · have hp : ccHF C w l L c = true := ccHF_i h₄ h₅ (by rw [e₄]; exact fun y => (ccNm (by omega)).mp y)
    have s₁ : ∀ r : mRs, r.2.1.1 B = true → H193 B (N a) (N L) x m₆ r = rV m₇ r := fun r y => by
      rw [hm₇]
      exact kwE193 y d₆ b₆ (by omega) (by omega) a₂ (by omega) (kwA K₆ e₁ c₁) e₇ e₈
    have s₃ : H192 B (N L) (N c) (N 1) (N cs) mw rs = rV m₅ rs := by
      rw [hm₅]
      exact kwE192 hB v₁ h₃ h₆
    rw [kwHR194]
    simp (disch := omega) only [hB, kwE179 hB q u₁ i₀, hp, s₃, r₁, ← hm₆, s₁ rs hB, y₁, true_and, and_true, false_and, and_false, if_true, if_false, ccIte, ccBi, ccBiX, ccBv, ccBvX, ccZ0, ccZ1, ccTZ, ccT0, ccT1, Bool.or_false, ccMckT, ccMckIn, ne_eq, not_true_eq_false, not_false_eq_true, if_pos, if_neg, reduceIte, eq_self, Bool.false_eq_true, Bool.true_eq_false, mix_N, N_add, N_mul, N_sub, N_div, ccMod, N_lt, N_le, N_eq, ccNm, ccMN, ccNm2, ccM2N, ccMM2, ccM2M, ccMlt, ccMle, ccNltM, ccNleM, ccM2lt, ccM2le, ccNlt2, ccNle2, Nat.reduceAdd, Nat.reduceMul, Nat.reduceSub, Nat.reduceLT, Nat.reduceLeDiff, Nat.reduceEqDiff, Nat.reduceDiv, Nat.reduceMod]
  · have o₁ : kwCF C bd t L c cs a h₁ z₁ x 7 2 = ccKn C t L c 1 cs 7 2 := by
      unfold kwCF
      rw [ccKd_o (by omega) (by omega) (by omega) (by omega) (by omega)]
      unfold ccU
      rw [if_neg (by omega)]
    rw [o₁]
    unfold ccKn ccU
    rw [if_pos ⟨rfl, rfl⟩]
/-- behind a fall, on both sides -/
def kwOut (mc mm mw m₁ m₂ m₃ : mMi) (i B w l n bd : Nat) (β wt : Nat → Int32) (bx : Bool) (t : Nat) : Prop := (∃ u v, ccInv m₁ m₂ i w l n bd β wt u v ∧ ccG (mc 0 i) (m₁ 0 i) t v ∧ kwU n v β bx m₃ B (m₁ 0 i)) ∧ ccFr i mc m₁ ∧ ccFq mm m₂ ∧ kwFr B mw m₃ ∧ kwSt B mw m₃
def kwPopF (d : Nat) : Prop := ∀ (mc mm mw : mMi) (i B w l n lm dp cl bd : Nat) (β wt : Nat → Int32) (bx : Bool) (h t L c cs : Nat) (x : Int32), ccInv mc mm i w l n bd β wt h t → kwS mw B w l n lm dp cl bd → kwU n t β bx mw B (mc 0 i) → L + d = 8 → c < 1000 → cs < 4 → ∃ m₁ m₂ m₃, (∀ f rs, 2 * d + 1 ≤ f → FR f 28 i (N L) (N c) (N cs) x mc rs = rV m₁ rs) ∧ (∀ f rs, rs.2.1.1 B = true → 2 * d + 1 ≤ f → HR191 f 194 B (N L) (N c) (N cs) x mw rs = rV m₃ rs) ∧ kwOut mc mm mw m₁ m₂ m₃ i B w l n bd β wt bx t
def kwPopP (d : Nat) : Prop := ∀ (mc mm mw : mMi) (i B w l n lm dp cl bd : Nat) (β wt : Nat → Int32) (bx : Bool) (h t L c cs : Nat) (x : Int32), ccInv mc mm i w l n bd β wt h t → kwS mw B w l n lm dp cl bd → kwU n t β bx mw B (mc 0 i) → L + d = 8 → c < 1000 → cs < 4 → ∃ m₁ m₂ m₃, (∀ f rs, 2 * d ≤ f → 1 ≤ f → FR f 26 i (N L) (N c) (N cs) x mc rs = rV m₁ rs) ∧ (∀ f rs, rs.2.1.1 B = true → 2 * d ≤ f → 1 ≤ f → HR191 f 191 B (N L) (N c) (N cs) x mw rs = rV m₃ rs) ∧ kwOut mc mm mw m₁ m₂ m₃ i B w l n bd β wt bx t
theorem kwOut_no {mc mm mw : mMi} {i B w l n bd h t : Nat} {β wt : Nat → Int32} {bx : Bool} (q₀ : ccInv mc mm i w l n bd β wt h t) (u : kwU n t β bx mw B (mc 0 i)) : kwOut mc mm mw mc mm mw i B w l n bd β wt bx t := ⟨⟨h, t, q₀, ccG_rfl, u⟩, ccFr_rfl, ccFq_rfl, kwFr_rfl, kwSt_rfl⟩
theorem kwOut_tr {mc mm mw m₁ m₂ m₃ m₄ m₅ m₆ : mMi} {i B w l n bd t v : Nat} {β wt : Nat → Int32} {bx : Bool} (g : ccG (mc 0 i) (m₁ 0 i) t v) (r₁ : ccFr i mc m₁) (r₂ : ccFq mm m₂) (r₃ : kwFr B mw m₃) (r₄ : kwSt B mw m₃) (o : kwOut m₁ m₂ m₃ m₄ m₅ m₆ i B w l n bd β wt bx v) : kwOut mc mm mw m₄ m₅ m₆ i B w l n bd β wt bx t := by
  obtain ⟨⟨a, b, e₁, e₂, e₃⟩, e₄, e₅, e₆, e₇⟩ := o
  exact ⟨⟨a, b, e₁, ccG_trans g e₂, e₃⟩, ccFr_trans r₁ e₄, ccFq_trans r₂ e₅, kwFr_trans r₃ e₆, kwSt_trans r₄ e₇⟩
theorem kwWnoF {mw : mMi} {rs : mRs} {B w l n lm dp cl bd L c f : Nat} {C : Nat → Nat → Int32} {x y : Int32} (hB : rs.2.1.1 B = true) (q : kwS mw B w l n lm dp cl bd) (g : kwG mw B C) (q₂ : ccCd n C) (h₁ : L < 1000) (h₂ : c < 1000) (h₃ : ccHF C w l L c = false) : HR191 (f + 1) 194 B (N L) (N c) x y mw rs = rV mw rs := by
  rw [kwHR194]
  simp (disch := omega) only [hB, kwE179 hB q g q₂ h₁ h₂, h₃, true_and, and_true, false_and, and_false, if_true, if_false, ccIte, ccBi, ccBiX, ccBv, ccBvX, ccZ0, ccZ1, ccTZ, ccT0, ccT1, Bool.or_false, ccMckT, ccMckIn, ne_eq, not_true_eq_false, not_false_eq_true, if_pos, if_neg, reduceIte, eq_self, Bool.false_eq_true, Bool.true_eq_false, mix_N, N_add, N_mul, N_sub, N_div, ccMod, N_lt, N_le, N_eq, ccNm, ccMN, ccNm2, ccM2N, ccMM2, ccM2M, ccMlt, ccMle, ccNltM, ccNleM, ccM2lt, ccM2le, ccNlt2, ccNle2, Nat.reduceAdd, Nat.reduceMul, Nat.reduceSub, Nat.reduceLT, Nat.reduceLeDiff, Nat.reduceEqDiff, Nat.reduceDiv, Nat.reduceMod]
theorem kwWnoFm {mw : mMi} {rs : mRs} {B L f : Nat} {x y : Int32} (hB : rs.2.1.1 B = true) (h₁ : L < 1000) : HR191 (f + 1) 194 B (N L) (I (-1)) x y mw rs = rV mw rs := by
  rw [kwHR194]
  simp (disch := omega) only [hB, kwE179m hB h₁, true_and, and_true, false_and, and_false, if_true, if_false, ccIte, ccBi, ccBiX, ccBv, ccBvX, ccZ0, ccZ1, ccTZ, ccT0, ccT1, Bool.or_false, ccMckT, ccMckIn, ne_eq, not_true_eq_false, not_false_eq_true, if_pos, if_neg, reduceIte, eq_self, Bool.false_eq_true, Bool.true_eq_false, mix_N, N_add, N_mul, N_sub, N_div, ccMod, N_lt, N_le, N_eq, ccNm, ccMN, ccNm2, ccM2N, ccMM2, ccM2M, ccMlt, ccMle, ccNltM, ccNleM, ccM2lt, ccM2le, ccNlt2, ccNle2, Nat.reduceAdd, Nat.reduceMul, Nat.reduceSub, Nat.reduceLT, Nat.reduceLeDiff, Nat.reduceEqDiff, Nat.reduceDiv, Nat.reduceMod]
theorem kwWnoP {mw : mMi} {rs : mRs} {B w l n lm dp cl bd L c f : Nat} {C : Nat → Nat → Int32} {x y : Int32} (hB : rs.2.1.1 B = true) (q : kwS mw B w l n lm dp cl bd) (g : kwG mw B C) (q₂ : ccCd n C) (h₁ : L < 1000) (h₂ : c < 1000) (h₃ : ccHP C w l L c = false) : HR191 (f + 1) 191 B (N L) (N c) x y mw rs = rV mw rs := by
  rw [kwHR191]
  simp (disch := omega) only [hB, kwE178 hB q g q₂ h₁ h₂, h₃, true_and, and_true, false_and, and_false, if_true, if_false, ccIte, ccBi, ccBiX, ccBv, ccBvX, ccZ0, ccZ1, ccTZ, ccT0, ccT1, Bool.or_false, ccMckT, ccMckIn, ne_eq, not_true_eq_false, not_false_eq_true, if_pos, if_neg, reduceIte, eq_self, Bool.false_eq_true, Bool.true_eq_false, mix_N, N_add, N_mul, N_sub, N_div, ccMod, N_lt, N_le, N_eq, ccNm, ccMN, ccNm2, ccM2N, ccMM2, ccM2M, ccMlt, ccMle, ccNltM, ccNleM, ccM2lt, ccM2le, ccNlt2, ccNle2, Nat.reduceAdd, Nat.reduceMul, Nat.reduceSub, Nat.reduceLT, Nat.reduceLeDiff, Nat.reduceEqDiff, Nat.reduceDiv, Nat.reduceMod]
theorem kwCP_o {C : Nat → Nat → Int32} {bd t L c cs a b h₁ z₁ h₂ z₂ : Nat} {x : Int32} (j p : Nat) (y₁ : j < 8) (y₂ : j ≠ 7) : kwCP C bd t L c cs a b h₁ z₁ h₂ z₂ x j p = ccU C 2 (12 * L + c) (I (-1)) j p := by
  unfold kwCP
  rw [ccKd_o (by omega) (by omega) (by omega) (by omega) (by omega), ccKd_o (by omega) (by omega) (by omega) (by omega) (by omega)]
  unfold ccU
  by_cases y₃ : j = 2 ∧ p = 12 * L + c
  · rw [if_pos y₃, if_pos y₃]
  · rw [if_neg y₃, if_neg y₃, ccKn_o (by omega) (by omega) (by omega)]
theorem kwCF_o {C : Nat → Nat → Int32} {bd t L c cs a h₁ z₁ : Nat} {x : Int32} (j p : Nat) (y₁ : j < 8) (y₂ : j ≠ 7) : kwCF C bd t L c cs a h₁ z₁ x j p = ccU C 6 (12 * L + c) (I (-1)) j p := by
  unfold kwCF
  rw [ccKd_o (by omega) (by omega) (by omega) (by omega) (by omega)]
  unfold ccU
  by_cases y₃ : j = 6 ∧ p = 12 * L + c
  · rw [if_pos y₃, if_pos y₃]
  · rw [if_neg y₃, if_neg y₃, ccKn_o (by omega) (by omega) (by omega)]
theorem kwPopF_of {d : Nat} (H₁ : kwPopP d) : kwPopF d := by
  intro mc mm mw i B w l n lm dp cl bd β wt bx h t L c cs x q₀ s u h₁ h₂ h₃
  have q₉ := q₀
  obtain ⟨q₁, q₂, q₃, q₄, q₅, q₆, q₇, q₈⟩ := q₀
  have cd : ccCd n (mc 0 i) := ccCd_of q₆.2.1
  cases hb : ccHF (mc 0 i) w l L c
  · refine ⟨mc, mm, mw, fun f rs g₁ => ?_, fun f rs hB g₁ => ?_, kwOut_no q₉ u⟩
    · obtain ⟨f₁, rfl⟩ : ∃ f₁, f = f₁ + 1 := ⟨f - 1, by omega⟩
      exact ccNoF q₁ (by omega) h₂ hb
    · obtain ⟨f₁, rfl⟩ : ∃ f₁, f = f₁ + 1 := ⟨f - 1, by omega⟩
      exact kwWnoF hB s u.1 cd (by omega) h₂ hb
  · obtain ⟨g₁, g₂, g₃⟩ := ccHF_t hb
    have b₁ : w ≤ 12 := q₁.2.2.2.2.1
    have b₂ : l ≤ 8 := q₁.2.2.2.2.2.2.1
    obtain ⟨a, h₄, z, m₁, m₂, k, e₁, e₂, e₃, e₄, e₅, e₆, e₇, e₈, e₉, f₁, f₂, f₃⟩ := kwStepF (x := x) q₁ q₂ q₅ q₆ (by omega) g₁ g₂ g₃ h₃
    obtain ⟨m₃, f₄, f₅, f₆, f₇⟩ := kwWstepF (x := x) s u cd (by omega) g₁ g₂ h₃ e₁ e₂ e₃ e₄ e₅ e₆ e₇
    have G₁ : ccG (mc 0 i) (m₁ 0 i) t (t + 1) := ccG_f (p := 12 * L + c) (fun j p y₁ y₂ => by rw [f₃]; exact kwCF_o j p y₁ y₂) (by omega) g₃
    have I₁ := ccInv_go q₉ e₉ f₁ f₂ G₁
    rw [← f₃] at f₅
    obtain ⟨m₄, m₅, m₆, k₁, k₂, k₃⟩ := H₁ m₁ m₂ m₃ i B w l n lm dp cl bd β wt bx k (t + 1) L c 2 (I (-1)) I₁ (kwS_st f₇ s) f₅ h₁ h₂ (by omega)
    refine ⟨m₄, m₅, m₆, fun f rs y₁ => ?_, fun f rs hB y₁ => ?_, kwOut_tr G₁ e₉ f₁ f₆ f₇ k₃⟩
    · obtain ⟨f₁, rfl⟩ : ∃ f₁, f = f₁ + 1 := ⟨f - 1, by omega⟩
      by_cases y₂ : d = 0
      · omega
      · rw [e₈, k₁ f₁ rs (by omega) (by omega)]
        rfl
    · obtain ⟨f₁, rfl⟩ : ∃ f₁, f = f₁ + 1 := ⟨f - 1, by omega⟩
      by_cases y₂ : d = 0
      · omega
      · exact f₄ f₁ rs m₆ hB (k₂ f₁ rs hB (by omega) (by omega))
theorem kwPopP_of {d : Nat} (H₁ : kwPopF d) : kwPopP (d + 1) := by
  intro mc mm mw i B w l n lm dp cl bd β wt bx h t L c cs x q₀ s u h₁ h₂ h₃
  have q₉ := q₀
  obtain ⟨q₁, q₂, q₃, q₄, q₅, q₆, q₇, q₈⟩ := q₀
  have cd : ccCd n (mc 0 i) := ccCd_of q₆.2.1
  cases hb : ccHP (mc 0 i) w l L c
  · refine ⟨mc, mm, mw, fun f rs g₁ g₂ => ?_, fun f rs hB g₁ g₂ => ?_, kwOut_no q₉ u⟩
    · obtain ⟨f₁, rfl⟩ : ∃ f₁, f = f₁ + 1 := ⟨f - 1, by omega⟩
      exact ccNoP q₁ (by omega) h₂ hb
    · obtain ⟨f₁, rfl⟩ : ∃ f₁, f = f₁ + 1 := ⟨f - 1, by omega⟩
      exact kwWnoP hB s u.1 cd (by omega) h₂ hb
  · obtain ⟨g₁, g₂, g₃⟩ := ccHP_t hb
    have b₁ : w ≤ 12 := q₁.2.2.2.2.1
    have b₂ : l ≤ 8 := q₁.2.2.2.2.2.2.1
    obtain ⟨a, b, h₄, z₁, h₅, z₂, m₁, m₂, k, e₁, e₂, e₃, e₄, e₅, e₆, e₇, e₈, e₉, i₁, i₂, i₃, i₄, i₅, i₆, i₇, i₈, i₉, f₂, f₃⟩ := kwStepP (x := x) q₁ q₂ q₅ q₆ (by omega) g₁ g₂ g₃ h₃
    obtain ⟨m₃, f₄, f₅, f₆, f₇⟩ := kwWstepP (x := x) s u cd (by omega) g₁ g₂ h₃ e₁ e₂ e₃ e₄ e₅ e₆ e₇ e₈ e₉ i₁ i₂ i₃ i₄ i₅ i₆
    have G₁ : ccG (mc 0 i) (m₁ 0 i) t (t + 1) := ccG_p (p := 12 * L + c) (fun j p y₁ y₂ => by rw [f₃]; exact kwCP_o j p y₁ y₂) (by omega) g₃
    have I₁ := ccInv_go q₉ i₈ i₉ f₂ G₁
    rw [← f₃] at f₅
    have s₁ := kwS_st f₇ s
    -- the flat card left above
    have left : ∃ m₄ m₅ m₆, (∀ f rs, 2 * d + 1 ≤ f → FR f 28 i (N (L + 1)) (N c - N 1) (N 2) (I (-1)) m₁ rs = rV m₄ rs) ∧ (∀ f rs, rs.2.1.1 B = true → 2 * d + 1 ≤ f → HR191 f 194 B (N (L + 1)) (N c - N 1) (N 2) (I (-1)) m₃ rs = rV m₆ rs) ∧ kwOut m₁ m₂ m₃ m₄ m₅ m₆ i B w l n bd β wt bx (t + 1) := by
      cases c with
      | zero =>
        have e₀ : N 0 - N 1 = I (-1) := rfl
        refine ⟨m₁, m₂, m₃, fun f rs y₁ => ?_, fun f rs hB y₁ => ?_, kwOut_no I₁ f₅⟩
        · obtain ⟨f₁, rfl⟩ : ∃ f₁, f = f₁ + 1 := ⟨f - 1, by omega⟩
          rw [e₀]
          exact ccNoFm
        · obtain ⟨f₁, rfl⟩ : ∃ f₁, f = f₁ + 1 := ⟨f - 1, by omega⟩
          rw [e₀]
          exact kwWnoFm hB (by omega)
      | succ c₁ =>
        have e₀ : N (c₁ + 1) - N 1 = N c₁ := by
          rw [N_sub (by omega)]
          rfl
        rw [e₀]
        exact H₁ m₁ m₂ m₃ i B w l n lm dp cl bd β wt bx k (t + 1) (L + 1) c₁ 2 (I (-1)) I₁ s₁ f₅ (by omega) (by omega) (by omega)
    obtain ⟨m₄, m₅, m₆, k₁, k₂, k₃⟩ := left
    have k₄ := k₃
    obtain ⟨⟨u₁, v₁, k₅, k₆, k₇⟩, k₈, k₉, j₁, j₂⟩ := k₃
    obtain ⟨m₇, m₈, m₉, j₃, j₄, j₅⟩ := H₁ m₄ m₅ m₆ i B w l n lm dp cl bd β wt bx u₁ v₁ (L + 1) c 2 (I (-1)) k₅ (kwS_st j₂ s₁) k₇ (by omega) h₂ (by omega)
    refine ⟨m₇, m₈, m₉, fun f rs y₁ y₂ => ?_, fun f rs hB y₁ y₂ => ?_, kwOut_tr G₁ i₈ i₉ f₆ f₇ (kwOut_tr k₆ k₈ k₉ j₁ j₂ j₅)⟩
    · obtain ⟨f₁, rfl⟩ : ∃ f₁, f = f₁ + 1 := ⟨f - 1, by omega⟩
      rw [i₇, k₁ f₁ rs (by omega)]
      show bV (FR f₁ 28 i (N (L + 1)) (N c) (N 2) (I (-1)) m₄ rs) _ = _
      rw [j₃ f₁ rs (by omega)]
      rfl
    · obtain ⟨f₁, rfl⟩ : ∃ f₁, f = f₁ + 1 := ⟨f - 1, by omega⟩
      exact f₄ f₁ rs m₆ m₉ hB (k₂ f₁ rs hB (by omega)) (j₄ f₁ rs hB (by omega))
theorem kwPopP0 : kwPopP 0 := by
  intro mc mm mw i B w l n lm dp cl bd β wt bx h t L c cs x q₀ s u h₁ h₂ h₃
  have b₂ : l ≤ 8 := q₀.1.2.2.2.2.2.2.1
  have cd : ccCd n (mc 0 i) := ccCd_of q₀.2.2.2.2.2.1.2.1
  have hb : ccHP (mc 0 i) w l L c = false := by
    unfold ccHP ccPl
    rw [decide_eq_false (by omega : ¬ L < l)]
    rfl
  refine ⟨mc, mm, mw, fun f rs g₁ g₂ => ?_, fun f rs hB g₁ g₂ => ?_, kwOut_no q₀ u⟩
  · obtain ⟨f₁, rfl⟩ : ∃ f₁, f = f₁ + 1 := ⟨f - 1, by omega⟩
    exact ccNoP q₀.1 (by omega) h₂ hb
  · obtain ⟨f₁, rfl⟩ : ∃ f₁, f = f₁ + 1 := ⟨f - 1, by omega⟩
    exact kwWnoP hB s u.1 cd (by omega) h₂ hb
theorem kwPopF0 : kwPopF 0 := by
  intro mc mm mw i B w l n lm dp cl bd β wt bx h t L c cs x q₀ s u h₁ h₂ h₃
  have b₂ : l ≤ 8 := q₀.1.2.2.2.2.2.2.1
  have cd : ccCd n (mc 0 i) := ccCd_of q₀.2.2.2.2.2.1.2.1
  have hb : ccHF (mc 0 i) w l L c = false := by
    unfold ccHF ccPl
    rw [decide_eq_false (by omega : ¬ L < l)]
    rfl
  refine ⟨mc, mm, mw, fun f rs g₁ => ?_, fun f rs hB g₁ => ?_, kwOut_no q₀ u⟩
  · obtain ⟨f₁, rfl⟩ : ∃ f₁, f = f₁ + 1 := ⟨f - 1, by omega⟩
    exact ccNoF q₀.1 (by omega) h₂ hb
  · obtain ⟨f₁, rfl⟩ : ∃ f₁, f = f₁ + 1 := ⟨f - 1, by omega⟩
    exact kwWnoF hB s u.1 cd (by omega) h₂ hb
theorem kwPops : ∀ d, kwPopP d ∧ kwPopF d := by
  intro d
  induction d with
  | zero => exact ⟨kwPopP0, kwPopF0⟩
  | succ d i₁ => exact ⟨kwPopP_of i₁.2, kwPopF_of (kwPopP_of i₁.2)⟩
/-! falls as they are called -/
theorem kwFallP {mc mm mw : mMi} {i B w l n lm dp cl bd h t L c cs : Nat} {β wt : Nat → Int32} {bx : Bool} {x : Int32} (q₀ : ccInv mc mm i w l n bd β wt h t) (s : kwS mw B w l n lm dp cl bd) (u : kwU n t β bx mw B (mc 0 i)) (h₁ : L ≤ 8) (h₂ : c < 1000) (h₃ : cs < 4) : ∃ m₁ m₂ m₃, (∀ rs, F26 i (N L) (N c) (N cs) x mc rs = rV m₁ rs) ∧ (∀ rs, rs.2.1.1 B = true → H191 B (N L) (N c) (N cs) x mw rs = rV m₃ rs) ∧ kwOut mc mm mw m₁ m₂ m₃ i B w l n bd β wt bx t := by
  obtain ⟨d, hd⟩ : ∃ d, L + d = 8 := ⟨8 - L, by omega⟩
  obtain ⟨m₁, m₂, m₃, k₁, k₂, k₃⟩ := (kwPops d).1 mc mm mw i B w l n lm dp cl bd β wt bx h t L c cs x q₀ s u hd h₂ h₃
  exact ⟨m₁, m₂, m₃, fun rs => by unfold F26; exact k₁ 20 rs (by omega) (by omega), fun rs hB => by unfold H191; exact k₂ 24 rs hB (by omega) (by omega), k₃⟩
theorem kwFallF {mc mm mw : mMi} {i B w l n lm dp cl bd h t L c cs : Nat} {β wt : Nat → Int32} {bx : Bool} {x : Int32} (q₀ : ccInv mc mm i w l n bd β wt h t) (s : kwS mw B w l n lm dp cl bd) (u : kwU n t β bx mw B (mc 0 i)) (h₁ : L ≤ 8) (h₂ : c < 1000) (h₃ : cs < 4) : ∃ m₁ m₂ m₃, (∀ rs, F28 i (N L) (N c) (N cs) x mc rs = rV m₁ rs) ∧ (∀ rs, rs.2.1.1 B = true → H194 B (N L) (N c) (N cs) x mw rs = rV m₃ rs) ∧ kwOut mc mm mw m₁ m₂ m₃ i B w l n bd β wt bx t := by
  obtain ⟨d, hd⟩ : ∃ d, L + d = 8 := ⟨8 - L, by omega⟩
  obtain ⟨m₁, m₂, m₃, k₁, k₂, k₃⟩ := (kwPops d).2 mc mm mw i B w l n lm dp cl bd β wt bx h t L c cs x q₀ s u hd h₂ h₃
  exact ⟨m₁, m₂, m₃, fun rs => by unfold F28; exact k₁ 20 rs (by omega), fun rs hB => by unfold H194; exact k₂ 24 rs hB (by omega), k₃⟩
