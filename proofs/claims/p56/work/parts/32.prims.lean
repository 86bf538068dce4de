/-! SMALL CHANGES: noting a fall, dropping a card, of the class and of the reference. -/
/-- what changes of the class's memory: castle i, and the scale -/
def ccFr (i : Nat) (m₁ m₂ : mMi) : Prop := ∀ f a j p, ¬ (f = 0 ∧ a = i) → ¬ (f = 2 ∧ a = 2) → m₂ f a j p = m₁ f a j p
theorem ccFr_rfl {i : Nat} {m₁ : mMi} : ccFr i m₁ m₁ := fun _ _ _ _ _ _ => rfl
theorem ccFr_trans {i : Nat} {m₁ m₂ m₃ : mMi} (h₁ : ccFr i m₁ m₂) (h₂ : ccFr i m₂ m₃) : ccFr i m₁ m₃ := fun f a j p g₁ g₂ => Eq.trans (h₂ f a j p g₁ g₂) (h₁ f a j p g₁ g₂)
theorem ccFr_set {i j p : Nat} {v : Int32} {m₁ m₂ : mMi} (h₁ : ccFr i m₁ m₂) : ccFr i m₁ (mset m₂ 0 i j p v) := fun f a j₁ p₁ g₁ g₂ => by
  rw [ccRd, if_neg (by omega)]
  exact h₁ f a j₁ p₁ g₁ g₂
theorem ccFr_sc {i j p : Nat} {v : Int32} {m₁ m₂ : mMi} (h₁ : ccFr i m₁ m₂) : ccFr i m₁ (mset m₂ 2 2 j p v) := fun f a j₁ p₁ g₁ g₂ => by
  rw [ccRd, if_neg (by omega)]
  exact h₁ f a j₁ p₁ g₁ g₂
theorem ccRu_fr {i r w l n : Nat} {m₁ m₂ : mMi} (h₁ : ccFr i m₁ m₂) (h₂ : ccRu m₁ r w l n) : ccRu m₂ r w l n := by
  obtain ⟨g₁, g₂, g₃, b₁⟩ := h₂
  exact ⟨by rw [h₁ 1 r 1 0 (by omega) (by omega)]; exact g₁, by rw [h₁ 1 r 1 1 (by omega) (by omega)]; exact g₂, by rw [h₁ 1 r 0 4 (by omega) (by omega)]; exact g₃, b₁⟩
/-- what changes of the reference's memory: its row, its loads, what waits -/
def ccFq (m₁ m₂ : mMi) : Prop := ∀ f a j p, ¬ (f = 4 ∧ a = 0 ∧ (j = 3 ∨ j = 12 ∨ j = 13 ∨ j = 14)) → ¬ (f = 4 ∧ a = 0 ∧ j = 0 ∧ p = 34) → m₂ f a j p = m₁ f a j p
theorem ccFq_rfl {m₁ : mMi} : ccFq m₁ m₁ := fun _ _ _ _ _ _ => rfl
theorem ccFq_trans {m₁ m₂ m₃ : mMi} (h₁ : ccFq m₁ m₂) (h₂ : ccFq m₂ m₃) : ccFq m₁ m₃ := fun f a j p g₁ g₂ => Eq.trans (h₂ f a j p g₁ g₂) (h₁ f a j p g₁ g₂)
theorem ccFq_set {j p : Nat} {v : Int32} {m₁ m₂ : mMi} (h₁ : ccFq m₁ m₂) (h₂ : j = 3 ∨ j = 12 ∨ j = 13 ∨ j = 14) : ccFq m₁ (mset m₂ 4 0 j p v) := fun f a j₁ p₁ g₁ g₂ => by
  rw [ccRd, if_neg (by omega)]
  exact h₁ f a j₁ p₁ g₁ g₂
theorem ccFq_w {v : Int32} {m₁ m₂ : mMi} (h₁ : ccFq m₁ m₂) : ccFq m₁ (mset m₂ 4 0 0 34 v) := fun f a j₁ p₁ g₁ g₂ => by
  rw [ccRd, if_neg (by omega)]
  exact h₁ f a j₁ p₁ g₁ g₂
theorem ccMo_fq {w l n : Nat} {m₁ m₂ : mMi} (h₁ : ccFq m₁ m₂) (h₂ : ccMo m₁ w l n) : ccMo m₂ w l n := by
  obtain ⟨g₁, g₂, g₃, b₁⟩ := h₂
  exact ⟨by rw [h₁ 4 0 0 2 (by omega) (by omega)]; exact g₁, by rw [h₁ 4 0 0 3 (by omega) (by omega)]; exact g₂, by rw [h₁ 4 0 0 8 (by omega) (by omega)]; exact g₃, b₁⟩
/-! a fall is noted -/
def ccKn (C : Nat → Nat → Int32) (t L c kd cs : Nat) : Nat → Nat → Int32 := ccU (ccU (ccU (ccU (ccU (ccU (ccU C 8 (t % 30 * 5) (C 0 5)) 8 (t % 30 * 5 + 1) (N L)) 8 (t % 30 * 5 + 2) (N c)) 8 (t % 30 * 5 + 3) (N kd)) 8 (t % 30 * 5 + 4) (N cs)) 9 cs (C 9 cs + N 1)) 7 2 (N (t + 1))
def ccNote (mi : mMi) (i t : Nat) (x : Int32) (L c kd cs : Nat) : mMi := mset (mset (mset (mset (mset (mset (mset mi 0 i 8 (t % 30 * 5) x) 0 i 8 (t % 30 * 5 + 1) (N L)) 0 i 8 (t % 30 * 5 + 2) (N c)) 0 i 8 (t % 30 * 5 + 3) (N kd)) 0 i 8 (t % 30 * 5 + 4) (N cs)) 0 i 9 cs (mi 0 i 9 cs + N 1)) 0 i 7 2 (N (t + 1))
theorem ccE45 {mi : mMi} {rs : mRs} {i t L c kd cs : Nat} {x : Int32} (h₁ : mi 0 i 7 2 = N t) (h₂ : t < 1000000000) (h₃ : cs < 4) : F45 i x (N L) (N c) (N kd) (N cs) mi rs = rV (ccNote mi i t x L c kd cs) rs := by
  have b₁ : t % 30 < 30 := by omega
  unfold F45 ccNote
  rw [h₁]
  simp (disch := omega) only [true_and, and_true, false_and, and_false, if_true, if_false, ccIte, ccBi, ccBiX, ccBv, ccBvX, ccZ0, ccZ1, ccTZ, ccT0, ccT1, Bool.or_false, ccMckT, ccMckIn, ne_eq, not_true_eq_false, not_false_eq_true, if_pos, if_neg, reduceIte, eq_self, Bool.false_eq_true, Bool.true_eq_false, mix_N, N_add, N_mul, N_sub, N_div, ccMod, N_lt, N_le, N_eq, ccNm, ccMN, ccNm2, ccM2N, ccMM2, ccM2M, ccMlt, ccMle, ccNltM, ccNleM, ccM2lt, ccM2le, ccNlt2, ccNle2, Nat.reduceAdd, Nat.reduceMul, Nat.reduceSub, Nat.reduceLT, Nat.reduceLeDiff, Nat.reduceEqDiff, Nat.reduceDiv, Nat.reduceMod]
theorem ccNote_C {mi : mMi} {i t L c kd cs : Nat} {x : Int32} (h₁ : x = mi 0 i 0 5) : ccNote mi i t x L c kd cs 0 i = ccKn (mi 0 i) t L c kd cs := by
  subst h₁
  unfold ccNote ccKn
  simp only [ccU_set]
theorem ccNote_fr {mi : mMi} {i t L c kd cs : Nat} {x : Int32} : ccFr i mi (ccNote mi i t x L c kd cs) := ccFr_set (ccFr_set (ccFr_set (ccFr_set (ccFr_set (ccFr_set (ccFr_set ccFr_rfl))))))
def ccRn (s : Nat → Int32) (t p kd cs : Nat) : Nat → Int32 := ccV (ccV (ccV (ccV (ccV (ccV (ccV s (768 + 5 * (t % 30)) (s 0)) (768 + 5 * (t % 30) + 1) (N (p / 12))) (768 + 5 * (t % 30) + 2) (N (p % 12))) (768 + 5 * (t % 30) + 3) (N kd)) (768 + 5 * (t % 30) + 4) (N cs)) 1 (N (t + 1))) (2 + cs) (s (2 + cs) + N 1)
theorem ccE224 {mi : mMi} {rs : mRs} {b : Nat} (h₁ : b < 2) : F224 (N b) mi rs = rI (N b) mi rs := by
  unfold F224
  by_cases h₂ : b = 0
  · subst h₂
    simp (disch := omega) only [true_and, and_true, false_and, and_false, if_true, if_false, ccIte, ccBi, ccBiX, ccBv, ccBvX, ccZ0, ccZ1, ccTZ, ccT0, ccT1, Bool.or_false, ccMckT, ccMckIn, ne_eq, not_true_eq_false, not_false_eq_true, if_pos, if_neg, reduceIte, eq_self, Bool.false_eq_true, Bool.true_eq_false, mix_N, N_add, N_mul, N_sub, N_div, ccMod, N_lt, N_le, N_eq, ccNm, ccMN, ccNm2, ccM2N, ccMM2, ccM2M, ccMlt, ccMle, ccNltM, ccNleM, ccM2lt, ccM2le, ccNlt2, ccNle2, Nat.reduceAdd, Nat.reduceMul, Nat.reduceSub, Nat.reduceLT, Nat.reduceLeDiff, Nat.reduceEqDiff, Nat.reduceDiv, Nat.reduceMod]
  · have h₃ : b = 1 := by omega
    subst h₃
    simp (disch := omega) only [true_and, and_true, false_and, and_false, if_true, if_false, ccIte, ccBi, ccBiX, ccBv, ccBvX, ccZ0, ccZ1, ccTZ, ccT0, ccT1, Bool.or_false, ccMckT, ccMckIn, ne_eq, not_true_eq_false, not_false_eq_true, if_pos, if_neg, reduceIte, eq_self, Bool.false_eq_true, Bool.true_eq_false, mix_N, N_add, N_mul, N_sub, N_div, ccMod, N_lt, N_le, N_eq, ccNm, ccMN, ccNm2, ccM2N, ccMM2, ccM2M, ccMlt, ccMle, ccNltM, ccNleM, ccM2lt, ccM2le, ccNlt2, ccNle2, Nat.reduceAdd, Nat.reduceMul, Nat.reduceSub, Nat.reduceLT, Nat.reduceLeDiff, Nat.reduceEqDiff, Nat.reduceDiv, Nat.reduceMod]
def ccNoteM (mi : mMi) (t p kd cs : Nat) : mMi := mset (mset (mset (mset (mset (mset (mset mi 4 0 3 (768 + 5 * (t % 30)) (mi 4 0 3 0)) 4 0 3 (768 + 5 * (t % 30) + 1) (N (p / 12))) 4 0 3 (768 + 5 * (t % 30) + 2) (N (p % 12))) 4 0 3 (768 + 5 * (t % 30) + 3) (N kd)) 4 0 3 (768 + 5 * (t % 30) + 4) (N cs)) 4 0 3 1 (N (t + 1))) 4 0 3 (2 + cs) (mi 4 0 3 (2 + cs) + N 1)
theorem ccE223 {mi : mMi} {rs : mRs} {t p kd cs : Nat} (h₁ : mi 4 0 3 1 = N t) (h₂ : t < 1000000000) (h₃ : cs < 4) (h₄ : kd < 2) (h₅ : p < 96) : F223 (N p) (N kd) (N cs) mi rs = rV (ccNoteM mi t p kd cs) rs := by
  have b₁ : t % 30 < 30 := by omega
  unfold F223 ccNoteM
  rw [h₁]
  simp (disch := omega) only [true_and, and_true, false_and, and_false, if_true, if_false, ccIte, ccBi, ccBiX, ccBv, ccBvX, ccZ0, ccZ1, ccTZ, ccT0, ccT1, Bool.or_false, ccMckT, ccMckIn, ne_eq, not_true_eq_false, not_false_eq_true, if_pos, if_neg, reduceIte, eq_self, Bool.false_eq_true, Bool.true_eq_false, mix_N, N_add, N_mul, N_sub, N_div, ccMod, N_lt, N_le, N_eq, ccNm, ccMN, ccNm2, ccM2N, ccMM2, ccM2M, ccMlt, ccMle, ccNltM, ccNleM, ccM2lt, ccM2le, ccNlt2, ccNle2, Nat.reduceAdd, Nat.reduceMul, Nat.reduceSub, Nat.reduceLT, Nat.reduceLeDiff, Nat.reduceEqDiff, Nat.reduceDiv, Nat.reduceMod, ccE224 h₄, ccRd, h₁]
theorem ccNoteM_s {mi : mMi} {t p kd cs : Nat} : ccNoteM mi t p kd cs 4 0 3 = ccRn (mi 4 0 3) t p kd cs := by
  unfold ccNoteM ccRn
  simp only [ccV_set]
theorem ccNoteM_fq {mi : mMi} {t p kd cs : Nat} : ccFq mi (ccNoteM mi t p kd cs) := ccFq_set (ccFq_set (ccFq_set (ccFq_set (ccFq_set (ccFq_set (ccFq_set ccFq_rfl (by omega)) (by omega)) (by omega)) (by omega)) (by omega)) (by omega)) (by omega)
theorem ccNoteM_w {mi : mMi} {t p kd cs j : Nat} (h₁ : j ≠ 3) : ccNoteM mi t p kd cs 4 0 j = mi 4 0 j := by
  funext q₁
  unfold ccNoteM
  simp (disch := omega) only [ccRd, if_neg, Nat.reduceEqDiff, eq_self, true_and, and_true, false_and, and_false, if_true, if_false]
theorem ccRA_n {C : Nat → Nat → Int32} {s : Nat → Int32} {t L c kd cs p : Nat} (h₁ : ccRA C s) (h₂ : cs < 4) : ccRA (ccKn C t L c kd cs) (ccRn s t p kd cs) := fun p₁ g₁ => by
  have g₂ := h₁ p₁ g₁
  simp (disch := omega) only [ccKn, ccU, ccRn, ccV, if_neg, Nat.reduceEqDiff, eq_self, true_and, and_true, false_and, and_false, if_true, if_false]
  exact g₂
theorem ccRB_n {X : Nat → Bool} {n : Nat} {C : Nat → Nat → Int32} {s : Nat → Int32} {t L c kd cs p : Nat} (h₁ : ccRB X n C s) (h₃ : n ≤ 40) (h₂ : cs < 4) : ccRB X n (ccKn C t L c kd cs) (ccRn s t p kd cs) := by
  refine ⟨fun p₁ g₁ g₂ => ?_, fun p₁ g₁ g₂ => ?_⟩
  · have g₃ := h₁.1 p₁ g₁
    simp (disch := omega) only [ccKn, ccU, ccRn, ccV, if_neg, Nat.reduceEqDiff, eq_self, true_and, and_true, false_and, and_false, if_true, if_false] at g₂ ⊢
    obtain ⟨a, b, e₁, e₂, e₃⟩ := g₃ g₂
    refine ⟨a, b, e₁, e₂, ?_⟩
    simp (disch := omega) only [if_neg]
    exact e₃
  · have g₃ := h₁.2 p₁ g₁
    simp (disch := omega) only [ccKn, ccU, ccRn, ccV, if_neg, Nat.reduceEqDiff, eq_self, true_and, and_true, false_and, and_false, if_true, if_false] at g₂ ⊢
    obtain ⟨a, e₁, e₃⟩ := g₃ g₂
    refine ⟨a, e₁, ?_⟩
    simp (disch := omega) only [if_neg]
    exact e₃
theorem ccRC_n {X : Nat → Bool} {n : Nat} {b : Nat → Int32} {C : Nat → Nat → Int32} {s : Nat → Int32} {t L c kd cs p : Nat} (h₁ : ccRC X n b C s) (h₃ : n ≤ 40) (h₂ : cs < 4) : ccRC X n b (ccKn C t L c kd cs) (ccRn s t p kd cs) := fun k g₁ => by
  have g₃ := h₁ k g₁
  simp (disch := omega) only [ccKn, ccU, ccRn, ccV, if_neg, Nat.reduceEqDiff, eq_self, true_and, and_true, false_and, and_false, if_true, if_false]
  exact g₃
theorem ccRD_n {h n : Nat} {C : Nat → Nat → Int32} {s : Nat → Int32} {t L c kd cs p : Nat} (h₁ : ccRD h n C s) (h₃ : h ≤ 40) (h₂ : cs < 4) : ccRD h n (ccKn C t L c kd cs) (ccRn s t p kd cs) := by
  obtain ⟨e₁, e₂, e₃, e₄, e₅⟩ := h₁
  refine ⟨?_, ?_, ?_, fun u g₁ => ?_, fun k g₁ => ?_⟩
  · simp (disch := omega) only [ccKn, ccU, if_neg, Nat.reduceEqDiff, eq_self, true_and, and_true, false_and, and_false, if_true, if_false]
    exact e₁
  · simp (disch := omega) only [ccKn, ccU, if_neg, Nat.reduceEqDiff, eq_self, true_and, and_true, false_and, and_false, if_true, if_false]
    exact e₂
  · simp (disch := omega) only [ccRn, ccV, if_neg, Nat.reduceEqDiff, eq_self, true_and, and_true, false_and, and_false, if_true, if_false]
    exact e₃
  · simp (disch := omega) only [ccKn, ccU, ccRn, ccV, if_neg, Nat.reduceEqDiff, eq_self, true_and, and_true, false_and, and_false, if_true, if_false]
    exact e₄ u g₁
  · simp (disch := omega) only [ccKn, ccU, if_neg, Nat.reduceEqDiff, eq_self, true_and, and_true, false_and, and_false, if_true, if_false]
    exact e₅ k g₁
theorem ccRF_n {X : Nat → Bool} {n : Nat} {wt : Nat → Int32} {C : Nat → Nat → Int32} {s : Nat → Int32} {t L c kd cs p : Nat} (h₁ : ccRF X n wt C s) (h₃ : n ≤ 40) (h₂ : cs < 4) : ccRF X n wt (ccKn C t L c kd cs) (ccRn s t p kd cs) := by
  unfold ccRF at h₁ ⊢
  have e₁ : ccSum (ccW1 wt (ccKn C t L c kd cs)) 96 = ccSum (ccW1 wt C) 96 := ccSum_congr 96 fun k g₁ => by
    simp (disch := omega) only [ccW1, ccKn, ccU, if_neg, Nat.reduceEqDiff, eq_self, true_and, and_true, false_and, and_false, if_true, if_false]
  have e₂ : ccSum (ccW2 wt X (ccRn s t p kd cs)) n = ccSum (ccW2 wt X s) n := ccSum_congr n fun k g₁ => by
    simp (disch := omega) only [ccW2, ccRn, ccV, if_neg, Nat.reduceEqDiff, eq_self, true_and, and_true, false_and, and_false, if_true, if_false]
  rw [e₁, e₂]
  exact h₁
theorem ccRE_n {C : Nat → Nat → Int32} {s : Nat → Int32} {t L c kd cs : Nat} (h₁ : ccRE t C s) (h₂ : cs < 4) (h₃ : kd < 2) (h₄ : L < 8) (h₅ : c < 12) (h₆ : t < 1000000000) : ccRE (t + 1) (ccKn C t L c kd cs) (ccRn s t (12 * L + c) kd cs) := by
  obtain ⟨e₁, e₂, e₃, e₄, e₅, e₆, e₇⟩ := h₁
  have b₁ : t % 30 < 30 := by omega
  have b₂ : (12 * L + c) / 12 = L := by omega
  have b₃ : (12 * L + c) % 12 = c := by omega
  refine ⟨?_, ?_, fun u g₁ g₂ => ⟨fun e g₃ => ?_, ?_⟩, fun u g₁ => ?_, ?_, ?_, ?_⟩
  · simp (disch := omega) only [ccKn, ccU, if_pos, Nat.reduceEqDiff, eq_self, true_and, and_true, false_and, and_false, if_true, if_false]
  · simp (disch := omega) only [ccRn, ccV, if_pos, if_neg, Nat.reduceEqDiff, eq_self, true_and, and_true, false_and, and_false, if_true, if_false]
  · by_cases h₇ : u = t % 30
    · subst h₇
      have h₈ : e = 0 ∨ e = 1 ∨ e = 2 ∨ e = 3 ∨ e = 4 := by omega
      rcases h₈ with h₈ | h₈ | h₈ | h₈ | h₈ <;> subst h₈ <;> simp (disch := omega) only [ccKn, ccU, ccRn, ccV, if_neg, if_pos, b₂, b₃, Nat.reduceEqDiff, eq_self, true_and, and_true, false_and, and_false, if_true, if_false] <;> exact e₅
    · simp (disch := omega) only [ccKn, ccU, ccRn, ccV, if_neg, Nat.reduceEqDiff, eq_self, true_and, and_true, false_and, and_false, if_true, if_false]
      exact (e₃ u g₁ (by omega)).1 e g₃
  · by_cases h₇ : u = t % 30
    · subst h₇
      refine ⟨L, c, kd, cs, ?_, ?_, ?_, ?_, h₄, h₅, h₃, h₂⟩ <;> simp (disch := omega) only [ccKn, ccU, if_neg, if_pos, Nat.reduceEqDiff, eq_self, true_and, and_true, false_and, and_false, if_true, if_false]
    · obtain ⟨x, y, z, g, g₄⟩ := (e₃ u g₁ (by omega)).2
      refine ⟨x, y, z, g, ?_⟩
      simp (disch := omega) only [ccKn, ccU, if_neg, Nat.reduceEqDiff, eq_self, true_and, and_true, false_and, and_false, if_true, if_false]
      exact g₄
  · by_cases h₇ : u = cs
    · subst h₇
      simp (disch := omega) only [ccKn, ccU, ccRn, ccV, if_neg, if_pos, e₄ u g₁, Nat.reduceEqDiff, eq_self, true_and, and_true, false_and, and_false, if_true, if_false]
    · simp (disch := omega) only [ccKn, ccU, ccRn, ccV, if_neg, Nat.reduceEqDiff, eq_self, true_and, and_true, false_and, and_false, if_true, if_false]
      exact e₄ u g₁
  · simp (disch := omega) only [ccKn, ccU, ccRn, ccV, if_neg, Nat.reduceEqDiff, eq_self, true_and, and_true, false_and, and_false, if_true, if_false]
    exact e₅
  · simp (disch := omega) only [ccKn, ccU, ccRn, ccV, if_neg, Nat.reduceEqDiff, eq_self, true_and, and_true, false_and, and_false, if_true, if_false]
    exact e₆
  · simp (disch := omega) only [ccKn, ccU, if_neg, Nat.reduceEqDiff, eq_self, true_and, and_true, false_and, and_false, if_true, if_false]
    exact e₇
