/-! CALLS: inHand, calmIn, bestAngle. -/
def ccNth (H : Nat → Bool) : Nat → Nat → Nat → Int32
  | 0, _, _ => I (-1)
  | d + 1, p, k => if H p = true then (if k = 0 then N p else ccNth H d (p + 1) (k - 1)) else ccNth H d (p + 1) k
def ccCf (H : Nat → Bool) : Nat → Nat → Nat
  | 0, _ => 0
  | d + 1, p => (if H p = true then 1 else 0) + ccCf H d (p + 1)
theorem ccCf_cnt {H : Nat → Bool} : ∀ d p, ccCnt H p + ccCf H d p = ccCnt H (p + d) := by
  intro d
  induction d with
  | zero => intro p; rfl
  | succ d i₁ =>
    intro p
    have e₁ := i₁ (p + 1)
    have e₂ : p + (d + 1) = p + 1 + d := by omega
    rw [ccCnt_s] at e₁
    rw [e₂]
    show ccCnt H p + ((if H p = true then 1 else 0) + ccCf H d (p + 1)) = _
    omega
theorem ccCf_le {H : Nat → Bool} : ∀ d p, ccCf H d p ≤ d := by
  intro d
  induction d with
  | zero => intro p; exact Nat.le_refl 0
  | succ d i₁ =>
    intro p
    have e₁ := i₁ (p + 1)
    show (if H p = true then 1 else 0) + ccCf H d (p + 1) ≤ d + 1
    split <;> omega
theorem ccL7 {m : mMi} {i w l n a : Nat} {C : Nat → Nat → Int32} (h₀ : m 0 i = C) (q : ccRu m (RO i) w l n) (h₁ : a < 100) : ∀ d p j f rs, p + d = n → j ≤ a → F7_4 i (f + d + 1) (N a) (N j) (N p) m rs = rI (ccNth (ccHeld C) d p (a - j)) m rs := by
  have b₃ : n ≤ 40 := q.2.2.2.2.2.2.2
  intro d
  induction d with
  | zero =>
    intro p j f rs g₁ _
    have e₀ : N n ≤ N p := by rw [N_le (by omega) (by omega)]; omega
    rw [ccL7_4, q.2.2.1, ccIte, if_pos e₀]
    rfl
  | succ d i₁ =>
    intro p j f rs g₁ g₂
    have e₁ : f + (d + 1) + 1 = f + d + 1 + 1 := by omega
    have e₀ : ¬ N n ≤ N p := by rw [N_le (by omega) (by omega)]; omega
    have e₂ : decide (m 0 i 13 p = I (-1)) = ccHeld C p := by rw [h₀]; rfl
    rw [e₁, ccL7_4, q.2.2.1, ccIte, if_neg e₀, ccE2 (by omega), ccBi, e₂, N_add, N_add]
    show _ = rI (if ccHeld C p = true then (if a - j = 0 then N p else ccNth (ccHeld C) d (p + 1) (a - j - 1)) else ccNth (ccHeld C) d (p + 1) (a - j)) m rs
    cases g₃ : ccHeld C p
    · rw [ccT_f, ccIf0e]
      exact i₁ (p + 1) j f rs (by omega) g₂
    · rw [ccT_t, ccIf1e, if_pos rfl, ccIte]
      by_cases g₄ : a = j
      · have e₃ : ¬ N j ≠ N a := fun y₁ => y₁ (by rw [g₄])
        have e₄ : a - j = 0 := by omega
        rw [if_neg e₃, if_pos e₄]
      · have e₃ : N j ≠ N a := by rw [ne_eq, N_eq (by omega) (by omega)]; omega
        have e₄ : ¬ a - j = 0 := by omega
        have e₅ : a - j - 1 = a - (j + 1) := by omega
        rw [if_pos e₃, if_neg e₄, e₅]
        exact i₁ (p + 1) (j + 1) f rs (by omega) (by omega)
theorem ccL246 {m : mMi} {n : Nat} {x : Int32} {β : Nat → Int32} {C : Nat → Nat → Int32} (b₃ : n ≤ 40) (q₁ : ccRC ccX0 n β C (m 4 0 3)) : ∀ d p k f rs, p + d = n → k < ccCf (ccHeld C) d p → F246_40 (f + 2 * d + 1) 47 x (N p) (N k) m rs = rI (ccNth (ccHeld C) d p k) m rs := by
  intro d
  induction d with
  | zero =>
    intro p k f rs g₁ g₂
    exact absurd g₂ (by unfold ccCf; omega)
  | succ d i₁ =>
    intro p k f rs g₁ g₂
    have e₁ : f + 2 * (d + 1) + 1 = f + 2 * d + 1 + 1 + 1 := by omega
    have g₀ : k < (if ccHeld C p = true then 1 else 0) + ccCf (ccHeld C) d (p + 1) := g₂
    have g₉ := ccCf_le (H := ccHeld C) (d + 1) p
    rw [e₁, ccL246_40_47, ccE204b (by omega), ccBi]
    show _ = rI (if ccHeld C p = true then (if k = 0 then N p else ccNth (ccHeld C) d (p + 1) (k - 1)) else ccNth (ccHeld C) d (p + 1) k) m rs
    rcases ccHeldm q₁ (by omega : p < n) with ⟨g₃, g₄⟩ | ⟨g₃, g₄⟩
    · rw [g₃, if_pos rfl] at g₀
      rw [g₄, ccIf0e, g₃, if_pos rfl, ccL246_40_40, ccIte]
      by_cases g₅ : k = 0
      · subst g₅
        have e₂ : N 0 + I (-1) < N 0 := by
          rw [← I_N, I_add, I_lt (by omega) (by omega) (by omega) (by omega)]
          omega
        rw [if_pos e₂, if_pos rfl]
      · have e₂ : N k + I (-1) = N (k - 1) := N_dec (by omega)
        have e₃ : ¬ N (k - 1) < N 0 := by rw [N_lt (by omega) (by omega)]; omega
        rw [e₂, if_neg e₃, if_neg g₅, N_add]
        exact i₁ (p + 1) (k - 1) f rs (by omega) (by omega)
    · have e₂ : f + 2 * d + 1 + 1 = f + 1 + 2 * d + 1 := by omega
      rw [g₃, if_neg (by decide)] at g₀
      rw [ccIte, if_neg g₄, g₃, if_neg (by decide), N_add, e₂]
      exact i₁ (p + 1) k (f + 1) rs (by omega) (by omega)
theorem ccOk_125 {B : Nat} {m : mMi} {x : Int32} (h₁ : ccTop B m) : ccOk B (F125 x) (F246 x) [(1, 1), (2, 2)] m := by
  refine ccOk_textn (b := N 0) h₁ (List.mem_cons_self) (fun m rs => rfl) (fun m rs => rfl) (fun w l n bd lm dp cl β W h₂ => ?_)
  obtain ⟨h, t, q₁, _⟩ := ccLd_R h₂
  have qr : ccRu m 0 w l n := h₂.2.2.1.1
  have b₃ : n ≤ 40 := qr.2.2.2.2.2.2.2
  have qm : ccMo (ccM0 m) w l n := ccM0_mo h₂.2.2.1.2.1
  have s₀ : ccM0 m 4 0 3 = m 4 0 3 := by
    funext q
    rw [ccM0_r (by omega)]
  have rc : ccRC ccX0 n β (m 0 0) (ccM0 m 4 0 3) := by rw [s₀]; exact q₁.2.2.1
  have c₁ := ccCnt_le (f := ccHeld (m 0 0)) n
  rcases Classical.em (∃ a, x = N a ∧ a < ccCnt (ccHeld (m 0 0)) n) with ⟨a, e₁, e₂⟩ | g
  · subst e₁
    obtain ⟨g, hg⟩ := ccFU (k := n) (by omega)
    obtain ⟨g₂, hg₂⟩ := ccFU (k := 2 * n + 1) (by omega)
    have cf := ccCf_cnt (H := ccHeld (m 0 0)) n 0
    rw [Nat.zero_add] at cf
    refine ccOk_r0 (v := ccNth (ccHeld (m 0 0)) n 0 a) h₁ (fun rs => ?_) (fun rs => ?_)
    · have f₁ : F7 0 (N a) m rs = rI (ccNth (ccHeld (m 0 0)) n 0 a) m rs := by
        unfold F7
        rw [hg]
        exact ccL7 rfl qr (by omega) n 0 0 g rs (by omega) (by omega)
      show bI (F6 0 m rs) _ = _
      rw [ccE6 (i := 0) qr, ccBi, ccE106 (by omega) (by omega), if_pos e₂, ccBv, f₁, ccBi]
    · have e₃ : ¬ N a < N 0 := by rw [N_lt (by omega) (by omega)]; omega
      have e₄ : I (-1) + N 1 = N 0 := rfl
      have e₅ : g₂ + (2 * n + 1) + 1 = g₂ + 2 * n + 1 + 1 := by omega
      show bI (F232 (ccM0 m) rs) _ = _
      rw [ccE232 qm rc, ccBi, ccE177i e₂ (by omega), ccBi, ccIf1, ccE178f ccT0s, ccBi, ccIf0e, hg₂, e₅, ccL246_40_40, ccIte, if_neg e₃, e₄]
      have z₀ : ccCnt (ccHeld (m 0 0)) 0 = 0 := rfl
      exact ccL246 b₃ rc n 0 a g₂ rs (by omega) (by omega)
  · refine ccOk_no (E := 2) (c := 2) h₁ (List.mem_cons_of_mem _ List.mem_cons_self) (fun rs => ?_) (fun rs => ?_)
    · show bI (F6 0 m rs) _ = _
      rw [ccE6 (i := 0) qr, ccBi, ccE106z g (by omega), ccBvX]
    · show bI (F232 (ccM0 m) rs) _ = _
      rw [ccE232 qm rc, ccBi, ccE177z (fun ⟨a, y₁, _, y₃⟩ => g ⟨a, y₁, y₃⟩) (by omega) (by omega), ccBi, ccIf0, ccE178t ccT0s (by omega) (by omega), ccBi, ccIf1e]
/-! when all is calm -/
def ccMxw (C : Nat → Nat → Int32) : Nat → Nat → Int32 → Int32
  | 0, _, x => x
  | d + 1, p, x => ccMxw C d (p + 1) (if ccP C p = true then (if x < C 5 p then C 5 p else x) else x)
def ccMxe (cl : Nat) (y : Int32) : Int32 := if y = N 0 then N 0 else if cl = 0 then I (-1) else (y + N cl - N 1) / N cl
theorem ccMx_b {C : Nat → Nat → Int32} (q : ccNn C) : ∀ d p x y, p + d ≤ 96 → ccBs (ccP C) x → y = (if x = I (-1) then N 0 else C 5 (mix x)) → ccMxw C d p y = (if ccBst (ccP C) (ccLtW C) d p x = I (-1) then N 0 else C 5 (mix (ccBst (ccP C) (ccLtW C) d p x))) := by
  intro d
  induction d with
  | zero => intro p x y _ _ g₃; exact g₃
  | succ d i₁ =>
    intro p x y g₁ g₂ g₃
    refine i₁ (p + 1) _ _ (by omega) (ccBs_st (by omega) g₂) ?_
    cases g₄ : ccP C p
    · simp only [Bool.false_eq_true, if_false]
      exact g₃
    · obtain ⟨_, z, z₁, z₂⟩ := q p (by omega) (ccP_t g₄)
      have np : ¬ N p = I (-1) := fun y₁ => (ccNm (by omega)).mp y₁
      simp only [if_true]
      rcases g₂ with g₅ | ⟨u, g₅, g₆, g₇⟩
      · rw [if_pos g₅] at g₃
        rw [if_pos g₅, if_neg np, mix_N (by omega), g₃, z₁]
        by_cases y₁ : N 0 < N z
        · rw [if_pos y₁]
        · rw [if_neg y₁]
          rw [N_lt (by omega) (by omega)] at y₁
          congr 1
          omega
      · have nu : ¬ N u = I (-1) := fun y₁ => (ccNm (by omega)).mp y₁
        rw [g₆, if_neg nu, mix_N (by omega)] at g₃
        rw [g₆, if_neg nu, mix_N (by omega), g₃]
        unfold ccLtW
        by_cases y₁ : C 5 u < C 5 p
        · rw [if_pos y₁, if_pos (decide_eq_true y₁), if_neg np, mix_N (by omega)]
        · have y₂ : ¬ decide (C 5 u < C 5 p) = true := fun h => y₁ (of_decide_eq_true h)
          rw [if_neg y₁, if_neg y₂, if_neg nu, mix_N (by omega)]
theorem ccL273 {m : mMi} {cl : Nat} {C : Nat → Nat → Int32} (q₁ : ccRA C (m 4 0 3)) (h₁ : m 4 0 0 6 = N cl) (h₂ : cl ≤ 20) : ∀ d p f x rs, p + d = 96 → F273_13 (f + d + 1) x (N p) m rs = rI (ccMxe cl (ccMxw C d p x)) m rs := by
  intro d
  induction d with
  | zero =>
    intro p f x rs g₁
    have e₁ : p = 96 := by omega
    subst e₁
    rw [ccL273_13, h₁]
    show _ = rI (ccMxe cl x) m rs
    unfold ccMxe
    have z₀ : (0 : Int32) = N 0 := rfl
    by_cases g₂ : x = N 0
    · subst g₂
      simp (disch := omega) only [true_and, and_true, false_and, and_false, if_true, if_false, ccIte, ccBi, ccBiX, ccBv, ccBvX, ccZ0, ccZ1, ccTZ, ccT0, ccT1, Bool.or_false, ccMckT, ccMckIn, ne_eq, not_true_eq_false, not_false_eq_true, if_pos, if_neg, reduceIte, eq_self, Bool.false_eq_true, Bool.true_eq_false, mix_N, N_add, N_mul, N_sub, N_div, ccMod, N_lt, N_le, N_eq, ccNm, ccMN, ccNm2, ccM2N, ccMM2, ccM2M, ccMlt, ccMle, ccNltM, ccNleM, ccM2lt, ccM2le, ccNlt2, ccNle2, Nat.reduceAdd, Nat.reduceMul, Nat.reduceSub, Nat.reduceLT, Nat.reduceLeDiff, Nat.reduceEqDiff, Nat.reduceDiv, Nat.reduceMod]
    · by_cases g₃ : cl = 0
      · subst g₃
        simp (disch := omega) only [g₂, true_and, and_true, false_and, and_false, if_true, if_false, ccIte, ccBi, ccBiX, ccBv, ccBvX, ccZ0, ccZ1, ccTZ, ccT0, ccT1, Bool.or_false, ccMckT, ccMckIn, ne_eq, not_true_eq_false, not_false_eq_true, if_pos, if_neg, reduceIte, eq_self, Bool.false_eq_true, Bool.true_eq_false, mix_N, N_add, N_mul, N_sub, N_div, ccMod, N_lt, N_le, N_eq, ccNm, ccMN, ccNm2, ccM2N, ccMM2, ccM2M, ccMlt, ccMle, ccNltM, ccNleM, ccM2lt, ccM2le, ccNlt2, ccNle2, Nat.reduceAdd, Nat.reduceMul, Nat.reduceSub, Nat.reduceLT, Nat.reduceLeDiff, Nat.reduceEqDiff, Nat.reduceDiv, Nat.reduceMod]
      · have g₄ : ¬ N cl = N 0 := by rw [N_eq (by omega) (by omega)]; exact g₃
        simp (disch := omega) only [z₀, g₂, g₃, g₄, true_and, and_true, false_and, and_false, if_true, if_false, ccIte, ccBi, ccBiX, ccBv, ccBvX, ccZ0, ccZ1, ccTZ, ccT0, ccT1, Bool.or_false, ccMckT, ccMckIn, ne_eq, not_true_eq_false, not_false_eq_true, if_pos, if_neg, reduceIte, eq_self, Bool.false_eq_true, Bool.true_eq_false, mix_N, N_add, N_mul, N_sub, N_div, ccMod, N_lt, N_le, N_eq, ccNm, ccMN, ccNm2, ccM2N, ccMM2, ccM2M, ccMlt, ccMle, ccNltM, ccNleM, ccM2lt, ccM2le, ccNlt2, ccNle2, Nat.reduceAdd, Nat.reduceMul, Nat.reduceSub, Nat.reduceLT, Nat.reduceLeDiff, Nat.reduceEqDiff, Nat.reduceDiv, Nat.reduceMod, decide_false, Bool.not_false]
  | succ d i₁ =>
    intro p f x rs g₁
    have e₁ : f + (d + 1) + 1 = f + d + 1 + 1 := by omega
    obtain ⟨e₂, _, e₃⟩ := q₁ p (by omega)
    have e₄ := i₁ (p + 1) f (if ccP C p = true then (if x < C 5 p then C 5 p else x) else x) rs (by omega)
    rw [e₁, ccL273_13]
    show _ = rI (ccMxe cl (ccMxw C d (p + 1) (if ccP C p = true then (if x < C 5 p then C 5 p else x) else x))) m rs
    rw [← e₄]
    cases g₂ : ccP C p
    · have g₃ := ccP_f g₂
      simp (disch := omega) only [ccE201a, e₂, g₃, true_and, and_true, false_and, and_false, if_true, if_false, ccIte, ccBi, ccBiX, ccBv, ccBvX, ccZ0, ccZ1, ccTZ, ccT0, ccT1, Bool.or_false, ccMckT, ccMckIn, ne_eq, not_true_eq_false, not_false_eq_true, if_pos, if_neg, reduceIte, eq_self, Bool.false_eq_true, Bool.true_eq_false, mix_N, N_add, N_mul, N_sub, N_div, ccMod, N_lt, N_le, N_eq, ccNm, ccMN, ccNm2, ccM2N, ccMM2, ccM2M, ccMlt, ccMle, ccNltM, ccNleM, ccM2lt, ccM2le, ccNlt2, ccNle2, Nat.reduceAdd, Nat.reduceMul, Nat.reduceSub, Nat.reduceLT, Nat.reduceLeDiff, Nat.reduceEqDiff, Nat.reduceDiv, Nat.reduceMod]
    · have g₃ := ccP_t g₂
      have g₄ := (e₃ g₃).2.2
      simp (disch := omega) only [ccE201a, ccE201d, e₂, g₃, g₄, true_and, and_true, false_and, and_false, if_true, if_false, ccIte, ccBi, ccBiX, ccBv, ccBvX, ccZ0, ccZ1, ccTZ, ccT0, ccT1, Bool.or_false, ccMckT, ccMckIn, ne_eq, not_true_eq_false, not_false_eq_true, if_pos, if_neg, reduceIte, eq_self, Bool.false_eq_true, Bool.true_eq_false, mix_N, N_add, N_mul, N_sub, N_div, ccMod, N_lt, N_le, N_eq, ccNm, ccMN, ccNm2, ccM2N, ccMM2, ccM2M, ccMlt, ccMle, ccNltM, ccNleM, ccM2lt, ccM2le, ccNlt2, ccNle2, Nat.reduceAdd, Nat.reduceMul, Nat.reduceSub, Nat.reduceLT, Nat.reduceLeDiff, Nat.reduceEqDiff, Nat.reduceDiv, Nat.reduceMod]
theorem ccOk_146 {B : Nat} {m : mMi} (h₁ : ccTop B m) : ccOk B F146 F273 [(1, 1)] m := by
  refine ccOk_texte (b := N 0) h₁ (List.mem_cons_self) (fun m rs => rfl) (fun m rs => rfl) (fun w l n bd lm dp cl β W h₂ => ?_)
  obtain ⟨h, t, q₁, q₂, q₃, q₄, q₅, q₆⟩ := ccLd_R h₂
  obtain ⟨g, hg⟩ := ccFU (k := 96) (by omega)
  have is := ccBst_is (P := ccP (m 0 0)) (lt := ccLtW (m 0 0)) 96 0 (I (-1)) (by omega) (Or.inl rfl)
  have mx := ccMx_b q₅.2 96 0 (I (-1)) (N 0) (by omega) (Or.inl rfl) (by rw [if_pos rfl])
  obtain ⟨c₁, c₂, c₃⟩ := h₂.2.2.1.2.2.2.2.2.1
  have z₀ : (0 : Int32) = N 0 := rfl
  refine ccOk_r0 (v := ccMxe cl (ccMxw (m 0 0) 96 0 (N 0))) h₁ (fun rs => ?_) (fun rs => ?_)
  · have f₁ : F56 0 m rs = rI (ccBst (ccP (m 0 0)) (ccLtW (m 0 0)) 96 0 (I (-1))) m rs := by
      unfold F56
      rw [hg]
      exact ccL56 rfl 96 0 g _ rs (by omega) (Or.inl rfl)
    show bI (F56 0 m rs) _ = _
    rw [f₁, ccBi, mx]
    rcases is with g₅ | ⟨u, g₅, g₆, g₇⟩
    · rw [g₅, if_pos rfl]
      unfold ccMxe
      simp (disch := omega) only [ccE51m, true_and, and_true, false_and, and_false, if_true, if_false, ccIte, ccBi, ccBiX, ccBv, ccBvX, ccZ0, ccZ1, ccTZ, ccT0, ccT1, Bool.or_false, ccMckT, ccMckIn, ne_eq, not_true_eq_false, not_false_eq_true, if_pos, if_neg, reduceIte, eq_self, Bool.false_eq_true, Bool.true_eq_false, mix_N, N_add, N_mul, N_sub, N_div, ccMod, N_lt, N_le, N_eq, ccNm, ccMN, ccNm2, ccM2N, ccMM2, ccM2M, ccMlt, ccMle, ccNltM, ccNleM, ccM2lt, ccM2le, ccNlt2, ccNle2, Nat.reduceAdd, Nat.reduceMul, Nat.reduceSub, Nat.reduceLT, Nat.reduceLeDiff, Nat.reduceEqDiff, Nat.reduceDiv, Nat.reduceMod]
    · have nu : ¬ N u = I (-1) := fun y₁ => (ccNm (by omega)).mp y₁
      obtain ⟨_, z, z₁, z₂⟩ := q₅.2 u g₅ (ccP_t g₇)
      rw [g₆, if_neg nu, mix_N (by omega), ccE51 g₅, g₇, ccBi, ccT_t, ccIf1e, ccMckIn g₅ (by omega), z₁, c₁]
      unfold ccMxe
      by_cases g₈ : z = 0
      · subst g₈
        simp (disch := omega) only [true_and, and_true, false_and, and_false, if_true, if_false, ccIte, ccBi, ccBiX, ccBv, ccBvX, ccZ0, ccZ1, ccTZ, ccT0, ccT1, Bool.or_false, ccMckT, ccMckIn, ne_eq, not_true_eq_false, not_false_eq_true, if_pos, if_neg, reduceIte, eq_self, Bool.false_eq_true, Bool.true_eq_false, mix_N, N_add, N_mul, N_sub, N_div, ccMod, N_lt, N_le, N_eq, ccNm, ccMN, ccNm2, ccM2N, ccMM2, ccM2M, ccMlt, ccMle, ccNltM, ccNleM, ccM2lt, ccM2le, ccNlt2, ccNle2, Nat.reduceAdd, Nat.reduceMul, Nat.reduceSub, Nat.reduceLT, Nat.reduceLeDiff, Nat.reduceEqDiff, Nat.reduceDiv, Nat.reduceMod]
      · have g₉ : ¬ N z = N 0 := by rw [N_eq (by omega) (by omega)]; exact g₈
        by_cases g₃ : cl = 0
        · subst g₃
          simp (disch := omega) only [g₈, g₉, true_and, and_true, false_and, and_false, if_true, if_false, ccIte, ccBi, ccBiX, ccBv, ccBvX, ccZ0, ccZ1, ccTZ, ccT0, ccT1, Bool.or_false, ccMckT, ccMckIn, ne_eq, not_true_eq_false, not_false_eq_true, if_pos, if_neg, reduceIte, eq_self, Bool.false_eq_true, Bool.true_eq_false, mix_N, N_add, N_mul, N_sub, N_div, ccMod, N_lt, N_le, N_eq, ccNm, ccMN, ccNm2, ccM2N, ccMM2, ccM2M, ccMlt, ccMle, ccNltM, ccNleM, ccM2lt, ccM2le, ccNlt2, ccNle2, Nat.reduceAdd, Nat.reduceMul, Nat.reduceSub, Nat.reduceLT, Nat.reduceLeDiff, Nat.reduceEqDiff, Nat.reduceDiv, Nat.reduceMod]
        · have g₄ : ¬ N cl = N 0 := by rw [N_eq (by omega) (by omega)]; exact g₃
          have g₅ : N 1 ≤ N cl := by rw [N_le (by omega) (by omega)]; omega
          have g₆ : ¬ N cl = 0 := g₄
          rw [ccIte, if_pos g₉, ccIte, if_pos g₅, decide_eq_false g₆, if_neg g₉, if_neg g₃]
          rfl
  · show F273_13 FU (N 0) (N 0) (ccM0 m) rs = _
    rw [hg]
    exact ccL273 (ccLd_wm0 h₂).2.1 (by rw [ccM0_r (by omega)]; exact c₂) c₃ 96 0 g _ rs (by omega)
/-! the best angle -/
def ccBa (x : Int32) : Nat → Nat → Nat → Nat
  | 0, _, b => b
  | d + 1, a, b => ccBa x d (a + 1) (if ccSB x (N a) ≤ ccSB x (N b) then b else a)
theorem ccBa_s {x : Int32} {d a b : Nat} : ccBa x (d + 1) a b = ccBa x d (a + 1) (if ccSB x (N a) ≤ ccSB x (N b) then b else a) := rfl
theorem ccBa_0 {x : Int32} : ccBa x 51 20 20 = ccBa x 50 21 20 := by rw [ccBa_s, ite_self]
theorem ccL151 {m : mMi} {p n : Nat} {x y : Int32} {C : Nat → Nat → Int32} (h₀ : m 0 0 = C) (h₁ : ccCd n C) (h₂ : n ≤ 40) (h₃ : p < 96) (h₄ : C 2 p ≠ I (-1)) : ∀ d a b f rs, a + d = 71 → F151_40 (f + d + 1) x y (N p) (N b) (N a) m rs = rI (N (ccBa (ccStf C p) d a b)) m rs := by
  intro d
  induction d with
  | zero =>
    intro a b f rs g₁
    have e₀ : N 70 < N a := by rw [N_lt (by omega) (by omega)]; omega
    rw [ccL151_40, ccIte, if_pos e₀]
    rfl
  | succ d i₁ =>
    intro a b f rs g₁
    have e₁ : f + (d + 1) + 1 = f + d + 1 + 1 := by omega
    have e₀ : ¬ N 70 < N a := by rw [N_lt (by omega) (by omega)]; omega
    rw [e₁, ccL151_40, ccIte, if_neg e₀, ccE25 h₀ h₁ h₂ h₃ h₄, ccBi, ccE110, ccBi, ccE25 h₀ h₁ h₂ h₃ h₄, ccBi, ccE110, ccBi, ccIte, N_add]
    show _ = rI (N (ccBa (ccStf C p) d (a + 1) (if ccSB (ccStf C p) (N a) ≤ ccSB (ccStf C p) (N b) then b else a))) m rs
    by_cases g₂ : ccSB (ccStf C p) (N a) ≤ ccSB (ccStf C p) (N b)
    · rw [if_pos g₂, if_pos g₂]
      exact i₁ (a + 1) b f rs (by omega)
    · rw [if_neg g₂, if_neg g₂]
      exact i₁ (a + 1) a f rs (by omega)
theorem ccL280 {m : mMi} {x y z : Int32} : ∀ d a b f rs, a + d = 71 → F280_40 (f + d + 1) x y z (N b) (N a) m rs = rI (N (ccBa z d a b)) m rs := by
  intro d
  induction d with
  | zero =>
    intro a b f rs g₁
    have e₀ : N 70 < N a := by rw [N_lt (by omega) (by omega)]; omega
    rw [ccL280_40, ccIte, if_pos e₀]
    rfl
  | succ d i₁ =>
    intro a b f rs g₁
    have e₁ : f + (d + 1) + 1 = f + d + 1 + 1 := by omega
    have e₀ : ¬ N 70 < N a := by rw [N_lt (by omega) (by omega)]; omega
    rw [e₁, ccL280_40, ccIte, if_neg e₀, ccE221, ccBi, ccE221, ccBi, ccIte, N_add]
    show _ = rI (N (ccBa z d (a + 1) (if ccSB z (N a) ≤ ccSB z (N b) then b else a))) m rs
    by_cases g₂ : ccSB z (N a) ≤ ccSB z (N b)
    · rw [if_pos g₂, if_pos g₂]
      exact i₁ (a + 1) b f rs (by omega)
    · rw [if_neg g₂, if_neg g₂]
      exact i₁ (a + 1) a f rs (by omega)
theorem ccOk_151 {B : Nat} {m : mMi} {x y : Int32} (h₁ : ccTop B m) : ccOk B (F151 x y) (F280 x y) [(1, 1), (2, 2)] m := by
  rcases h₁.2.2.2 with h₃ | ⟨w, l, n, bd, lm, dp, cl, β, W, h₂⟩
  · refine ccOk_un (b := N 0) h₁ h₃ (List.mem_cons_self) (fun rs e₁ => by unfold F151 F122; rw [e₁]; rfl) (fun rs e₁ => by unfold F280 F241; rw [e₁]; rfl)
  have qr : ccRu m 0 w l n := h₂.2.2.1.1
  have b₁ : w ≤ 12 := qr.2.2.2.2.1
  have b₂ : l ≤ 8 := qr.2.2.2.2.2.2.1
  have b₃ : n ≤ 40 := qr.2.2.2.2.2.2.2
  rcases Classical.em (ccIsPl w l x y) with ⟨L, c, e₁, e₂, e₃, e₄⟩ | g
  rotate_left
  · refine ccOk_x (E := 2) (c := 2) (b := N 0) (m₂ := mset (ccM0 m) 4 0 0 0 (N 2)) h₁ (List.mem_cons_of_mem _ List.mem_cons_self) (fun rs => ?_) (fun rs => ?_) ccT0s (ccEq_t (ccEq_t ccEq_rfl))
    · unfold F151
      rw [ccE122f h₂.1 qr g, ccBvX]
    · unfold F280
      rw [ccE241f h₂.2.1 h₂.2.2.1.2.1 g, ccBi, ccIf1e]
  subst e₁ e₂
  have wm := ccLd_wm0 h₂
  obtain ⟨h, t, q₁, _⟩ := ccLd_R h₂
  have cd := ccCd_of q₁.2.1
  have s₀ : ccM0 m 4 0 3 = m 4 0 3 := by
    funext q
    rw [ccM0_r (by omega)]
  have sp : ccSp w l L c = N (12 * L + c) := if_pos ⟨e₃, e₄⟩
  have ss : ccSs n (m 0 0) (ccM0 m 4 0 3) := by rw [s₀]; exact ccSs_of q₁.2.2.1
  cases g : ccHP (m 0 0) w l L c
  · refine ccOk_q (v := I (-1)) (m₁ := m) (m₂ := ccM0 m) h₁ (fun rs => ?_) (fun rs => ?_) ccT0s ccEq_rfl (ccEq_t ccEq_rfl) (fun _ _ _ => rfl)
    · unfold F151
      rw [ccE122t h₂.1 qr e₃ e₄, ccBv, ccE81 qr (by omega) (by omega), ccBi, ccE51s b₁ b₂, g, ccBi, ccT_f, ccIf0]
    · unfold F280
      rw [ccE241t h₂.2.1 h₂.2.2.1.2.1 e₃ e₄, ccBi, ccIf0e, ccE198' wm (by omega) (by omega), g, ccBi, ccT_f, ccIf0]
  · obtain ⟨_, _, g₀⟩ := ccHP_t g
    obtain ⟨f₁, hf₁⟩ := ccFU (k := 51) (by omega)
    obtain ⟨f₂, hf₂⟩ := ccFU (k := 50) (by omega)
    have e₀ := ccBa_0 (x := ccStf (m 0 0) (12 * L + c))
    refine ccOk_q (v := N (ccBa (ccStf (m 0 0) (12 * L + c)) 50 21 20)) (m₁ := m) (m₂ := ccM0 m) h₁ (fun rs => ?_) (fun rs => ?_) ccT0s ccEq_rfl (ccEq_t ccEq_rfl) (fun _ _ _ => rfl)
    · unfold F151
      rw [ccE122t h₂.1 qr e₃ e₄, ccBv, ccE81 qr (by omega) (by omega), ccBi, ccE51s b₁ b₂, g, ccBi, ccT_t, ccIf1, sp, hf₁, ← e₀]
      exact ccL151 rfl cd b₃ (by omega) g₀ 51 20 20 f₁ rs (by omega)
    · unfold F280
      rw [ccE241t h₂.2.1 h₂.2.2.1.2.1 e₃ e₄, ccBi, ccIf0e, ccE198' wm (by omega) (by omega), g, ccBi, ccT_t, ccIf1, ccE200, ccBi, ccE220 wm cd ss (by omega) g₀, ccBi, hf₂]
      exact ccL280 50 21 20 f₂ rs (by omega)
