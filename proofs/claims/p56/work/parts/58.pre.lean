/-! WHAT A CALL NEEDS: a text, a card, a place, a tremor. -/
abbrev ccM0 (m : mMi) : mMi := mset m 4 0 0 0 (N 0)
theorem ccE120t {m : mMi} {rs : mRs} {w l n a : Nat} (h₁ : m 2 0 0 10 = N 1) (q₁ : ccRu m 0 w l n) (h₂ : a < n) : F120 (N a) m rs = rV m rs := by
  have b₃ : n ≤ 40 := q₁.2.2.2.2.2.2.2
  unfold F120
  rw [ccE114t h₁, ccBv, q₁.2.2.1, ccE106 (by omega) (by omega), if_pos h₂, ccBv]
theorem ccE120f {m : mMi} {rs : mRs} {w l n : Nat} {x : Int32} (h₁ : m 2 0 0 10 = N 1) (q₁ : ccRu m 0 w l n) (h₂ : ¬ ∃ a, x = N a ∧ a < n) : F120 x m rs = rX 2 m (rsT rs) := by
  have b₃ : n ≤ 40 := q₁.2.2.2.2.2.2.2
  unfold F120
  rw [ccE114t h₁, ccBv, q₁.2.2.1]
  rcases ccAny x with ⟨a, e₁, e₂⟩ | ⟨e₁, _⟩
  · rw [e₁, ccE106 e₂ (by omega), if_neg (fun y₁ => h₂ ⟨a, e₁, y₁⟩), ccBvX]
  · rw [ccE106n e₁, ccBvX]
theorem ccE239t {m : mMi} {rs : mRs} {w l n a : Nat} (q₁ : ccMo m w l n) (h₂ : a < n) : F239 (N a) m rs = rI (N 1) m rs := by
  have b₃ : n ≤ 40 := q₁.2.2.2.2.2.2.2
  unfold F239
  rw [q₁.2.2.1, N_sub (by omega), ccE177' (by omega) (by omega) (by omega), decide_eq_true (Nat.zero_le a), decide_eq_true (by omega : a ≤ n - 1)]
  rfl
theorem ccE177z {m : mMi} {rs : mRs} {x : Int32} {b n : Nat} (h₁ : ¬ ∃ a, x = N a ∧ b ≤ a ∧ a < n) (h₂ : n < 1000000) (h₃ : b < 1000000) : F177 x (N b) (N n - N 1) m rs = rI (N 0) m rs := by
  rcases ccAny x with ⟨a, e₁, e₂⟩ | ⟨e₁, _⟩
  · by_cases g₁ : b ≤ a
    · have g₂ : n ≤ a := by
        by_cases g₃ : n ≤ a
        · exact g₃
        · exact absurd ⟨a, e₁, g₁, by omega⟩ h₁
      have g₃ : N n - N 1 < N a := by
        rw [← I_N, ← I_N, ← I_N, I_sub, I_lt (by omega) (by omega) (by omega) (by omega)]
        omega
      subst e₁
      unfold F177
      have g₄ : ¬ N a < N b := by rw [N_lt (by omega) (by omega)]; omega
      rw [ccIte, ccIte, if_neg g₄, if_pos g₃]
      rfl
    · subst e₁
      unfold F177
      have g₄ : N a < N b := by rw [N_lt (by omega) (by omega)]; omega
      rw [ccIte, if_pos g₄]
      rfl
  · exact ccE177n e₁ (by omega)
theorem ccE239f {m : mMi} {rs : mRs} {w l n : Nat} {x : Int32} (q₁ : ccMo m w l n) (h₂ : ¬ ∃ a, x = N a ∧ a < n) : F239 x m rs = rI (N 0) m rs := by
  have b₃ : n ≤ 40 := q₁.2.2.2.2.2.2.2
  unfold F239
  rw [q₁.2.2.1, ccE177z (fun ⟨a, y₁, _, y₂⟩ => h₂ ⟨a, y₁, y₂⟩) (by omega) (by omega)]
  rfl
theorem ccM0_mo {m : mMi} {w l n : Nat} (q₁ : ccMo m w l n) : ccMo (ccM0 m) w l n := by
  obtain ⟨g₁, g₂, g₃, b₁⟩ := q₁
  exact ⟨by unfold ccM0; rw [ccRd, if_neg (by omega)]; exact g₁, by unfold ccM0; rw [ccRd, if_neg (by omega)]; exact g₂, by unfold ccM0; rw [ccRd, if_neg (by omega)]; exact g₃, b₁⟩
theorem ccE238t {m : mMi} {rs : mRs} {w l n a : Nat} (h₁ : m 4 0 0 1 = N 1) (q₁ : ccMo m w l n) (h₂ : a < n) : F238 (N a) m rs = rI (N 0) (ccM0 m) rs := by
  unfold F238
  rw [ccE230t h₁, ccBi, ccIf0, ccE239t (ccM0_mo q₁) h₂, ccBi, ccIf1, ccE178f ccT0s, ccBi, ccIf0e]
  rfl
theorem ccE238f {m : mMi} {rs : mRs} {w l n : Nat} {x : Int32} (h₁ : m 4 0 0 1 = N 1) (q₁ : ccMo m w l n) (h₂ : ¬ ∃ a, x = N a ∧ a < n) : F238 x m rs = rI (N 1) (mset (ccM0 m) 4 0 0 0 (N 2)) rs := by
  unfold F238
  rw [ccE230t h₁, ccBi, ccIf0, ccE239f (ccM0_mo q₁) h₂, ccBi, ccIf0, ccE178t ccT0s (by omega) (by omega), ccBi, ccIf1e]
  rfl
theorem ccE238u {m : mMi} {rs : mRs} {x : Int32} (h₁ : m 4 0 0 1 = N 0) : F238 x m rs = rI (N 1) (mset (ccM0 m) 4 0 0 0 (N 1)) rs := by
  unfold F238
  rw [ccE230f h₁, ccBi, ccIf1]
  rfl
/-! a place -/
def ccIsPl (w l : Nat) (x y : Int32) : Prop := ∃ L c, x = N L ∧ y = N c ∧ L < l ∧ L + c < w
theorem ccE122t {m : mMi} {rs : mRs} {w l n L c : Nat} (h₁ : m 2 0 0 10 = N 1) (q₁ : ccRu m 0 w l n) (h₂ : L < l) (h₃ : L + c < w) : F122 (N L) (N c) m rs = rV m rs := by
  have b₁ : w ≤ 12 := q₁.2.2.2.2.1
  have b₂ : l ≤ 8 := q₁.2.2.2.2.2.2.1
  unfold F122
  rw [ccE114t h₁, ccBv, ccE80 q₁ (by omega), ccBi, if_pos h₂, ccE106 (by omega) (by omega), if_pos (by omega), ccBv]
theorem ccE80g {m : mMi} {rs : mRs} {r w l n : Nat} {x : Int32} (q₁ : ccRu m r w l n) : ∃ b, b < 13 ∧ F80 r x m rs = rI (N b) m rs ∧ ∀ c, c < b → ∃ L, x = N L ∧ L < l ∧ L + c < w := by
  have q₂ := q₁
  obtain ⟨g₁, g₂, g₃, b₁, b₂, b₃, b₄, b₅⟩ := q₁
  rcases ccAny x with ⟨L, e₁, e₂⟩ | ⟨e₁, _⟩
  · by_cases h₁ : L < 1000
    · refine ⟨if L < l then w - L else 0, by split <;> omega, by rw [e₁]; exact ccE80 q₂ h₁, fun c y₁ => ⟨L, e₁, ?_⟩⟩
      by_cases h₂ : L < l
      · rw [if_pos h₂] at y₁
        omega
      · rw [if_neg h₂] at y₁
        omega
    · refine ⟨0, by omega, ?_, fun c y₁ => by omega⟩
      unfold F80
      rw [e₁, g₁, g₂]
      simp (disch := omega) only [true_and, and_true, false_and, and_false, if_true, if_false, ccIte, ccBi, ccBiX, ccBv, ccBvX, ccZ0, ccZ1, ccTZ, ccT0, ccT1, Bool.or_false, ccMckT, ccMckIn, ne_eq, not_true_eq_false, not_false_eq_true, if_pos, if_neg, reduceIte, eq_self, Bool.false_eq_true, Bool.true_eq_false, mix_N, N_add, N_mul, N_sub, N_div, ccMod, N_lt, N_le, N_eq, ccNm, ccMN, ccNm2, ccM2N, ccMM2, ccM2M, ccMlt, ccMle, ccNltM, ccNleM, ccM2lt, ccM2le, ccNlt2, ccNle2, Nat.reduceAdd, Nat.reduceMul, Nat.reduceSub, Nat.reduceLT, Nat.reduceLeDiff, Nat.reduceEqDiff, Nat.reduceDiv, Nat.reduceMod]
  · refine ⟨0, by omega, ?_, fun c y₁ => by omega⟩
    unfold F80
    rw [ccIte, if_pos e₁]
theorem ccE122f {m : mMi} {rs : mRs} {w l n : Nat} {x y : Int32} (h₁ : m 2 0 0 10 = N 1) (q₁ : ccRu m 0 w l n) (h₂ : ¬ ccIsPl w l x y) : F122 x y m rs = rX 2 m (rsT rs) := by
  obtain ⟨b, g₁, g₂, g₃⟩ := ccE80g (rs := rs) (x := x) q₁
  unfold F122
  rw [ccE114t h₁, ccBv, g₂, ccBi]
  rcases ccAny y with ⟨c, e₁, e₂⟩ | ⟨e₁, _⟩
  · rw [e₁, ccE106 e₂ (by omega), if_neg (fun y₁ => by
      obtain ⟨L, f₁, f₂, f₃⟩ := g₃ c y₁
      exact h₂ ⟨L, c, f₁, e₁, f₂, f₃⟩), ccBvX]
  · rw [ccE106n e₁, ccBvX]
theorem ccE199f {m : mMi} {rs : mRs} {w l n : Nat} {x y : Int32} (q₁ : ccMo m w l n) (h₂ : ¬ ccIsPl w l x y) : F199 x y m rs = rI (N 0) m rs := by
  obtain ⟨g₁, g₂, g₃, b₁, b₂, b₃, b₄, b₅⟩ := q₁
  unfold F199
  rw [g₂]
  rcases Classical.em (∃ L, x = N L ∧ 0 ≤ L ∧ L < l) with ⟨L, e₁, _, e₂⟩ | h₃
  · have e₃ : F177 x (N 0) (N l - N 1) m rs = rI (N 1) m rs := by
      rw [e₁, N_sub (by omega), ccE177' (by omega) (by omega) (by omega), decide_eq_true (Nat.zero_le L), decide_eq_true (by omega : L ≤ l - 1)]
      rfl
    have e₄ : F177 y (N 0) (N w - N 1 - x) m rs = rI (N 0) m rs := by
      rcases ccAny y with ⟨c, f₁, f₂⟩ | ⟨f₁, _⟩
      · have f₃ : ¬ L + c < w := fun y₁ => h₂ ⟨L, c, e₁, f₁, e₂, y₁⟩
        have f₄ : N w - N 1 - N L < N c := by
          rw [← I_N, ← I_N, ← I_N, ← I_N, I_sub, I_sub, I_lt (by omega) (by omega) (by omega) (by omega)]
          omega
        rw [f₁, e₁]
        unfold F177
        have f₅ : ¬ N c < N 0 := by rw [N_lt (by omega) (by omega)]; omega
        rw [ccIte, ccIte, if_neg f₅, if_pos f₄]
        rfl
      · exact ccE177n f₁ (by omega)
    rw [e₃, ccBi, ccIf1e, g₁, e₄, ccBi, ccIf0e]
    rfl
  · rw [ccE177z h₃ (by omega) (by omega), ccBi, ccIf0e]
    rfl
theorem ccE199t {m : mMi} {rs : mRs} {w l n L c : Nat} (q₁ : ccMo m w l n) (h₂ : L < l) (h₃ : L + c < w) : F199 (N L) (N c) m rs = rI (N 1) m rs := by
  have b₁ : w ≤ 12 := q₁.2.2.2.2.1
  have b₂ : l ≤ 8 := q₁.2.2.2.2.2.2.1
  rw [ccE199 q₁ (by omega) (by omega)]
  unfold ccPl
  rw [decide_eq_true h₂, decide_eq_true h₃]
  rfl
theorem ccE241t {m : mMi} {rs : mRs} {w l n L c : Nat} (h₁ : m 4 0 0 1 = N 1) (q₁ : ccMo m w l n) (h₂ : L < l) (h₃ : L + c < w) : F241 (N L) (N c) m rs = rI (N 0) (ccM0 m) rs := by
  unfold F241
  rw [ccE230t h₁, ccBi, ccIf0, ccE199t (ccM0_mo q₁) h₂ h₃, ccBi, ccIf1, ccE178f ccT0s, ccBi, ccIf0e]
  rfl
theorem ccE241f {m : mMi} {rs : mRs} {w l n : Nat} {x y : Int32} (h₁ : m 4 0 0 1 = N 1) (q₁ : ccMo m w l n) (h₂ : ¬ ccIsPl w l x y) : F241 x y m rs = rI (N 1) (mset (ccM0 m) 4 0 0 0 (N 2)) rs := by
  unfold F241
  rw [ccE230t h₁, ccBi, ccIf0, ccE199f (ccM0_mo q₁) h₂, ccBi, ccIf0, ccE178t ccT0s (by omega) (by omega), ccBi, ccIf1e]
  rfl
theorem ccE241u {m : mMi} {rs : mRs} {x y : Int32} (h₁ : m 4 0 0 1 = N 0) : F241 x y m rs = rI (N 1) (mset (ccM0 m) 4 0 0 0 (N 1)) rs := by
  unfold F241
  rw [ccE230f h₁, ccBi, ccIf1]
  rfl
/-! the rules of refusing, for any call -/
/-- what is behind a refusal is asked of the rest of the call -/
def ccMo4 (m m₁ : mMi) : Prop := ∀ a j p, m₁ 4 a j p = m 4 a j p
theorem ccMo_4 {m m₁ : mMi} {w l n : Nat} (h₁ : ccMo4 m m₁) (q₁ : ccMo m w l n) : ccMo m₁ w l n := ⟨by rw [h₁]; exact q₁.1, by rw [h₁]; exact q₁.2.1, by rw [h₁]; exact q₁.2.2.1, q₁.2.2.2⟩
theorem ccOk_imp {B : Nat} {Fc Fm Gc Gm : mMi → mRs → mRz} {ec : List (Nat × Nat)} {m : mMi} (h₁ : ccOk B Gc Gm ec m) (h₂ : ∀ rs, Fc m rs = Gc m rs) (h₃ : ∀ m₁ rs, ccMo4 m m₁ → Fm m₁ rs = Gm m₁ rs) : ccOk B Fc Fm ec m := by
  rcases h₁ with ⟨v, m₁, m₂, a₁, a₂, a₃, a₄, a₅⟩ | ⟨E, c, b, m₁, m₂, a₀, a₁, a₂, a₃, a₄, a₅⟩
  · exact Or.inl ⟨v, m₁, m₂, fun rs => by rw [h₂]; exact a₁ rs, fun rs => by rw [h₃ m₁ rs (fun a j p => (a₅ a j p).2.2)]; exact a₂ rs, a₃, a₄, a₅⟩
  · exact Or.inr ⟨E, c, b, m₁, m₂, a₀, fun rs => by rw [h₂]; exact a₁ rs, fun rs => by rw [h₃ m₁ rs (fun a j p => (a₅ a j p).2.2)]; exact a₂ rs, a₃, a₄, a₅⟩
/-- a text is needed -/
theorem ccOk_text {B : Nat} {Fc Fm kc km : mMi → mRs → mRz} {ec : List (Nat × Nat)} {m : mMi} {b : Int32} (h₁ : ccTop B m) (h₀ : (1, 1) ∈ ec) (hc : ∀ m rs, Fc m rs = bV (F114 m rs) kc) (hm₁ : ∀ m rs, F230 m rs = rI (N 1) (mset (ccM0 m) 4 0 0 0 (N 1)) rs → Fm m rs = rI b (mset (ccM0 m) 4 0 0 0 (N 1)) rs) (hm₂ : ∀ m rs, F230 m rs = rI (N 0) (ccM0 m) rs → Fm m rs = km (ccM0 m) rs)
    (h₂ : ∀ w l n bd lm dp cl β W, ccLd B m w l n bd lm dp cl β W → ccOk B kc (fun m rs => km (ccM0 m) rs) ec m) : ccOk B Fc Fm ec m := by
  rcases h₁.2.2.2 with h₃ | ⟨w, l, n, bd, lm, dp, cl, β, W, h₃⟩
  · refine ccOk_x (E := 1) (c := 1) (b := b) (m₂ := mset (ccM0 m) 4 0 0 0 (N 1)) h₁ h₀ (fun rs => ?_) (fun rs => hm₁ m rs (ccE230f h₃.2.1)) ccT0s (ccEq_t (ccEq_t ccEq_rfl))
    rw [hc, ccE114f h₃.1, ccBvX]
  · refine ccOk_imp (h₂ w l n bd lm dp cl β W h₃) (fun rs => ?_) (fun m₁ rs y₁ => hm₂ m₁ rs (ccE230t (by rw [y₁]; exact h₃.2.1)))
    rw [hc, ccE114t h₃.1, ccBv]
/-- a card is needed -/
theorem ccOk_card {B : Nat} {Fc Fm kc km : mMi → mRs → mRz} {ec : List (Nat × Nat)} {m : mMi} {x b : Int32} (h₁ : ccTop B m) (h₀ : (1, 1) ∈ ec) (h₀' : (2, 2) ∈ ec) (hc : ∀ m rs, Fc m rs = bV (F120 x m rs) kc) (hm : ∀ m rs, Fm m rs = bI (F238 x m rs) (fun v m r => mifO (decide (v ≠ N 0)) (rI b m r) (km m r)))
    (h₂ : ∀ w l n bd lm dp cl β W a, ccLd B m w l n bd lm dp cl β W → x = N a → a < n → ccOk B kc (fun m rs => km (ccM0 m) rs) ec m) : ccOk B Fc Fm ec m := by
  rcases h₁.2.2.2 with h₃ | ⟨w, l, n, bd, lm, dp, cl, β, W, h₃⟩
  · refine ccOk_x (E := 1) (c := 1) (b := b) (m₂ := mset (ccM0 m) 4 0 0 0 (N 1)) h₁ h₀ (fun rs => ?_) (fun rs => ?_) ccT0s (ccEq_t (ccEq_t ccEq_rfl))
    · have e₁ : F120 x m rs = rX 1 m (rsT rs) := by
        unfold F120
        rw [ccE114f h₃.1, ccBvX]
      rw [hc, e₁, ccBvX]
    · rw [hm, ccE238u h₃.2.1, ccBi, ccIf1]
  · rcases Classical.em (∃ a, x = N a ∧ a < n) with ⟨a, e₁, e₂⟩ | h₄
    · refine ccOk_imp (h₂ w l n bd lm dp cl β W a h₃ e₁ e₂) (fun rs => ?_) (fun m₁ rs y₁ => ?_)
      · rw [hc, e₁, ccE120t h₃.1 h₃.2.2.1.1 e₂, ccBv]
      · rw [hm, e₁, ccE238t (by rw [y₁]; exact h₃.2.1) (ccMo_4 y₁ h₃.2.2.1.2.1) e₂, ccBi, ccIf0]
    · refine ccOk_x (E := 2) (c := 2) (b := b) (m₂ := mset (ccM0 m) 4 0 0 0 (N 2)) h₁ h₀' (fun rs => ?_) (fun rs => ?_) ccT0s (ccEq_t (ccEq_t ccEq_rfl))
      · rw [hc, ccE120f h₃.1 h₃.2.2.1.1 h₄, ccBvX]
      · rw [hm, ccE238f h₃.2.1 h₃.2.2.1.2.1 h₄, ccBi, ccIf1]
/-- a place is needed -/
theorem ccOk_place {B : Nat} {Fc Fm kc km : mMi → mRs → mRz} {ec : List (Nat × Nat)} {m : mMi} {x y b : Int32} (h₁ : ccTop B m) (h₀ : (1, 1) ∈ ec) (h₀' : (2, 2) ∈ ec) (hc : ∀ m rs, Fc m rs = bV (F122 x y m rs) kc) (hm : ∀ m rs, Fm m rs = bI (F241 x y m rs) (fun v m r => mifO (decide (v ≠ N 0)) (rI b m r) (km m r)))
    (h₂ : ∀ w l n bd lm dp cl β W L c, ccLd B m w l n bd lm dp cl β W → x = N L → y = N c → L < l → L + c < w → ccOk B kc (fun m rs => km (ccM0 m) rs) ec m) : ccOk B Fc Fm ec m := by
  rcases h₁.2.2.2 with h₃ | ⟨w, l, n, bd, lm, dp, cl, β, W, h₃⟩
  · refine ccOk_x (E := 1) (c := 1) (b := b) (m₂ := mset (ccM0 m) 4 0 0 0 (N 1)) h₁ h₀ (fun rs => ?_) (fun rs => ?_) ccT0s (ccEq_t (ccEq_t ccEq_rfl))
    · have e₁ : F122 x y m rs = rX 1 m (rsT rs) := by
        unfold F122
        rw [ccE114f h₃.1, ccBvX]
      rw [hc, e₁, ccBvX]
    · rw [hm, ccE241u h₃.2.1, ccBi, ccIf1]
  · rcases Classical.em (ccIsPl w l x y) with ⟨L, c, e₁, e₂, e₃, e₄⟩ | h₄
    · refine ccOk_imp (h₂ w l n bd lm dp cl β W L c h₃ e₁ e₂ e₃ e₄) (fun rs => ?_) (fun m₁ rs y₁ => ?_)
      · rw [hc, e₁, e₂, ccE122t h₃.1 h₃.2.2.1.1 e₃ e₄, ccBv]
      · rw [hm, e₁, e₂, ccE241t (by rw [y₁]; exact h₃.2.1) (ccMo_4 y₁ h₃.2.2.1.2.1) e₃ e₄, ccBi, ccIf0]
    · refine ccOk_x (E := 2) (c := 2) (b := b) (m₂ := mset (ccM0 m) 4 0 0 0 (N 2)) h₁ h₀' (fun rs => ?_) (fun rs => ?_) ccT0s (ccEq_t (ccEq_t ccEq_rfl))
      · rw [hc, ccE122f h₃.1 h₃.2.2.1.1 h₄, ccBvX]
      · rw [hm, ccE241f h₃.2.1 h₃.2.2.1.2.1 h₄, ccBi, ccIf1]
