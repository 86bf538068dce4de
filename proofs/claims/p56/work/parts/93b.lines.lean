/-! THE CLASS READS WHAT THE WORLD TOLD: what is built. -/
theorem kwJ_c2 {mc mw m₁ : mMi} {B w l n lm dp cl bd h t : Nat} {β wt : Nat → Int32} {W : Nat → Nat} {bx : Bool} (q : kwJ mc mw 2 B w l n lm dp cl bd β wt W bx h t) (h₁ : m₁ 0 2 = mc 0 2) (h₂ : ∀ j p, m₁ 1 1 j p = mc 1 1 j p) : kwJ m₁ mw 2 B w l n lm dp cl bd β wt W bx h t := by
  obtain ⟨⟨mm, ⟨q₁, q₂, q₃, q₄, q₅, q₆, q₇, q₈⟩, a₁, a₂, a₃, a₄⟩, s₀, u₀, w₀⟩ := q
  have e₀ : RO 2 = 1 := rfl
  refine ⟨⟨mm, ⟨?_, ?_, q₃, q₄, q₅, by rw [h₁]; exact q₆, by rw [h₁]; exact q₇, by rw [h₁]; exact q₈⟩, by rw [h₁]; exact a₁, fun k g => ?_, a₃, a₄⟩, s₀, by rw [h₁]; exact u₀, w₀⟩
  · unfold ccRu at q₁ ⊢
    rw [e₀] at q₁ ⊢
    rw [h₂, h₂, h₂]
    exact q₁
  · rw [e₀] at q₂ ⊢
    rw [h₂]
    exact q₂
  · have y := a₂ k g
    rw [e₀] at y ⊢
    rw [h₂]
    exact y
/-- the class reads a place -/
theorem kwFwP {m : mMi} {b : Nat → Nat} {L e p w l n lo x y : Nat} {t : List Nat} (c : ccCx m b L e p) (tl : kwTl b L p ([32] ++ (ccNl x ++ ([32] ++ (ccNl y ++ t))))) (k : kwSep t) (ru : ccRu m 1 w l n) (h₁ : lo ≤ x) (h₂ : x < l) (h₃ : x + y < w) : ∃ m₁ p₁, (∀ rs, F74 (N lo) m rs = rI (N 1) m₁ rs) ∧ m₁ 2 3 0 5 = N x ∧ m₁ 2 3 0 6 = N y ∧ ccCx m₁ b L e p₁ ∧ kwTl b L p₁ t ∧ ccFc1 m m₁ := by
  have b₁ : w ≤ 12 := ru.2.2.2.2.1
  have b₂ : l ≤ 8 := ru.2.2.2.2.2.2.1
  have hl : m 1 1 1 1 = N l := ru.2.1
  obtain ⟨m₁, p₁, s₁, a₁, a₂, a₃, a₄, _, a₅⟩ := kwRdN (lo := lo) (v := x) (hC := N l - N 1) c tl (Or.inl rfl) (by omega) h₁ (by rw [N_sub (by omega), N_le (by omega) (by omega)]; omega)
  obtain ⟨M, hM⟩ : ∃ M, M = mset m₁ 2 3 0 5 (N x) := ⟨_, rfl⟩
  have fM : ∀ f a j i, ¬ (f = 2 ∧ a = 3 ∧ j = 0 ∧ i = 5) → M f a j i = m₁ f a j i := fun f a j i g => by rw [hM, ccRd, if_neg (by omega)]
  have ruM : ccRu M 1 w l n := ⟨by rw [fM 1 1 1 0 (by omega), a₅ 1 1 1 0 (by omega) (by omega)]; exact ru.1, by rw [fM 1 1 1 1 (by omega), a₅ 1 1 1 1 (by omega) (by omega)]; exact hl, by rw [fM 1 1 0 4 (by omega), a₅ 1 1 0 4 (by omega) (by omega)]; exact ru.2.2.1, ru.2.2.2⟩
  have cM : ccCx M b L e p₁ := ccCx_fr a₃ (fun j q _ => fM 2 1 j q (by omega)) (fun q _ => fM 2 4 0 q (by omega)) (fun q _ => fM 2 3 0 q (by omega))
  obtain ⟨m₂, p₂, s₂, d₁, d₂, d₃, d₄, _, d₅⟩ := kwRdN (lo := 0) (v := y) (hC := N (w - x) - N 1) cM a₄ k (by omega) (by omega) (by rw [N_sub (by omega), N_le (by omega) (by omega)]; omega)
  refine ⟨mset m₂ 2 3 0 6 (N y), p₂, fun rs => ?_, ?_, ?_, ?_, d₄, fun f a j i g₁ g₂ => ?_⟩
  · unfold F74
    rw [hl, a₁, ccBi, ccIf1, a₂, ← hM, ccE80 ruM (by omega), if_pos h₂, ccBi, d₁, ccBi, ccIf1, d₂]
  · rw [ccRd, if_neg (by omega), d₅ 2 3 0 5 (by omega) (by omega), hM, ccRd, if_pos ⟨rfl, rfl, rfl, rfl⟩]
  · rw [ccRd, if_pos ⟨rfl, rfl, rfl, rfl⟩]
  · exact ccCx_fr d₃ (fun j q _ => by rw [ccRd, if_neg (by omega)]) (fun q _ => by rw [ccRd, if_neg (by omega)]) (fun q _ => by rw [ccRd, if_neg (by omega)])
  · rw [ccRd, if_neg (by omega), d₅ f a j i g₁ (by omega), fM f a j i (by omega), a₅ f a j i g₁ (by omega)]
/-- the class reads a card of the hand -/
theorem kwFwA {m : mMi} {b : Nat → Nat} {L e p n a : Nat} {x₁ : Int32} {t : List Nat} (c : ccCx m b L e p) (tl : kwTl b L p ([32] ++ ([97 + a] ++ t))) (k : kwSep t) (h₁ : m 1 1 0 4 = N n) (hn : n ≤ 20) (h₂ : ∀ k, k < n → m 1 1 2 k = N (k + 1)) (ha : a < n) (h₃ : N a ≠ x₁) (h₄ : m 0 2 13 a = I (-1)) : ∃ m₁ p₁, (∀ rs, F75 x₁ m rs = rI (N a) m₁ rs) ∧ ccCx m₁ b L e p₁ ∧ kwTl b L p₁ t ∧ ccFc0 m m₁ := by
  obtain ⟨m₁, p₁, s₁, a₁, a₂, a₃, a₄, a₅, _, a₆⟩ := kwRdL c tl k (by omega)
  have n₁ : m₁ 1 1 0 4 = N n := by rw [a₆ 1 1 0 4 (by omega) (by omega)]; exact h₁
  have fs : ccFst (fun k => decide (m₁ 1 1 2 k = N (a + 1))) n 0 = N a := by
    have e₁ : ∀ k, k < n → m₁ 1 1 2 k = N (k + 1) := fun k y => by rw [a₆ 1 1 2 k (by omega) (by omega)]; exact h₂ k y
    rcases ccFst_is (f := fun k => decide (m₁ 1 1 2 k = N (a + 1))) n 0 with y | ⟨q, y₁, y₂, y₃, y₄⟩
    · have y₅ := ccFst_no n 0 y (by omega) a (by omega) (by omega)
      have y₆ : decide (m₁ 1 1 2 a = N (a + 1)) = true := decide_eq_true (e₁ a ha)
      rw [y₆] at y₅
      cases y₅
    · have y₅ : m₁ 1 1 2 q = N (a + 1) := of_decide_eq_true y₄
      rw [e₁ q (by omega), N_eq (by omega) (by omega)] at y₅
      have y₆ : q = a := by omega
      rw [y₁, y₆]
  have h₅ : m₁ 0 2 13 a = I (-1) := by rw [a₆ 0 2 13 a (by omega) (by omega)]; exact h₄
  have g₁ : ¬ N a = I (-1) := ccNI1 (by omega)
  refine ⟨m₁, p₁, fun rs => ?_, a₄, a₅, a₆⟩
  unfold F75
  rw [a₁, ccBv, a₂, ccIte, if_pos rfl, a₃, ccE79 n₁ (by omega), fs, ccBi, ccIte, if_neg g₁, ccIte, if_neg h₃, ccE2 (by omega), decide_eq_true h₅, ccBi, ccT_t, ccIf1]
theorem kwLeanT {mc mw : mMi} {B w l n lm dp cl bd h t L c : Nat} {β wt : Nat → Int32} {W : Nat → Nat} {bx : Bool} (q : kwJ mc mw 2 B w l n lm dp cl bd β wt W bx h t) (h₁ : L < l) (h₂ : L + c < w) (h₃ : mw 20 B L c = I (-1)) (h₄ : 1 ≤ L → mw 24 B L c ≠ I (-1)) : ccMayLean (mc 0 2) w l L c = true := by
  have b₁ : w ≤ 12 := q.2.1.2.2.2.2.2.2.2.2.1
  have b₂ : l ≤ 8 := q.2.1.2.2.2.2.2.2.2.2.2.2.1
  obtain ⟨g₁, g₂, _⟩ := q.2.2.1.1 L c (by omega) (by omega)
  rw [g₁] at h₃
  rw [g₂] at h₄
  have y₁ : ccPl w l L c = true := by
    unfold ccPl
    rw [decide_eq_true h₁, decide_eq_true h₂]
    rfl
  unfold ccMayLean ccHP ccHF ccP ccF
  rw [y₁, decide_eq_true h₃]
  by_cases g : L = 0
  · rw [decide_eq_true g]
    rfl
  · rw [decide_eq_false g, decide_eq_false (h₄ (by omega))]
    rfl
theorem kwLayT {mc mw : mMi} {B w l n lm dp cl bd h t L c : Nat} {β wt : Nat → Int32} {W : Nat → Nat} {bx : Bool} (q : kwJ mc mw 2 B w l n lm dp cl bd β wt W bx h t) (h₁ : L < l) (h₂ : L + c < w) (h₀ : 1 ≤ L) (h₃ : mw 24 B L c = I (-1)) (h₄ : mw 20 B (L - 1) c ≠ I (-1)) (h₅ : mw 20 B (L - 1) (c + 1) ≠ I (-1)) : ccMayLay (mc 0 2) w l L c = true := by
  have b₁ : w ≤ 12 := q.2.1.2.2.2.2.2.2.2.2.1
  have b₂ : l ≤ 8 := q.2.1.2.2.2.2.2.2.2.2.2.2.1
  cases L with
  | zero => omega
  | succ K =>
    have e : K + 1 - 1 = K := by omega
    rw [e] at h₄ h₅
    obtain ⟨_, g₂, _⟩ := q.2.2.1.1 (K + 1) c (by omega) (by omega)
    obtain ⟨g₃, _, _⟩ := q.2.2.1.1 K c (by omega) (by omega)
    obtain ⟨g₄, _, _⟩ := q.2.2.1.1 K (c + 1) (by omega) (by omega)
    rw [g₂] at h₃
    rw [g₃] at h₄
    rw [g₄] at h₅
    have y₁ : ccPl w l (K + 1) c = true := by
      unfold ccPl
      rw [decide_eq_true h₁, decide_eq_true h₂]
      rfl
    have y₂ : ccPl w l K c = true := by
      unfold ccPl
      rw [decide_eq_true (show K < l by omega), decide_eq_true (show K + c < w by omega)]
      rfl
    have y₃ : ccPl w l K (c + 1) = true := by
      unfold ccPl
      rw [decide_eq_true (show K < l by omega), decide_eq_true (show K + (c + 1) < w by omega)]
      rfl
    show (ccPl w l (K + 1) c && !(ccHF (mc 0 2) w l (K + 1) c) && ccHP (mc 0 2) w l K c && ccHP (mc 0 2) w l K (c + 1)) = true
    unfold ccHP ccHF ccP ccF
    rw [y₁, y₂, y₃, decide_eq_true h₃, decide_eq_false h₄, decide_eq_false h₅]
    rfl
theorem kwHeld2 {mc mw : mMi} {B w l n lm dp cl bd h k : Nat} {β wt : Nat → Int32} {W : Nat → Nat} {bx : Bool} (q : kwJ mc mw 2 B w l n lm dp cl bd β wt W bx h 0) (y₁ : k < n) (y₂ : mw 6 B 4 k = N 0) : mc 0 2 13 k = I (-1) := by
  rcases (q.2.2.1.2.1 k y₁).2 with y | y
  · exact absurd y kwXno
  · rcases y with ⟨_, y₃⟩ | ⟨y₃, _⟩ | ⟨L, c, _, _, _, _, _, y₄⟩
    · exact y₃
    · rw [y₂] at y₃
      exact absurd y₃ (by decide)
    · rcases y₄ with ⟨y₅, _⟩ | ⟨y₅, _⟩
      · rw [y₂] at y₅
        exact absurd y₅ (by decide)
      · rw [y₂] at y₅
        exact absurd y₅ (by decide)
/-- pairs stand still, at an angle that may be -/
def kwNg (C : Nat → Nat → Int32) : Prop := ∀ p, p < 96 → C 2 p ≠ I (-1) → (∃ a, C 4 p = N a ∧ 20 ≤ a ∧ a ≤ 70) ∧ C 5 p = N 0
/-- a line of a pair, behind its semicolon -/
theorem kwFwLn {m mw : mMi} {b : Nat → Nat} {L e p B w l n lm dp cl bd h x y a d g z : Nat} {β wt : Nat → Int32} {W : Nat → Nat} {bx : Bool} {t : List Nat} (k : kwSep t) (c : ccCx m b L e p) (tl : kwTl b L p ([108, 101, 97, 110] ++ ([32] ++ (ccNl x ++ ([32] ++ (ccNl y ++ ([32] ++ ([97 + a] ++ ([32] ++ ([97 + d] ++ ([32] ++ (ccNl g ++ t)))))))))))) (q : kwJ m mw 2 B w l n lm dp cl bd β wt W bx h 0) (hn : n ≤ 20) (nm : ∀ k, k < n → m 1 1 2 k = N (k + 1)) (ok : kwOpOk B w l n (z, x, y, a, d, g) mw) (hz : z = 0) : ∃ m₁ p₁, (∀ rs, F71 m rs = rI (N 1) m₁ rs) ∧ ccCx m₁ b L e p₁ ∧ kwTl b L p₁ t ∧ kwJ m₁ (kwOpM B (z, x, y, a, d, g) mw) 2 B w l n lm dp cl bd β wt W bx h 0 ∧ (∀ j p, m₁ 1 1 j p = m 1 1 j p) ∧ ccFrc m m₁ ∧ (kwNg (m 0 2) → kwNg (m₁ 0 2)) := by
  have ok₀ := ok
  obtain ⟨⟨o₁, o₂, o₃, o₄⟩, o₅, _⟩ := ok
  obtain ⟨o₆, o₇, o₈, o₉, o₁₀, o₁₁, o₁₂⟩ := o₅ hz
  have o₁ : x < l := o₁
  have o₂ : x + y < w := o₂
  have o₃ : a < n := o₃
  have o₆ : d < n := o₆
  have o₇ : d ≠ a := o₇
  have o₉ : 20 ≤ g := o₉
  have o₁₀ : g ≤ 70 := o₁₀
  have b₁ : w ≤ 12 := q.2.1.2.2.2.2.2.2.2.2.1
  have b₂ : l ≤ 8 := q.2.1.2.2.2.2.2.2.2.2.2.2.1
  obtain ⟨m₁, p₁, a₁, a₂, a₃, a₄, a₅⟩ := kwRdW c tl (Or.inl rfl) (by show 1 ≤ 4; omega) (by show 4 ≤ 6; omega) (by decide)
  have w₂ : (decide (([108, 101, 97, 110] : List Nat).length = (mTxt 2).length) && ccWq (mTxt 2) (fun i => ([108, 101, 97, 110] : List Nat).getD i 0) (mTxt 2).length 0) = false := by decide
  have w₃ : (decide (([108, 101, 97, 110] : List Nat).length = (mTxt 3).length) && ccWq (mTxt 3) (fun i => ([108, 101, 97, 110] : List Nat).getD i 0) (mTxt 3).length 0) = true := by decide
  have v₂ := a₂ 2 (by omega)
  have v₃ := a₂ 3 (by omega)
  have q₁ : kwJ m₁ mw 2 B w l n lm dp cl bd β wt W bx h 0 := kwJ_c2 q (by funext j i; exact a₅ 0 2 j i (by omega) (by omega)) (fun j i => a₅ 1 1 j i (by omega) (by omega))
  obtain ⟨mm, j₁⟩ := q₁.1
  have ru₁ : ccRu m₁ 1 w l n := j₁.1.1
  obtain ⟨m₂, p₂, d₁, d₂, d₃, d₄, d₅, d₆⟩ := kwFwP (lo := 0) a₃ a₄ (Or.inl rfl) ru₁ (by omega) o₁ o₂
  have q₂ : kwJ m₂ mw 2 B w l n lm dp cl bd β wt W bx h 0 := kwJ_c2 q₁ (by funext j i; exact d₆ 0 2 j i (by omega) (by omega)) (fun j i => d₆ 1 1 j i (by omega) (by omega))
  obtain ⟨mm₂, j₂⟩ := q₂.1
  have ru₂ : ccRu m₂ 1 w l n := j₂.1.1
  have n₂ : ∀ k, k < n → m₂ 1 1 2 k = N (k + 1) := fun k y => by rw [d₆ 1 1 2 k (by omega) (by omega), a₅ 1 1 2 k (by omega) (by omega)]; exact nm k y
  have ml := kwLeanT q₂ o₁ o₂ o₁₁ o₁₂
  obtain ⟨m₃, p₃, e₁, e₂, e₃, e₄⟩ := kwFwA (x₁ := I (-1)) d₄ d₅ (Or.inl rfl) ru₂.2.2.1 hn n₂ o₃ (ccNI1 (by omega)) (kwHeld2 q₂ o₃ o₄)
  have q₃ : kwJ m₃ mw 2 B w l n lm dp cl bd β wt W bx h 0 := kwJ_c2 q₂ (by funext j i; exact e₄ 0 2 j i (by omega) (by omega)) (fun j i => e₄ 1 1 j i (by omega) (by omega))
  obtain ⟨mm₃, j₃⟩ := q₃.1
  have ru₃ : ccRu m₃ 1 w l n := j₃.1.1
  obtain ⟨m₄, p₄, f₁, f₂, f₃, f₄⟩ := kwFwA (x₁ := N a) e₂ e₃ (Or.inl rfl) ru₃.2.2.1 hn (fun k y => by rw [e₄ 1 1 2 k (by omega) (by omega)]; exact n₂ k y) o₆ (by rw [ne_eq, N_eq (by omega) (by omega)]; exact o₇) (kwHeld2 q₃ o₆ o₈)
  have q₄ : kwJ m₄ mw 2 B w l n lm dp cl bd β wt W bx h 0 := kwJ_c2 q₃ (by funext j i; exact f₄ 0 2 j i (by omega) (by omega)) (fun j i => f₄ 1 1 j i (by omega) (by omega))
  obtain ⟨m₅, p₅, s₅, g₁, g₂, g₃, g₄, _, g₅⟩ := kwRdN (lo := 20) (v := g) (hC := N 70) f₂ f₃ k (by omega) o₉ (by rw [N_le (by omega) (by omega)]; exact o₁₀)
  have q₅ : kwJ m₅ mw 2 B w l n lm dp cl bd β wt W bx h 0 := kwJ_c2 q₄ (by funext j i; exact g₅ 0 2 j i (by omega) (by omega)) (fun j i => g₅ 1 1 j i (by omega) (by omega))
  obtain ⟨mm₅, j₅⟩ := q₅.1
  have ru₅ : ccRu m₅ 1 w l n := j₅.1.1
  have y5 : m₅ 2 3 0 5 = N x := by rw [g₅ 2 3 0 5 (by omega) (by omega), f₄ 2 3 0 5 (by omega) (by omega), e₄ 2 3 0 5 (by omega) (by omega)]; exact d₂
  have y6 : m₅ 2 3 0 6 = N y := by rw [g₅ 2 3 0 6 (by omega) (by omega), f₄ 2 3 0 6 (by omega) (by omega), e₄ 2 3 0 6 (by omega) (by omega)]; exact d₃
  have y7 : ∀ rs, F81 1 (N x) (N y) m₅ rs = rI (N (12 * x + y)) m₅ rs := fun rs => by
    have y₁ := ccE81 (rs := rs) (L := x) (c := y) ru₅ (by omega) (by omega)
    have y₂ : ccSp w l x y = N (12 * x + y) := by
      unfold ccSp
      rw [if_pos ⟨o₁, o₂⟩]
    rw [y₂] at y₁
    exact y₁
  have J := (kwJ_op q₅ ok₀).1 hz
  obtain ⟨G, hG⟩ : ∃ G, G = mset (mset (mset (mset (mset (mset m₅ 0 2 2 (12 * x + y) (N a)) 0 2 3 (12 * x + y) (N d)) 0 2 4 (12 * x + y) (N g)) 0 2 5 (12 * x + y) (N 0)) 0 2 13 a (N (12 * x + y))) 0 2 13 d (N (12 * x + y)) := ⟨_, rfl⟩
  have fG : ∀ f u j i, ¬ (f = 0 ∧ u = 2) → G f u j i = m₅ f u j i := fun f u j i y₁ => by rw [hG, ccRd, if_neg (by omega), ccRd, if_neg (by omega), ccRd, if_neg (by omega), ccRd, if_neg (by omega), ccRd, if_neg (by omega), ccRd, if_neg (by omega)]
  refine ⟨G, p₅, fun rs => ?_, ?_, g₄, ?_, fun j i => ?_, fun f u j i y₁ y₂ y₃ y₄ => ?_, fun ng i y₁ y₂ => ?_⟩
  · unfold F71
    rw [a₁, ccBv, v₂, w₂, ccBi, ccT_f, ccIte, if_pos rfl, v₃, w₃, ccBi, ccT_t, ccIte, if_neg (show ¬ N 1 = N 0 by decide)]
    unfold F73
    rw [d₁, ccBi, ccIf1, d₂, d₃, ccE12 ru₂ (by omega) (by omega), ml, ccBi, ccT_t, ccIf1, e₁, ccBi, ccIte, if_pos (show N a ≠ I (-1) from ccNI1 (by omega)), f₁, ccBi, ccIte, if_neg (show ¬ N d = I (-1) from ccNI1 (by omega)), g₁, ccBi, ccIf1, y5, y6, y7, ccBi, g₂, ccE15 (by omega) (by omega) (by omega), ccBv, ← hG]
    rfl
  · rw [hG]
    exact kwCx_s (kwCx_s (kwCx_s (kwCx_s (kwCx_s (kwCx_s g₃ (by omega)) (by omega)) (by omega)) (by omega)) (by omega)) (by omega)
  · rw [hG]
    exact J
  · rw [fG 1 1 j i (by omega), g₅ 1 1 j i (by omega) (by omega), f₄ 1 1 j i (by omega) (by omega), e₄ 1 1 j i (by omega) (by omega), d₆ 1 1 j i (by omega) (by omega), a₅ 1 1 j i (by omega) (by omega)]
  · rw [fG f u j i (by omega), g₅ f u j i y₁ (by omega), f₄ f u j i y₁ (by omega), e₄ f u j i y₁ (by omega), d₆ f u j i y₁ y₂, a₅ f u j i y₁ (by omega)]
  · by_cases z₁ : i = 12 * x + y
    · refine ⟨⟨g, ?_, o₉, o₁₀⟩, ?_⟩
      · rw [hG, ccRd, if_neg (by omega), ccRd, if_neg (by omega), ccRd, if_neg (by omega), ccRd, if_pos ⟨rfl, rfl, rfl, z₁⟩]
      · rw [hG, ccRd, if_neg (by omega), ccRd, if_neg (by omega), ccRd, if_pos ⟨rfl, rfl, rfl, z₁⟩]
    · have z₂ : ∀ j, j < 13 → G 0 2 j i = m 0 2 j i := fun j z₃ => by
        rw [hG, ccRd, if_neg (by omega), ccRd, if_neg (by omega), ccRd, if_neg (by omega), ccRd, if_neg (by omega), ccRd, if_neg (by omega), ccRd, if_neg (by omega), g₅ 0 2 j i (by omega) (by omega), f₄ 0 2 j i (by omega) (by omega), e₄ 0 2 j i (by omega) (by omega), d₆ 0 2 j i (by omega) (by omega), a₅ 0 2 j i (by omega) (by omega)]
      rw [z₂ 2 (by omega)] at y₂
      rw [z₂ 4 (by omega), z₂ 5 (by omega)]
      exact ng i y₁ y₂
/-- a line of a flat card, behind its semicolon -/
theorem kwFwLy {m mw : mMi} {b : Nat → Nat} {L e p B w l n lm dp cl bd h x y a d g z : Nat} {β wt : Nat → Int32} {W : Nat → Nat} {bx : Bool} {t : List Nat} (k : kwSep t) (c : ccCx m b L e p) (tl : kwTl b L p ([108, 97, 121] ++ ([32] ++ (ccNl x ++ ([32] ++ (ccNl y ++ ([32] ++ ([97 + a] ++ t)))))))) (q : kwJ m mw 2 B w l n lm dp cl bd β wt W bx h 0) (hn : n ≤ 20) (nm : ∀ k, k < n → m 1 1 2 k = N (k + 1)) (ok : kwOpOk B w l n (z, x, y, a, d, g) mw) (hz : z ≠ 0) : ∃ m₁ p₁, (∀ rs, F71 m rs = rI (N 1) m₁ rs) ∧ ccCx m₁ b L e p₁ ∧ kwTl b L p₁ t ∧ kwJ m₁ (kwOpM B (z, x, y, a, d, g) mw) 2 B w l n lm dp cl bd β wt W bx h 0 ∧ (∀ j p, m₁ 1 1 j p = m 1 1 j p) ∧ ccFrc m m₁ ∧ (kwNg (m 0 2) → kwNg (m₁ 0 2)) := by
  have ok₀ := ok
  obtain ⟨⟨o₁, o₂, o₃, o₄⟩, _, o₅⟩ := ok
  obtain ⟨o₆, o₇, o₈, o₉⟩ := o₅ hz
  have o₁ : x < l := o₁
  have o₂ : x + y < w := o₂
  have o₃ : a < n := o₃
  have o₆ : 1 ≤ x := o₆
  have b₁ : w ≤ 12 := q.2.1.2.2.2.2.2.2.2.2.1
  have b₂ : l ≤ 8 := q.2.1.2.2.2.2.2.2.2.2.2.2.1
  obtain ⟨m₁, p₁, a₁, a₂, a₃, a₄, a₅⟩ := kwRdW c tl (Or.inl rfl) (by show 1 ≤ 3; omega) (by show 3 ≤ 6; omega) (by decide)
  have w₂ : (decide (([108, 97, 121] : List Nat).length = (mTxt 2).length) && ccWq (mTxt 2) (fun i => ([108, 97, 121] : List Nat).getD i 0) (mTxt 2).length 0) = false := by decide
  have w₃ : (decide (([108, 97, 121] : List Nat).length = (mTxt 3).length) && ccWq (mTxt 3) (fun i => ([108, 97, 121] : List Nat).getD i 0) (mTxt 3).length 0) = false := by decide
  have w₄ : (decide (([108, 97, 121] : List Nat).length = (mTxt 4).length) && ccWq (mTxt 4) (fun i => ([108, 97, 121] : List Nat).getD i 0) (mTxt 4).length 0) = true := by decide
  have v₂ := a₂ 2 (by omega)
  have v₃ := a₂ 3 (by omega)
  have v₄ := a₂ 4 (by omega)
  have q₁ : kwJ m₁ mw 2 B w l n lm dp cl bd β wt W bx h 0 := kwJ_c2 q (by funext j i; exact a₅ 0 2 j i (by omega) (by omega)) (fun j i => a₅ 1 1 j i (by omega) (by omega))
  obtain ⟨mm, j₁⟩ := q₁.1
  have ru₁ : ccRu m₁ 1 w l n := j₁.1.1
  obtain ⟨m₂, p₂, d₁, d₂, d₃, d₄, d₅, d₆⟩ := kwFwP (lo := 1) a₃ a₄ (Or.inl rfl) ru₁ o₆ o₁ o₂
  have q₂ : kwJ m₂ mw 2 B w l n lm dp cl bd β wt W bx h 0 := kwJ_c2 q₁ (by funext j i; exact d₆ 0 2 j i (by omega) (by omega)) (fun j i => d₆ 1 1 j i (by omega) (by omega))
  obtain ⟨mm₂, j₂⟩ := q₂.1
  have ru₂ : ccRu m₂ 1 w l n := j₂.1.1
  have n₂ : ∀ k, k < n → m₂ 1 1 2 k = N (k + 1) := fun k y => by rw [d₆ 1 1 2 k (by omega) (by omega), a₅ 1 1 2 k (by omega) (by omega)]; exact nm k y
  have ml := kwLayT q₂ o₁ o₂ o₆ o₇ o₈ o₉
  obtain ⟨m₃, p₃, e₁, e₂, e₃, e₄⟩ := kwFwA (x₁ := I (-1)) d₄ d₅ k ru₂.2.2.1 hn n₂ o₃ (ccNI1 (by omega)) (kwHeld2 q₂ o₃ o₄)
  have q₃ : kwJ m₃ mw 2 B w l n lm dp cl bd β wt W bx h 0 := kwJ_c2 q₂ (by funext j i; exact e₄ 0 2 j i (by omega) (by omega)) (fun j i => e₄ 1 1 j i (by omega) (by omega))
  obtain ⟨mm₃, j₃⟩ := q₃.1
  have ru₃ : ccRu m₃ 1 w l n := j₃.1.1
  have y5 : m₃ 2 3 0 5 = N x := by rw [e₄ 2 3 0 5 (by omega) (by omega)]; exact d₂
  have y6 : m₃ 2 3 0 6 = N y := by rw [e₄ 2 3 0 6 (by omega) (by omega)]; exact d₃
  have y7 : ∀ rs, F81 1 (N x) (N y) m₃ rs = rI (N (12 * x + y)) m₃ rs := fun rs => by
    have y₁ := ccE81 (rs := rs) (L := x) (c := y) ru₃ (by omega) (by omega)
    have y₂ : ccSp w l x y = N (12 * x + y) := by
      unfold ccSp
      rw [if_pos ⟨o₁, o₂⟩]
    rw [y₂] at y₁
    exact y₁
  have J := (kwJ_op q₃ ok₀).2 hz
  obtain ⟨G, hG⟩ : ∃ G, G = mset (mset m₃ 0 2 6 (12 * x + y) (N a)) 0 2 13 a (N (12 * x + y)) := ⟨_, rfl⟩
  have fG : ∀ f u j i, ¬ (f = 0 ∧ u = 2) → G f u j i = m₃ f u j i := fun f u j i y₁ => by rw [hG, ccRd, if_neg (by omega), ccRd, if_neg (by omega)]
  refine ⟨G, p₃, fun rs => ?_, ?_, e₃, ?_, fun j i => ?_, fun f u j i y₁ y₂ y₃ y₄ => ?_, fun ng i y₁ y₂ => ?_⟩
  · unfold F71
    rw [a₁, ccBv, v₂, w₂, ccBi, ccT_f, ccIte, if_pos rfl, v₃, w₃, ccBi, ccT_f, ccIte, if_pos rfl, v₄, w₄, ccBi, ccT_t, ccIte, if_neg (show ¬ N 1 = N 0 by decide)]
    unfold F76
    rw [d₁, ccBi, ccIf1, d₂, d₃, ccE16 ru₂ (by omega) (by omega), ml, ccBi, ccT_t, ccIf1, e₁, ccBi, ccIte, if_pos (show N a ≠ I (-1) from ccNI1 (by omega)), y5, y6, y7, ccBi, ccE17 (by omega) (by omega), ccBv, ← hG]
    rfl
  · rw [hG]
    exact kwCx_s (kwCx_s e₂ (by omega)) (by omega)
  · rw [hG]
    exact J
  · rw [fG 1 1 j i (by omega), e₄ 1 1 j i (by omega) (by omega), d₆ 1 1 j i (by omega) (by omega), a₅ 1 1 j i (by omega) (by omega)]
  · rw [fG f u j i (by omega), e₄ f u j i y₁ (by omega), d₆ f u j i y₁ y₂, a₅ f u j i y₁ (by omega)]
  · have z₂ : ∀ j, j < 6 → G 0 2 j i = m 0 2 j i := fun j z₃ => by
      rw [hG, ccRd, if_neg (by omega), ccRd, if_neg (by omega), e₄ 0 2 j i (by omega) (by omega), d₆ 0 2 j i (by omega) (by omega), a₅ 0 2 j i (by omega) (by omega)]
    rw [z₂ 2 (by omega)] at y₂
    rw [z₂ 4 (by omega), z₂ 5 (by omega)]
    exact ng i y₁ y₂
