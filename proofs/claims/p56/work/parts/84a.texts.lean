/-! LOOKS: the texts of the class. -/
def kwFv (m M : mMi) : Prop := ∀ f a j p, ¬ (f = 0 ∧ a = 1) → ¬ (f = 2 ∧ (a = 2 ∨ a = 7)) → M f a j p = m f a j p
theorem kwFv_0 {m M : mMi} (h : kwFv m M) : M 0 0 = m 0 0 := by
  funext j p
  exact h 0 0 j p (by omega) (by omega)
theorem kwFv_rfl {m : mMi} : kwFv m m := fun _ _ _ _ _ _ => rfl
theorem kwFv_trans {m m₁ m₂ : mMi} (h₁ : kwFv m m₁) (h₂ : kwFv m₁ m₂) : kwFv m m₂ := fun f a j p g₁ g₂ => Eq.trans (h₂ f a j p g₁ g₂) (h₁ f a j p g₁ g₂)
theorem kwFv_s {m M : mMi} (h : ccFs m M) : kwFv m M := fun f a j p _ g => h f a j p (by omega)
theorem kwI_v {m m₁ : mMi} {r : mRs} {B w l n lm dp cl bd T Z D : Nat} {β : Nat → Int32} {W : Nat → Nat} (q : kwI m r B w l n lm dp cl bd β W T Z D) (h : kwFv m m₁) : kwI m₁ r B w l n lm dp cl bd β W T Z D := by
  obtain ⟨q₁, q₂, ⟨i, q₃, q₆⟩, q₄, q₅⟩ := q
  exact ⟨kwT_cg q₁ (kwFv_0 h) (fun j p => h 1 0 j p (by omega) (by omega)) (h 2 0 0 10 (by omega) (by omega)) (fun p => h 2 5 0 p (by omega) (by omega)) (fun f j p g => h f B j p (by omega) (by omega)), kwZ_cg (h 0 0 0 5 (by omega) (by omega)) q₂, ⟨i, by rw [h 7 0 0 1 (by omega) (by omega)]; exact q₃, q₆⟩, q₄, q₅⟩
theorem kwE152 {m : mMi} {r : mRs} {B w l n lm dp cl bd T Z D L : Nat} {β : Nat → Int32} {W : Nat → Nat} (q : kwI m r B w l n lm dp cl bd β W T Z D) (h₁ : L < l) : ∃ M, (∀ rs, F152 (N L) m rs = rI (N (w - L)) M rs) ∧ kwTxt M (ccLvl (m 0 0) w l L (w - L) 0) ∧ kwFv m M := by
  obtain ⟨h₀, qr⟩ := kwI_0 q
  have b₁ : w ≤ 12 := qr.2.2.2.2.1
  have b₂ : l ≤ 8 := qr.2.2.2.2.2.2.1
  have l₁ : m 1 0 1 1 = N l := qr.2.1
  obtain ⟨X, hX⟩ : ∃ y, y = mset m 2 7 0 1 (N 0) := ⟨_, rfl⟩
  have xs : ∀ f a j p, ¬ (f = 2 ∧ a = 7) → X f a j p = m f a j p := fun f a j p y₁ => by rw [hX, ccRd, if_neg (by omega)]
  have qX : ccRu X 0 w l n := ⟨by rw [xs 1 0 1 0 (by omega)]; exact qr.1, by rw [xs 1 0 1 1 (by omega)]; exact qr.2.1, by rw [xs 1 0 0 4 (by omega)]; exact qr.2.2.1, qr.2.2.2⟩
  have cX : X 0 0 = m 0 0 := by
    funext j p
    exact xs 0 0 j p (by omega)
  have x₁ : X 2 7 0 1 = N 0 := by rw [hX, ccRd, if_pos ⟨rfl, rfl, rfl, rfl⟩]
  obtain ⟨g, hg⟩ := ccFU (k := w - L) (by omega)
  obtain ⟨t, ht⟩ : ∃ t, t = ccLvl (m 0 0) w l L (w - L) 0 := ⟨_, rfl⟩
  have tl : t.length = w - L := by rw [ht, ccLvl_len]
  have wr := ccL152 qX h₁ (w - L) 0 g (by omega)
  rw [cX, ← ht] at wr
  rw [← ht]
  refine ⟨ccTwL t X 0, fun rs => ?_, kwTxt_w x₁ (by omega), fun f a j p y₁ y₂ => by rw [ccTwL_o _ _ _ _ _ _ _ (by omega), xs f a j p (by omega)]⟩
  have z := wr X 0 rs (fun _ _ _ _ _ => rfl) x₁ (by omega)
  rw [Nat.zero_add, tl] at z
  unfold F152
  rw [kwE114 h₀, ccBv, l₁, ccE106 (by omega) (by omega), if_pos h₁, ccBv, ← hX, hg]
  exact z
theorem kwE153n {m : mMi} {r : mRs} {B w l n lm dp cl bd T Z D L c : Nat} {β : Nat → Int32} {W : Nat → Nat} (q : kwI m r B w l n lm dp cl bd β W T Z D) (e₃ : L < l) (e₄ : L + c < w) (g : ccHP (m 0 0) w l L c = false) : ∃ M, (∀ rs, F153 (N L) (N c) m rs = rI (N 1) M rs) ∧ kwTxt M [45] ∧ kwFv m M := by
  obtain ⟨h₀, qr⟩ := kwI_0 q
  have b₁ : w ≤ 12 := qr.2.2.2.2.1
  have b₂ : l ≤ 8 := qr.2.2.2.2.2.2.1
  obtain ⟨X, hX⟩ : ∃ y, y = mset m 2 7 0 1 (N 0) := ⟨_, rfl⟩
  have xs : ∀ f a j p, ¬ (f = 2 ∧ a = 7) → X f a j p = m f a j p := fun f a j p y₁ => by rw [hX, ccRd, if_neg (by omega)]
  have cX : X 0 0 = m 0 0 := by
    funext j p
    exact xs 0 0 j p (by omega)
  have x₁ : X 2 7 0 1 = N 0 := by rw [hX, ccRd, if_pos ⟨rfl, rfl, rfl, rfl⟩]
  refine ⟨ccTwL [45] X 0, fun rs => ?_, kwTxt_w x₁ (by decide), fun f a j p y₁ y₂ => by rw [ccTwL_o _ _ _ _ _ _ _ (by omega), xs f a j p (by omega)]⟩
  have wr : ccWR X (fun m r => bV (F88 (N 45) m r) (fun m r => rI (m 2 7 0 1) m r)) ([45] ++ []) := ccWR_w (ccW_1 (by omega)) ccWR_0
  have z := wr X 0 rs (fun _ _ _ _ _ => rfl) x₁ (by show 0 + 1 ≤ 240; omega)
  unfold F153
  rw [ccE122t h₀ qr e₃ e₄, ccBv, ccE81 qr (by omega) (by omega), ccBi, ← hX, ccE51s b₁ b₂, cX, g, ccBi, ccT_f, ccIf0]
  exact z
/-- names of one letter -/
def kwNms (m : mMi) (n : Nat) : Prop := n ≤ 20 ∧ ∀ k, k < n → m 1 0 2 k = N (k + 1)
/-- the text of a pair -/
def kwPt (a b u x v : Nat) : List Nat := [97 + a] ++ ([47] ++ (ccNl u ++ ([92] ++ ([97 + b] ++ ([32] ++ (ccNl x ++ ([58] ++ (ccNl v ++ []))))))))
theorem kwPt_e {a b u x v : Nat} : ccPairT (fun _ => 97 + a) (fun _ => 97 + b) 1 1 u x v = kwPt a b u x v := rfl
theorem kwPt_l {a b u x v : Nat} (h₁ : u < 1000) (h₂ : x < 1000) (h₃ : v < 1000) : (kwPt a b u x v).length ≤ 15 := by
  have y₁ := (kwNl_l h₁).2
  have y₂ := (kwNl_l h₂).2
  have y₃ := (kwNl_l h₃).2
  have z : (kwPt a b u x v).length = 1 + (1 + ((ccNl u).length + (1 + (1 + (1 + ((ccNl x).length + (1 + ((ccNl v).length + 0)))))))) := by
    unfold kwPt
    rw [List.length_append, List.length_append, List.length_append, List.length_append, List.length_append, List.length_append, List.length_append, List.length_append, List.length_append]
    rfl
  omega
/-- a pair's cards, angle and strength -/
theorem kwI_p {m : mMi} {r : mRs} {B w l n lm dp cl bd T Z D p : Nat} {β : Nat → Int32} {W : Nat → Nat} (q : kwI m r B w l n lm dp cl bd β W T Z D) (h₁ : p < 96) (g : m 0 0 2 p ≠ I (-1)) : ∃ a b u v, m 0 0 2 p = N a ∧ m 0 0 3 p = N b ∧ a < n ∧ b < n ∧ m 0 0 4 p = N u ∧ u ≤ 70 ∧ ccStp (m 0 0) p = N v ∧ v ≤ 72 := by
  obtain ⟨h, t, j₀, c₀⟩ := q.1
  obtain ⟨mm, q₀⟩ := j₀.1
  have q₁ := q₀.1.2.2.2.2.2.1
  have b₃ : n ≤ 40 := q₀.1.1.2.2.2.2.2.2.2
  have q₅ : ccQn (N lm) (m 0 0) := c₀.2.2.2.2.1
  obtain ⟨ka, kb, k₁, k₂, k₃, k₄, k₅, _⟩ := q₁.2.1.1 _ h₁ g
  obtain ⟨⟨u, u₁, u₂, u₃⟩, _⟩ := q₅.2 _ h₁ g
  obtain ⟨v, v₁, v₂⟩ := ccStp_b q₁ q₅.2 b₃ h₁ g
  exact ⟨ka, kb, u, v, k₄, k₅, k₁, k₂, u₁, u₃, v₁, v₂⟩
theorem kwE153 {m : mMi} {r : mRs} {B w l n lm dp cl bd T Z D L c a b u v : Nat} {β : Nat → Int32} {W : Nat → Nat} (q : kwI m r B w l n lm dp cl bd β W T Z D) (nm : kwNms m n) (e₃ : L < l) (e₄ : L + c < w) (g : ccHP (m 0 0) w l L c = true) (k₄ : m 0 0 2 (12 * L + c) = N a) (k₅ : m 0 0 3 (12 * L + c) = N b) (k₁ : a < n) (k₂ : b < n) (u₁ : m 0 0 4 (12 * L + c) = N u) (u₃ : u ≤ 70) (v₁ : ccStp (m 0 0) (12 * L + c) = N v) (v₂ : v ≤ 72) : ∃ M, (∀ rs, F153 (N L) (N c) m rs = rI (N (kwPt a b u (ccPL W (m 0 0) w l (7 - L) L c) v).length) M rs) ∧ kwTxt M (kwPt a b u (ccPL W (m 0 0) w l (7 - L) L c) v) ∧ kwFv m M := by
  obtain ⟨h₀, qr⟩ := kwI_0 q
  have b₁ : w ≤ 12 := qr.2.2.2.2.1
  have b₂ : l ≤ 8 := qr.2.2.2.2.2.2.1
  have b₃ : n ≤ 40 := qr.2.2.2.2.2.2.2
  have b₄ : 12 * L + c < 96 := by omega
  obtain ⟨_, _, g₀⟩ := ccHP_t g
  obtain ⟨X₀, hX₀⟩ : ∃ y, y = mset m 2 7 0 1 (N 0) := ⟨_, rfl⟩
  have xs : ∀ f a j p, ¬ (f = 2 ∧ a = 7) → X₀ f a j p = m f a j p := fun f a j p y₁ => by rw [hX₀, ccRd, if_neg (by omega)]
  have cX₀ : X₀ 0 0 = m 0 0 := by
    funext j p
    exact xs 0 0 j p (by omega)
  have x₁ : X₀ 2 7 0 1 = N 0 := by rw [hX₀, ccRd, if_pos ⟨rfl, rfl, rfl, rfl⟩]
  have f₀ : kwFv m X₀ := fun f a j p _ y => xs f a j p (by omega)
  obtain ⟨X, a₁, a₂, a₃, cX⟩ := kwI_L (kwI_v q f₀)
  rw [cX₀] at a₃ cX
  obtain ⟨s, gg, kk, cd, _⟩ := kwI_U q
  obtain ⟨pl, wk, _⟩ := kwI_P q
  have sp : ccSp w l L c = N (12 * L + c) := if_pos ⟨e₃, e₄⟩
  have d₁ := (a₃ L c (7 - L) (by omega) (by omega) e₃ e₄).1
  have d₃ := ccPL_le (L := L) (c := c) (d := 7 - L) (w := w) (l := l) cd wk b₁ b₂ b₃
  obtain ⟨ld, hld⟩ : ∃ z, z = ccPL W (m 0 0) w l (7 - L) L c := ⟨_, rfl⟩
  rw [← hld] at d₁ d₃ ⊢
  have nx : ∀ k, k < n → X 1 0 2 k = N (k + 1) := fun k y => by
    rw [a₂ 1 0 2 k (by omega), xs 1 0 2 k (by omega)]
    exact nm.2 k y
  have bn := nm.1
  have na : ccNum (fun _ => 97 + a) 1 = a + 1 := by
    show 32 * 0 + (97 + a - 96) = a + 1
    omega
  have nb : ccNum (fun _ => 97 + b) 1 = b + 1 := by
    show 32 * 0 + (97 + b - 96) = b + 1
    omega
  have wr := ccW153 (p := 12 * L + c) (X := X) (w := w) (l := l) (g₁ := fun _ => 97 + a) (g₂ := fun _ => 97 + b) (e₁ := 1) (e₂ := 1) cX cd b₃ b₄ k₄ k₅ k₁ k₂ u₁ (by omega) d₁ (by omega) v₁ (by omega) ⟨by omega, by omega, fun i _ => ⟨by omega, by omega⟩, by rw [na]; exact nx a k₁⟩ ⟨by omega, by omega, fun i _ => ⟨by omega, by omega⟩, by rw [nb]; exact nx b k₂⟩
  rw [kwPt_e] at wr
  obtain ⟨t, ht⟩ : ∃ z, z = kwPt a b u ld v := ⟨_, rfl⟩
  have tl : t.length ≤ 15 := by rw [ht]; exact kwPt_l (by omega) (by omega) (by omega)
  rw [← ht] at wr ⊢
  have x₂ : X 2 7 0 1 = N 0 := by rw [a₂ 2 7 0 1 (by omega)]; exact x₁
  refine ⟨ccTwL t X 0, fun rs => ?_, kwTxt_w x₂ (by omega), fun f a j p y₁ y₂ => by rw [ccTwL_o _ _ _ _ _ _ _ (by omega), a₂ f a j p (by omega), xs f a j p (by omega)]⟩
  have z := wr X 0 rs (fun _ _ _ _ _ => rfl) x₂ (by omega)
  rw [Nat.zero_add] at z
  unfold F153
  rw [ccE122t h₀ qr e₃ e₄, ccBv, ccE81 qr (by omega) (by omega), ccBi, ← hX₀, ccE51s b₁ b₂, cX₀, g, ccBi, ccT_t, ccIf1, a₁, ccBv, sp]
  exact z
