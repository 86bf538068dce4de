/-! CALLS: writeLevel, writePair. -/
theorem ccAw_0 {m₀ m : mMi} {i : Nat} (h₁ : ccAw m₀ m) : m 0 i = m₀ 0 i := by
  funext j p
  exact h₁ 0 i j p (by omega)
theorem ccAw_ru {m₀ m : mMi} {r w l n : Nat} (h₁ : ccAw m₀ m) (q : ccRu m₀ r w l n) : ccRu m r w l n := ⟨by rw [h₁ 1 r 1 0 (by omega)]; exact q.1, by rw [h₁ 1 r 1 1 (by omega)]; exact q.2.1, by rw [h₁ 1 r 0 4 (by omega)]; exact q.2.2.1, q.2.2.2⟩
theorem ccAv_3 {m₀ m : mMi} (h₁ : ccAv m₀ m) : m 4 0 3 = m₀ 4 0 3 := by
  funext p
  exact h₁ 4 0 3 p (by omega)
theorem ccAv_wm {m₀ m : mMi} {w l n : Nat} {W : Nat → Nat} {C : Nat → Nat → Int32} (h₁ : ccAv m₀ m) (q : ccWm m₀ w l n W C) : ccWm m w l n W C := ⟨⟨by rw [h₁ 4 0 0 2 (by omega)]; exact q.1.1, by rw [h₁ 4 0 0 3 (by omega)]; exact q.1.2.1, by rw [h₁ 4 0 0 8 (by omega)]; exact q.1.2.2.1, q.1.2.2.2⟩, by rw [ccAv_3 h₁]; exact q.2.1, fun k y₁ => by rw [h₁ 4 0 2 k (by omega)]; exact q.2.2 k y₁⟩
def ccLvb (C : Nat → Nat → Int32) (w l L c : Nat) : Nat := if ccHP C w l L c = true then 65 else if ccHF C w l L c = true then 95 else 32
def ccLvl (C : Nat → Nat → Int32) (w l L : Nat) : Nat → Nat → List Nat
  | 0, _ => []
  | d + 1, c => ccLvb C w l L c :: ccLvl C w l L d (c + 1)
theorem ccLvl_len {C : Nat → Nat → Int32} {w l L : Nat} : ∀ d c, (ccLvl C w l L d c).length = d := by
  intro d
  induction d with
  | zero => intro c; rfl
  | succ d i₁ =>
    intro c
    show (ccLvb C w l L c :: ccLvl C w l L d (c + 1)).length = _
    rw [List.length_cons, i₁]
theorem ccL152 {m₀ : mMi} {w l n L : Nat} (q : ccRu m₀ 0 w l n) (h₁ : L < l) : ∀ d c f, L + c + d = w ∨ (d = 0 ∧ w ≤ L + c ∧ c < 100) → ccWR m₀ (fun m r => F152_27 (f + d + 1) (N L) (N c) m r) (ccLvl (m₀ 0 0) w l L d c) := by
  have b₁ : w ≤ 12 := q.2.2.2.2.1
  have b₂ : l ≤ 8 := q.2.2.2.2.2.2.1
  intro d
  induction d with
  | zero =>
    intro c f g₁ m e rs a₁ a₂ a₃
    have qm := ccAw_ru a₁ q
    have e₁ : N (w - L) ≤ N c := by rw [N_le (by omega) (by omega)]; omega
    show F152_27 (f + 0 + 1) (N L) (N c) m rs = _
    rw [ccL152_27, ccE80 qm (by omega), if_pos h₁, ccBi, ccIte, if_pos e₁, a₂]
    rfl
  | succ d i₁ =>
    intro c f g₁ m e rs a₁ a₂ a₃
    have qm := ccAw_ru a₁ q
    have e₁ : ¬ N (w - L) ≤ N c := by rw [N_le (by omega) (by omega)]; omega
    have e₂ : f + (d + 1) + 1 = f + d + 1 + 1 := by omega
    have e₃ := i₁ (c + 1) f (by omega)
    have e₄ := ccAw_0 (i := 0) a₁
    have st : ∀ b, b < 128 → b = ccLvb (m₀ 0 0) w l L c → bV (F88 (N b) m rs) (fun m r => F152_27 (f + d + 1) (N L) (N (c + 1)) m r) = rI (N (e + (ccLvl (m₀ 0 0) w l L (d + 1) c).length)) (ccTwL (ccLvl (m₀ 0 0) w l L (d + 1) c) m e) rs := fun b y₁ y₂ => by
      have y₃ := ccWR_w (ccW_1 (m₀ := m₀) y₁) e₃ m e rs a₁ a₂ (by rw [List.length_append, ccLvl_len]; rw [ccLvl_len] at a₃; show e + (1 + d) ≤ 240; omega)
      rw [y₂] at y₃ ⊢
      exact y₃
    show F152_27 (f + (d + 1) + 1) (N L) (N c) m rs = _
    rw [e₂, ccL152_27, ccE80 qm (by omega), if_pos h₁, ccBi, ccIte, if_neg e₁, ccE81 qm (by omega) (by omega), ccBi, ccE51s b₁ b₂, ccBi, e₄, N_add]
    cases g₂ : ccHP (m₀ 0 0) w l L c
    · rw [ccT_f, ccIf0e, ccE52s b₁ b₂, ccBi, e₄]
      cases g₃ : ccHF (m₀ 0 0) w l L c
      · rw [ccT_f, ccIf0e]
        exact st 32 (by omega) (by unfold ccLvb; rw [g₂, g₃]; rfl)
      · rw [ccT_t, ccIf1e]
        exact st 95 (by omega) (by unfold ccLvb; rw [g₂, g₃]; rfl)
    · rw [ccT_t, ccIf1e]
      exact st 65 (by omega) (by unfold ccLvb; rw [g₂]; rfl)
theorem ccL281 {m₀ : mMi} {w l n L : Nat} {W : Nat → Nat} {C : Nat → Nat → Int32} (q : ccWm m₀ w l n W C) (h₁ : L < l) : ∀ d c f, L + c + d = w ∨ (d = 0 ∧ w ≤ L + c ∧ c < 100) → ccVR m₀ (fun m r => F281_43 (f + d + 1) (N L) (N c) m r) (ccLvl C w l L d c) := by
  have b₁ : w ≤ 12 := q.1.2.2.2.2.1
  have b₂ : l ≤ 8 := q.1.2.2.2.2.2.2.1
  intro d
  induction d with
  | zero =>
    intro c f g₁ m e rs a₁ a₂ a₃
    have qm := ccAv_wm a₁ q
    have e₁ : (N w - N L ≤ N c) = True := by
      have y₁ : N w - N L = I ((w : Int) - (L : Int)) := by rw [← I_N, ← I_N, I_sub]
      rw [y₁, ← I_N, I_le (by omega) (by omega) (by omega) (by omega)]
      exact propext ⟨fun _ => trivial, fun _ => by omega⟩
    show F281_43 (f + 0 + 1) (N L) (N c) m rs = _
    rw [ccL281_43, qm.1.1, ccIte, if_pos (by rw [e₁]; trivial), a₂]
    rfl
  | succ d i₁ =>
    intro c f g₁ m e rs a₁ a₂ a₃
    have qm := ccAv_wm a₁ q
    have e₁ : ¬ N w - N L ≤ N c := by rw [N_sub (by omega), N_le (by omega) (by omega)]; omega
    have e₂ : f + (d + 1) + 1 = f + d + 1 + 1 := by omega
    have e₃ := i₁ (c + 1) f (by omega)
    have st : ∀ b, b = ccLvb C w l L c → bV (F282 (N b) m rs) (fun m r => F281_43 (f + d + 1) (N L) (N (c + 1)) m r) = rI (N (e + (ccLvl C w l L (d + 1) c).length)) (ccTmL (ccLvl C w l L (d + 1) c) m e) rs := fun b y₂ => by
      have y₃ := ccVR_w (ccV_1 (m₀ := m₀) (b := b)) e₃ m e rs a₁ a₂ (by rw [List.length_append, ccLvl_len]; rw [ccLvl_len] at a₃; show e + (1 + d) ≤ 240; omega)
      rw [y₂] at y₃ ⊢
      exact y₃
    show F281_43 (f + (d + 1) + 1) (N L) (N c) m rs = _
    rw [e₂, ccL281_43, qm.1.1, ccIte, if_neg e₁, ccE198' qm (by omega) (by omega), ccBi, N_add]
    cases g₂ : ccHP C w l L c
    · rw [ccT_f, ccIf0e, ccE202' qm (by omega) (by omega), ccBi]
      cases g₃ : ccHF C w l L c
      · rw [ccT_f, ccIf0e]
        exact st 32 (by unfold ccLvb; rw [g₂, g₃]; rfl)
      · rw [ccT_t, ccIf1e]
        exact st 95 (by unfold ccLvb; rw [g₂, g₃]; rfl)
    · rw [ccT_t, ccIf1e]
      exact st 65 (by unfold ccLvb; rw [g₂]; rfl)
theorem ccOk_152 {B : Nat} {m : mMi} {x : Int32} (h₁ : ccTop B m) : ccOk B (F152 x) (F281 x) [(1, 1), (2, 2)] m := by
  refine ccOk_textn (b := N 0) h₁ (List.mem_cons_self) (fun m rs => rfl) (fun m rs => rfl) (fun w l n bd lm dp cl β W h₂ => ?_)
  have qr : ccRu m 0 w l n := h₂.2.2.1.1
  have b₁ : w ≤ 12 := qr.2.2.2.2.1
  have b₂ : l ≤ 8 := qr.2.2.2.2.2.2.1
  have i₂ : (2, 2) ∈ [(1, 1), (2, 2)] := List.mem_cons_of_mem _ List.mem_cons_self
  have l₁ : m 1 0 1 1 = N l := qr.2.1
  have l₂ : m 4 0 0 3 = N l := h₂.2.2.1.2.1.2.1
  rcases Classical.em (∃ a, x = N a ∧ a < l) with ⟨L, e₁, e₂⟩ | g
  rotate_left
  · refine ccOk_no (E := 2) (c := 2) h₁ i₂ (fun rs => ?_) (fun rs => ?_)
    · show bV (F106 x (m 1 0 1 1) m rs) _ = _
      rw [l₁, ccE106z g (by omega), ccBvX]
    · show bI (F177 x (N 0) (ccM0 m 4 0 0 3 - N 1) (ccM0 m) rs) _ = _
      rw [ccM0_r (by omega), l₂, ccE177z (fun ⟨a, y₁, _, y₃⟩ => g ⟨a, y₁, y₃⟩) (by omega) (by omega), ccBi, ccIf0, ccE178t ccT0s (by omega) (by omega), ccBi, ccIf1e]
  subst e₁
  obtain ⟨X, hX⟩ : ∃ y, y = mset m 2 7 0 1 (N 0) := ⟨_, rfl⟩
  have xs : ∀ f a j p, ¬ (f = 2 ∧ a = 7) → X f a j p = m f a j p := fun f a j p y₁ => by rw [hX, ccRd, if_neg (by omega)]
  have qX : ccRu X 0 w l n := ⟨by rw [xs 1 0 1 0 (by omega)]; exact qr.1, by rw [xs 1 0 1 1 (by omega)]; exact qr.2.1, by rw [xs 1 0 0 4 (by omega)]; exact qr.2.2.1, qr.2.2.2⟩
  have cX : X 0 0 = m 0 0 := by
    funext j p
    exact xs 0 0 j p (by omega)
  obtain ⟨t, ht⟩ : ∃ t, t = ccLvl (m 0 0) w l L (w - L) 0 := ⟨_, rfl⟩
  have tl : t.length = w - L := by rw [ht, ccLvl_len]
  obtain ⟨g, hg⟩ := ccFU (k := w - L) (by omega)
  obtain ⟨M, hM⟩ : ∃ y, y = ccTwL t X 0 := ⟨_, rfl⟩
  have m₄ : ccMo4 m M := fun a j p => by rw [hM, ccTwL_o _ _ _ _ _ _ _ (by omega), xs 4 a j p (by omega)]
  obtain ⟨Y, hY⟩ : ∃ y, y = mset (ccM0 M) 4 0 0 36 (N 0) := ⟨_, rfl⟩
  have ys : ∀ f a j p, ¬ (f = 4 ∧ a = 0 ∧ j = 0 ∧ (p = 0 ∨ p = 36)) → Y f a j p = M f a j p := fun f a j p y₁ => by
    rw [hY, ccRd, if_neg (by omega)]
    unfold ccM0
    rw [ccRd, if_neg (by omega)]
  have qY : ccWm Y w l n W (m 0 0) := by
    have y₁ := ccLd_wm h₂
    refine ⟨⟨by rw [ys 4 0 0 2 (by omega), m₄]; exact y₁.1.1, by rw [ys 4 0 0 3 (by omega), m₄]; exact y₁.1.2.1, by rw [ys 4 0 0 8 (by omega), m₄]; exact y₁.1.2.2.1, y₁.1.2.2.2⟩, ?_, fun k y₂ => by rw [ys 4 0 2 k (by omega), m₄]; exact y₁.2.2 k y₂⟩
    have y₂ : Y 4 0 3 = m 4 0 3 := by
      funext q
      rw [ys 4 0 3 q (by omega), m₄]
    rw [y₂]
    exact y₁.2.1
  have wr := ccL152 qX e₂ (w - L) 0 g (by omega)
  have vr := ccL281 qY e₂ (w - L) 0 g (by omega)
  rw [cX, ← ht] at wr
  rw [← ht] at vr
  refine ccOk_wr (X := X) (Y := Y) (t := t) h₁ (by omega) (fun rs => ?_) (fun rs => ?_) wr vr (fun f a j p y₁ y₂ => xs f a j p (by unfold ccTxc at y₂; omega)) (by rw [hX, ccRd, if_pos ⟨rfl, rfl, rfl, rfl⟩]) (fun a j p => xs 4 a j p (by omega)) (fun f a j p y₁ y₂ => by rw [← hM]; exact ys f a j p (by unfold ccJk at y₁; omega)) (by rw [hY, ccRd, if_pos ⟨rfl, rfl, rfl, rfl⟩]) (by rw [hY, ccRd, if_neg (by omega)]; exact ccT0s)
  · show bV (F106 (N L) (m 1 0 1 1) m rs) _ = _
    rw [l₁, ccE106 (by omega) (by omega), if_pos e₂, ccBv, ← hX, hg]
  · rw [← hM]
    show bI (F177 (N L) (N 0) (ccM0 M 4 0 0 3 - N 1) (ccM0 M) rs) _ = _
    rw [ccM0_r (by omega), m₄, l₂, ccE177i e₂ (by omega), ccBi, ccIf1, ccE178f ccT0s, ccBi, ccIf0e, ← hY, hg]
