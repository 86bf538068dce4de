/-! CALLS: writePair. -/
def ccPairT (g₁ g₂ : Nat → Nat) (e₁ e₂ u x v : Nat) : List Nat := ccLst g₁ e₁ 0 ++ ([47] ++ (ccNl u ++ ([92] ++ (ccLst g₂ e₂ 0 ++ ([32] ++ (ccNl x ++ ([58] ++ (ccNl v ++ []))))))))
theorem ccPairT_len {g₁ g₂ : Nat → Nat} {e₁ e₂ u x v : Nat} (h₁ : e₁ ≤ 6) (h₂ : e₂ ≤ 6) (h₃ : u < 10000) (h₄ : x < 10000) (h₅ : v < 10000) : (ccPairT g₁ g₂ e₁ e₂ u x v).length ≤ 30 := by
  have l₁ := (ccDk_is h₃).1
  have l₂ := (ccDk_is h₄).1
  have l₃ := (ccDk_is h₅).1
  unfold ccPairT
  rw [List.length_append, List.length_append, List.length_append, List.length_append, List.length_append, List.length_append, List.length_append, List.length_append, List.length_append, ccLst_len, ccLst_len, ccNl_len, ccNl_len, ccNl_len]
  show e₁ + (1 + (ccDk u + 1 + (1 + (e₂ + (1 + (ccDk x + 1 + (1 + (ccDk v + 1 + 0)))))))) ≤ 30
  omega
theorem ccW153 {X : mMi} {w l n p a b u x v e₁ e₂ : Nat} {g₁ g₂ : Nat → Nat} {C : Nat → Nat → Int32} (h₀ : X 0 0 = C) (cd : ccCd n C) (b₃ : n ≤ 40) (h₁ : p < 96) (h₂ : C 2 p = N a) (h₃ : C 3 p = N b) (h₄ : a < n) (h₅ : b < n) (h₆ : C 4 p = N u) (u₁ : u < 1000) (h₇ : X 2 2 1 p = N x) (x₁ : x < 1000) (h₈ : ccStp C p = N v) (v₁ : v < 1000)
    (n₁ : 1 ≤ e₁ ∧ e₁ ≤ 6 ∧ (∀ i, i < e₁ → 97 ≤ g₁ i ∧ g₁ i ≤ 122) ∧ X 1 0 2 a = N (ccNum g₁ e₁)) (n₂ : 1 ≤ e₂ ∧ e₂ ≤ 6 ∧ (∀ i, i < e₂ → 97 ≤ g₂ i ∧ g₂ i ≤ 122) ∧ X 1 0 2 b = N (ccNum g₂ e₂)) :
    ccWR X (fun m4 r4 => mckO (mIn (N p) 96) (mckO (mIn (m4 0 0 2 (mix (N p))) 40) (bV (F89 (m4 1 0 2 (mix (m4 0 0 2 (mix (N p))))) m4 r4) (fun m5 r5 => bV (F88 (N 47) m5 r5) (fun m6 r6 => mckO (mIn (N p) 96) (bV (F91 (m6 0 0 4 (mix (N p))) m6 r6) (fun m7 r7 => bV (F88 (N 92) m7 r7) (fun m8 r8 => mckO (mIn (N p) 96) (mckO (mIn (m8 0 0 3 (mix (N p))) 40) (bV (F89 (m8 1 0 2 (mix (m8 0 0 3 (mix (N p))))) m8 r8) (fun m9 r9 => bV (F88 (N 32) m9 r9) (fun m10 r10 => mckO (mIn (N p) 96) (bV (F91 (m10 2 2 1 (mix (N p))) m10 r10) (fun m11 r11 => bV (F88 (N 58) m11 r11) (fun m12 r12 => bI (F24 0 (N p) m12 r12) (fun v13 m13 r13 => bV (F91 v13 m13 r13) (fun m14 r14 => some (.inl (some (mI (m14 2 7 0 1))), m14, r14)))))))))))))))))) (ccPairT g₁ g₂ e₁ e₂ u x v) := by
  have mp : mix (N p) = p := mix_N (by omega)
  have mk : mIn (N p) 96 = true := mIn_N h₁ (by omega)
  have g₀ : C 2 p ≠ I (-1) := by rw [h₂, ne_eq, ccNm (by omega)]; exact fun h => h
  have r₂ : ∀ m, ccAw X m → m 0 0 2 (mix (N p)) = N a := fun m y₁ => by rw [mp, y₁ 0 0 2 p (by omega), h₀]; exact h₂
  have r₃ : ∀ m, ccAw X m → m 0 0 3 (mix (N p)) = N b := fun m y₁ => by rw [mp, y₁ 0 0 3 p (by omega), h₀]; exact h₃
  unfold ccPairT
  refine ccWR_k (fun m y₁ => mk) (ccWR_k (fun m y₁ => ?_) (ccWR_w (fun m e rs y₁ y₂ y₃ => ?_) (ccWR_w (ccW_1 (by omega)) (ccWR_k (fun m y₁ => mk) (ccWR_w (fun m e rs y₁ y₂ y₃ => ?_) (ccWR_w (ccW_1 (by omega)) (ccWR_k (fun m y₁ => mk) (ccWR_k (fun m y₁ => ?_) (ccWR_w (fun m e rs y₁ y₂ y₃ => ?_) (ccWR_w (ccW_1 (by omega)) (ccWR_k (fun m y₁ => mk) (ccWR_w (fun m e rs y₁ y₂ y₃ => ?_) (ccWR_w (ccW_1 (by omega)) (ccWR_r (v := N v) (fun m rs y₁ => ?_) (ccWR_w (ccW_num v₁) ccWR_0)))))))))))))))
  · rw [r₂ m y₁]
    exact mIn_N (by omega) (by omega)
  · show F89 (m 1 0 2 (mix (m 0 0 2 (mix (N p))))) m rs = _
    rw [r₂ m y₁, mix_N (by omega), y₁ 1 0 2 a (by omega), n₁.2.2.2]
    exact ccW_name n₁.1 n₁.2.1 n₁.2.2.1 m e rs y₁ y₂ y₃
  · show F91 (m 0 0 4 (mix (N p))) m rs = _
    rw [mp, y₁ 0 0 4 p (by omega), h₀, h₆]
    exact ccW_num u₁ m e rs y₁ y₂ y₃
  · rw [r₃ m y₁]
    exact mIn_N (by omega) (by omega)
  · show F89 (m 1 0 2 (mix (m 0 0 3 (mix (N p))))) m rs = _
    rw [r₃ m y₁, mix_N (by omega), y₁ 1 0 2 b (by omega), n₂.2.2.2]
    exact ccW_name n₂.1 n₂.2.1 n₂.2.2.1 m e rs y₁ y₂ y₃
  · show F91 (m 2 2 1 (mix (N p))) m rs = _
    rw [mp, y₁ 2 2 1 p (by omega), h₇]
    exact ccW_num x₁ m e rs y₁ y₂ y₃
  · rw [ccE24 (by rw [ccAw_0 y₁]; exact h₀) cd b₃ h₁ g₀, h₈]
theorem ccV283 {Y : mMi} {w l n p a b u x v e₁ e₂ : Nat} {g₁ g₂ : Nat → Nat} {W : Nat → Nat} {C : Nat → Nat → Int32} (wm : ccWm Y w l n W C) (cd : ccCd n C) (ss : ccSs n C (Y 4 0 3)) (b₃ : n ≤ 40) (h₁ : p < 96) (h₂ : C 2 p = N a) (h₃ : C 3 p = N b) (h₄ : a < n) (h₅ : b < n) (h₆ : C 4 p = N u) (u₁ : u < 10000) (h₇ : Y 4 0 12 p = N x) (x₁ : x < 10000) (h₈ : ccStp C p = N v) (v₁ : v < 10000)
    (n₁ : 1 ≤ e₁ ∧ e₁ ≤ 6 ∧ (∀ i, i < e₁ → 97 ≤ g₁ i ∧ g₁ i ≤ 122 ∧ Y 4 0 1 (6 * a + i) = N (g₁ i)) ∧ (∀ i, e₁ ≤ i → i < 6 → Y 4 0 1 (6 * a + i) = N 0)) (n₂ : 1 ≤ e₂ ∧ e₂ ≤ 6 ∧ (∀ i, i < e₂ → 97 ≤ g₂ i ∧ g₂ i ≤ 122 ∧ Y 4 0 1 (6 * b + i) = N (g₂ i)) ∧ (∀ i, e₂ ≤ i → i < 6 → Y 4 0 1 (6 * b + i) = N 0)) :
    ccVR Y (fun m4 r4 => bI (F201 (N p) (N 0) m4 r4) (fun v5 m5 r5 => bV (F284 v5 m5 r5) (fun m6 r6 => bV (F282 (N 47) m6 r6) (fun m7 r7 => bI (F201 (N p) (N 2) m7 r7) (fun v8 m8 r8 => bV (F285 v8 m8 r8) (fun m9 r9 => bV (F282 (N 92) m9 r9) (fun m10 r10 => bI (F201 (N p) (N 1) m10 r10) (fun v11 m11 r11 => bV (F284 v11 m11 r11) (fun m12 r12 => bV (F282 (N 32) m12 r12) (fun m13 r13 => mckO (mIn (N p) 96) (bV (F285 (m13 4 0 12 (mix (N p))) m13 r13) (fun m14 r14 => bV (F282 (N 58) m14 r14) (fun m15 r15 => bI (F219 (N p) m15 r15) (fun v16 m16 r16 => bV (F285 v16 m16 r16) (fun m17 r17 => some (.inl (some (mI (m17 4 0 0 36))), m17, r17)))))))))))))))) (ccPairT g₁ g₂ e₁ e₂ u x v) := by
  have mp : mix (N p) = p := mix_N (by omega)
  have mk : mIn (N p) 96 = true := mIn_N h₁ (by omega)
  have g₀ : C 2 p ≠ I (-1) := by rw [h₂, ne_eq, ccNm (by omega)]; exact fun h => h
  obtain ⟨q₁, _, q₂⟩ := wm.2.1 p h₁
  obtain ⟨q₃, q₄, _⟩ := q₂ g₀
  unfold ccPairT
  refine ccVR_r (v := N a) (fun m rs y₁ => ?_) (ccVR_w (ccV_name n₁.1 n₁.2.1 (by omega) n₁.2.2.1 n₁.2.2.2) (ccVR_w ccV_1 (ccVR_r (v := N u) (fun m rs y₁ => ?_) (ccVR_w (ccV_num u₁) (ccVR_w ccV_1 (ccVR_r (v := N b) (fun m rs y₁ => ?_) (ccVR_w (ccV_name n₂.1 n₂.2.1 (by omega) n₂.2.2.1 n₂.2.2.2) (ccVR_w ccV_1 (ccVR_k (fun m y₁ => mk) (ccVR_w (fun m e rs y₁ y₂ y₃ => ?_) (ccVR_w ccV_1 (ccVR_r (v := N v) (fun m rs y₁ => ?_) (ccVR_w (ccV_num v₁) ccVR_0)))))))))))))
  · rw [ccE201a h₁, ccAv_3 y₁, q₁, h₂]
  · rw [ccE201c h₁, ccAv_3 y₁, q₄, h₆]
  · rw [ccE201b h₁, ccAv_3 y₁, q₃, h₃]
  · show F285 (m 4 0 12 (mix (N p))) m rs = _
    rw [mp, y₁ 4 0 12 p (by omega), h₇]
    exact ccV_num x₁ m e rs y₁ y₂ y₃
  · rw [ccE219 (ccAv_wm y₁ wm) cd (by rw [ccAv_3 y₁]; exact ss) h₁ g₀, h₈]
theorem ccJk_a {f a j p : Nat} (y₁ : ¬ ccJk f a j p) (y₂ : ¬ ccTxc f a j p) : ¬ (f = 2 ∧ (a = 7 ∨ a = 2)) := fun h => by
  rcases h.2 with h₂ | h₂
  · exact y₂ (Or.inl ⟨h.1, h₂⟩)
  · exact y₁ (Or.inl ⟨h.1, h₂⟩)
theorem ccJk_b {f a j p : Nat} (y₁ : ¬ ccJk f a j p) : ¬ (f = 4 ∧ a = 0 ∧ (j = 12 ∨ j = 13)) := fun h => y₁ (by unfold ccJk; omega)
theorem ccJk_c {f a j p : Nat} (y₁ : ¬ ccJk f a j p) (y₂ : ¬ (f = 4 ∧ a = 0 ∧ j = 0 ∧ p = 36)) : ¬ (f = 4 ∧ a = 0 ∧ j = 0 ∧ (p = 0 ∨ p = 36)) := fun h => by
  rcases h.2.2.2 with h₂ | h₂
  · exact y₁ (by unfold ccJk; omega)
  · exact y₂ ⟨h.1, h.2.1, h.2.2.1, h₂⟩
theorem ccOk_153 {B : Nat} {m : mMi} {x y : Int32} (h₁ : ccTop B m) : ccOk B (F153 x y) (F283 x y) [(1, 1), (2, 2)] m := by
  rcases h₁.2.2.2 with h₃ | ⟨w, l, n, bd, lm, dp, cl, β, W, h₂⟩
  · exact ccOk_un (b := N 0) h₁ h₃ (List.mem_cons_self) (fun rs e₁ => by unfold F153 F122; rw [e₁]; rfl) (fun rs e₁ => by unfold F283 F241; rw [e₁]; rfl)
  have qr : ccRu m 0 w l n := h₂.2.2.1.1
  have b₁ : w ≤ 12 := qr.2.2.2.2.1
  have b₂ : l ≤ 8 := qr.2.2.2.2.2.2.1
  have b₃ : n ≤ 40 := qr.2.2.2.2.2.2.2
  rcases Classical.em (ccIsPl w l x y) with ⟨L, c, e₁, e₂, e₃, e₄⟩ | g
  rotate_left
  · refine ccOk_x (E := 2) (c := 2) (b := N 0) (m₂ := mset (ccM0 m) 4 0 0 0 (N 2)) h₁ (List.mem_cons_of_mem _ List.mem_cons_self) (fun rs => ?_) (fun rs => ?_) ccT0s (ccEq_t (ccEq_t ccEq_rfl))
    · unfold F153
      rw [ccE122f h₂.1 qr g, ccBvX]
    · unfold F283
      rw [ccE241f h₂.2.1 h₂.2.2.1.2.1 g, ccBi, ccIf1e]
  subst e₁ e₂
  obtain ⟨h, t₀, q₁, q₂, q₃, q₄, q₅, q₆⟩ := ccLd_R h₂
  have cd := ccCd_of q₁.2.1
  have wt : ccWt m 0 n W := h₂.2.2.1.2.2.2.2.2.2.1
  have wk : ccWok n W := h₂.2.2.1.2.2.2.2.2.2.2.2.1
  have nm := h₂.2.2.1.2.2.2.2.2.2.2.2.2.2
  obtain ⟨X₀, hX₀⟩ : ∃ y, y = mset m 2 7 0 1 (N 0) := ⟨_, rfl⟩
  have xs₀ : ∀ f a j p, ¬ (f = 2 ∧ a = 7) → X₀ f a j p = m f a j p := fun f a j p y₁ => by rw [hX₀, ccRd, if_neg (by omega)]
  have cX₀ : X₀ 0 0 = m 0 0 := by
    funext j p
    exact xs₀ 0 0 j p (by omega)
  have qX₀ : ccRu X₀ 0 w l n := ⟨by rw [xs₀ 1 0 1 0 (by omega)]; exact qr.1, by rw [xs₀ 1 0 1 1 (by omega)]; exact qr.2.1, by rw [xs₀ 1 0 0 4 (by omega)]; exact qr.2.2.1, qr.2.2.2⟩
  have x₂ : X₀ 2 7 0 1 = N 0 := by rw [hX₀, ccRd, if_pos ⟨rfl, rfl, rfl, rfl⟩]
  have sp : ccSp w l L c = N (12 * L + c) := if_pos ⟨e₃, e₄⟩
  -- the reference, behind any text
  have rf : ∀ M : mMi, ccMo4 m M → ∃ Y₀, Y₀ = mset (ccM0 M) 4 0 0 36 (N 0) ∧ (∀ f a j p, ¬ (f = 4 ∧ a = 0 ∧ j = 0 ∧ (p = 0 ∨ p = 36)) → Y₀ f a j p = M f a j p) ∧ ccWm Y₀ w l n W (m 0 0) ∧ Y₀ 4 0 3 = m 4 0 3 ∧ Y₀ 4 0 0 36 = N 0 ∧ Y₀ 4 0 0 0 = N 0 := fun M m₄ => by
    obtain ⟨Y, hY⟩ : ∃ y, y = mset (ccM0 M) 4 0 0 36 (N 0) := ⟨_, rfl⟩
    have ys : ∀ f a j p, ¬ (f = 4 ∧ a = 0 ∧ j = 0 ∧ (p = 0 ∨ p = 36)) → Y f a j p = M f a j p := fun f a j p y₁ => by
      rw [hY, ccRd, if_neg (by omega)]
      unfold ccM0
      rw [ccRd, if_neg (by omega)]
    have y₁ := ccLd_wm h₂
    have y₂ : Y 4 0 3 = m 4 0 3 := by
      funext q
      rw [ys 4 0 3 q (by omega), m₄]
    refine ⟨Y, hY, ys, ⟨⟨by rw [ys 4 0 0 2 (by omega), m₄]; exact y₁.1.1, by rw [ys 4 0 0 3 (by omega), m₄]; exact y₁.1.2.1, by rw [ys 4 0 0 8 (by omega), m₄]; exact y₁.1.2.2.1, y₁.1.2.2.2⟩, by rw [y₂]; exact y₁.2.1, fun k y₃ => by rw [ys 4 0 2 k (by omega), m₄]; exact y₁.2.2 k y₃⟩, y₂, by rw [hY, ccRd, if_pos ⟨rfl, rfl, rfl, rfl⟩], by rw [hY, ccRd, if_neg (by omega)]; exact ccT0s⟩
  cases g : ccHP (m 0 0) w l L c
  · obtain ⟨M, hM⟩ : ∃ y, y = ccTwL [45] X₀ 0 := ⟨_, rfl⟩
    have m₄ : ccMo4 m M := fun a j p => by rw [hM, ccTwL_o _ _ _ _ _ _ _ (by omega), xs₀ 4 a j p (by omega)]
    obtain ⟨Y, hY, ys, qY, _, y₂, y₃⟩ := rf M m₄
    refine ccOk_wr (X := X₀) (Y := Y) (t := [45]) (Gc := fun m r => bV (F88 (N 45) m r) (fun m r => rI (m 2 7 0 1) m r)) (Gm := fun m r => bV (F282 (N 45) m r) (fun m r => rI (m 4 0 0 36) m r)) h₁ (by show 1 ≤ 240; omega) (fun rs => ?_) (fun rs => ?_) (ccWR_w (ccW_1 (by omega)) ccWR_0) (ccVR_w ccV_1 ccVR_0) (fun f a j p y₁ y₂ => xs₀ f a j p (by unfold ccTxc at y₂; omega)) x₂ (fun a j p => xs₀ 4 a j p (by omega)) (fun f a j p y₁ y₂ => by rw [← hM]; exact ys f a j p (ccJk_c y₁ y₂)) y₂ y₃
    · unfold F153
      rw [ccE122t h₂.1 qr e₃ e₄, ccBv, ccE81 qr (by omega) (by omega), ccBi, ← hX₀, ccE51s b₁ b₂, cX₀, g, ccBi, ccT_f, ccIf0]
    · rw [← hM]
      unfold F283
      rw [ccE241t (by rw [m₄]; exact h₂.2.1) (ccMo_4 m₄ h₂.2.2.1.2.1) e₃ e₄, ccBi, ccIf0e, ← hY, ccE198' qY (by omega) (by omega), g, ccBi, ccT_f, ccIf0]
  · obtain ⟨_, _, g₀⟩ := ccHP_t g
    have b₄ : 12 * L + c < 96 := by omega
    have wc : ccWc X₀ 0 w l n W (m 0 0) := ⟨qX₀, fun k y₁ => by rw [xs₀ 1 (RO 0) 4 k (by omega)]; exact wt k y₁, cX₀⟩
    obtain ⟨X, a₁, a₂, a₃⟩ := ccE85 (i := 0) (ccStd_sup q₃ b₁ b₂) cd wk wc
    have cX : X 0 0 = m 0 0 := by rw [ccFs_0 a₂]; exact cX₀
    obtain ⟨ka, kb, k₁, k₂, k₃, k₄, k₅, _⟩ := q₁.2.1.1 _ b₄ g₀
    obtain ⟨⟨u, u₁, u₂, u₃⟩, _⟩ := q₅.2 _ b₄ g₀
    obtain ⟨v, v₁, v₂⟩ := ccStp_b q₁ q₅.2 b₃ b₄ g₀
    have d₁ := (a₃ L c (7 - L) (by omega) (by omega) e₃ e₄).1
    have d₃ := ccPL_le (L := L) (c := c) (d := 7 - L) (w := w) (l := l) cd wk b₁ b₂ b₃
    obtain ⟨ld, hld⟩ : ∃ z, z = ccPL W (m 0 0) w l (7 - L) L c := ⟨_, rfl⟩
    rw [← hld] at d₁ d₃
    obtain ⟨ga, ea, p₁, p₂, p₃, p₄, p₅⟩ := nm ka k₁
    obtain ⟨gb, eb, r₁, r₂, r₃, r₄, r₅⟩ := nm kb k₂
    obtain ⟨t, ht⟩ : ∃ z, z = ccPairT ga gb ea eb u ld v := ⟨_, rfl⟩
    have tl := ccPairT_len (g₁ := ga) (g₂ := gb) (u := u) (x := ld) (v := v) p₂ r₂ (by omega) (by omega) (by omega)
    rw [← ht] at tl
    obtain ⟨M, hM⟩ : ∃ y, y = ccTwL t X 0 := ⟨_, rfl⟩
    have xf : ∀ f a j p, ¬ (f = 2 ∧ (a = 7 ∨ a = 2)) → X f a j p = m f a j p := fun f a j p y₁ => by rw [a₂ f a j p (by omega), xs₀ f a j p (by omega)]
    have m₄ : ccMo4 m M := fun a j p => by rw [hM, ccTwL_o _ _ _ _ _ _ _ (by omega), xf 4 a j p (by omega)]
    obtain ⟨Y₀, hY₀, ys, qY, sY, y₂, y₃⟩ := rf M m₄
    obtain ⟨Y, c₁, c₂, c₃⟩ := ccE213 cd wk qY
    have d₂ := (c₃ L c (7 - L) (by omega) (by omega) e₃ e₄).1 g
    rw [← hld] at d₂
    have ss : ccSs n (m 0 0) (Y 4 0 3) := by
      rw [ccFt_3 c₂, sY]
      exact ccSs_of q₁.2.2.1
    have nY : ∀ q, Y 4 0 1 q = m 4 0 1 q := fun q => by rw [c₂ 4 0 1 q (by omega), ys 4 0 1 q (by omega), m₄]
    have wr := ccW153 (p := 12 * L + c) (X := X) (w := w) (l := l) cX cd b₃ b₄ k₄ k₅ k₁ k₂ u₁ (by omega) d₁ (by omega) v₁ (by omega) ⟨p₁, p₂, fun i z₁ => ⟨(p₃ i z₁).1, (p₃ i z₁).2.1⟩, by rw [xf 1 0 2 ka (by omega)]; exact p₅⟩ ⟨r₁, r₂, fun i z₁ => ⟨(r₃ i z₁).1, (r₃ i z₁).2.1⟩, by rw [xf 1 0 2 kb (by omega)]; exact r₅⟩
    have vr := ccV283 (p := 12 * L + c) (ccWm_ft qY c₂) cd ss b₃ b₄ k₄ k₅ k₁ k₂ u₁ (by omega) d₂ (by omega) v₁ (by omega) ⟨p₁, p₂, fun i z₁ => ⟨(p₃ i z₁).1, (p₃ i z₁).2.1, by rw [nY]; exact (p₃ i z₁).2.2⟩, fun i z₁ z₂ => by rw [nY]; exact p₄ i z₁ z₂⟩ ⟨r₁, r₂, fun i z₁ => ⟨(r₃ i z₁).1, (r₃ i z₁).2.1, by rw [nY]; exact (r₃ i z₁).2.2⟩, fun i z₁ z₂ => by rw [nY]; exact r₄ i z₁ z₂⟩
    rw [← ht] at wr vr
    have o₁ : ∀ f a j p, ¬ ccJk f a j p → ¬ ccTxc f a j p → X f a j p = m f a j p := fun f a j p y₁ y₂ => xf f a j p (ccJk_a y₁ y₂)
    have o₂ : X 2 7 0 1 = N 0 := by rw [a₂ 2 7 0 1 (by omega)]; exact x₂
    have o₃ : ∀ a j p, X 4 a j p = m 4 a j p := fun a j p => xf 4 a j p (by omega)
    have o₄ : ∀ f a j p, ¬ ccJk f a j p → ¬ (f = 4 ∧ a = 0 ∧ j = 0 ∧ p = 36) → Y f a j p = ccTwL t X 0 f a j p := fun f a j p y₁ y₂ => by
      rw [← hM, c₂ f a j p (ccJk_b y₁)]
      exact ys f a j p (ccJk_c y₁ y₂)
    have o₅ : Y 4 0 0 36 = N 0 := by rw [c₂ 4 0 0 36 (by omega)]; exact y₂
    have o₆ : Y 4 0 0 0 = N 0 := by rw [c₂ 4 0 0 0 (by omega)]; exact y₃
    have o₇ : t.length ≤ 240 := by omega
    refine ccOk_wr h₁ o₇ (fun rs => ?_) (fun rs => ?_) wr vr o₁ o₂ o₃ o₄ o₅ o₆
    · unfold F153
      rw [ccE122t h₂.1 qr e₃ e₄, ccBv, ccE81 qr (by omega) (by omega), ccBi, ← hX₀, ccE51s b₁ b₂, cX₀, g, ccBi, ccT_t, ccIf1, a₁, ccBv, sp]
    · rw [← hM]
      unfold F283
      rw [ccE241t (by rw [m₄]; exact h₂.2.1) (ccMo_4 m₄ h₂.2.2.1.2.1) e₃ e₄, ccBi, ccIf0e, ← hY₀, ccE198' qY (by omega) (by omega), g, ccBi, ccT_t, ccIf1, c₁, ccBv, ccE200, ccBi]
