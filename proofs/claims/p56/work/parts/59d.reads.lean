/-! CALLS: reads. -/
theorem ccOk_textn {B : Nat} {Fc Fm kc km : mMi → mRs → mRz} {ec : List (Nat × Nat)} {m : mMi} {b : Int32} (h₁ : ccTop B m) (h₀ : (1, 1) ∈ ec) (hc : ∀ m rs, Fc m rs = bV (F114 m rs) kc) (hm : ∀ m rs, Fm m rs = bI (F230 m rs) (fun v m r => mifO (decide (v ≠ N 0)) (rI b m r) (km m r)))
    (h₂ : ∀ w l n bd lm dp cl β W, ccLd B m w l n bd lm dp cl β W → ccOk B kc (fun m rs => km (ccM0 m) rs) ec m) : ccOk B Fc Fm ec m := ccOk_text h₁ h₀ hc (fun m rs e₁ => by rw [hm, e₁, ccBi, ccIf1]) (fun m rs e₁ => by rw [hm, e₁, ccBi, ccIf0]) h₂
theorem ccOk_texte {B : Nat} {Fc Fm kc km : mMi → mRs → mRz} {ec : List (Nat × Nat)} {m : mMi} {b : Int32} (h₁ : ccTop B m) (h₀ : (1, 1) ∈ ec) (hc : ∀ m rs, Fc m rs = bV (F114 m rs) kc) (hm : ∀ m rs, Fm m rs = bI (F230 m rs) (fun v m r => mifO (decide (v = N 0)) (km m r) (rI b m r)))
    (h₂ : ∀ w l n bd lm dp cl β W, ccLd B m w l n bd lm dp cl β W → ccOk B kc (fun m rs => km (ccM0 m) rs) ec m) : ccOk B Fc Fm ec m := ccOk_text h₁ h₀ hc (fun m rs e₁ => by rw [hm, e₁, ccBi, ccIf1e]) (fun m rs e₁ => by rw [hm, e₁, ccBi, ccIf0e]) h₂
/-- an argument that must be good -/
theorem ccOk_in {B E c : Nat} {kc km kc' km' : mMi → mRs → mRz} {ec : List (Nat × Nat)} {m : mMi} {b : Int32} {G : Prop} (h₁ : ccTop B m) (h₀ : (E, c) ∈ ec) (g₁ : G → ∀ rs, kc m rs = kc' m rs) (g₂ : ¬ G → ∀ rs, kc m rs = rX E m (rsT rs)) (g₃ : G → ∀ M rs, ccMo4 m M → km (ccM0 M) rs = km' (ccM0 M) rs) (g₄ : ¬ G → ∀ rs, km (ccM0 m) rs = rI b (mset (ccM0 m) 4 0 0 0 (N c)) rs) (h₂ : G → ccOk B kc' (fun m rs => km' (ccM0 m) rs) ec m) : ccOk B kc (fun m rs => km (ccM0 m) rs) ec m := by
  rcases Classical.em G with g | g
  · exact ccOk_imp (h₂ g) (g₁ g) (fun M rs y₁ => g₃ g M rs y₁)
  · exact ccOk_x (b := b) h₁ h₀ (g₂ g) (g₄ g) ccT0s (ccEq_t (ccEq_t ccEq_rfl))
/-- a number between two bounds -/
theorem ccOk_rng {B a e : Nat} {kc km kc' km' : mMi → mRs → mRz} {ec : List (Nat × Nat)} {m : mMi} {x b : Int32} {c : Nat} (h₁ : ccTop B m) (h₀ : (3, c) ∈ ec) (c₁ : 1 ≤ c) (c₂ : c < 4) (b₁ : a < 100000) (b₂ : e < 100000) (hc : ∀ m rs, kc m rs = bV (F117 x (N a) (N e) m rs) kc')
    (hm : ∀ m rs, km m rs = bI (F177 x (N a) (N e) m rs) (fun v m r => mifO (decide (v ≠ N 0)) (bI (F178 (N 0) (N c) m r) (fun v m r => mifO (decide (v = N 0)) (km' m r) (rI b m r))) (bI (F178 (N 1) (N c) m r) (fun v m r => mifO (decide (v = N 0)) (km' m r) (rI b m r)))))
    (h₂ : ∀ z, x = N z → a ≤ z → z ≤ e → ccOk B kc' (fun m rs => km' (ccM0 m) rs) ec m) : ccOk B kc (fun m rs => km (ccM0 m) rs) ec m := by
  refine ccOk_in (G := ∃ z, x = N z ∧ a ≤ z ∧ z ≤ e) (b := b) (kc' := kc') (km' := km') h₁ h₀ (fun g rs => ?_) (fun g rs => ?_) (fun g M rs y₁ => ?_) (fun g rs => ?_) (fun g => ?_)
  · obtain ⟨z, e₁, e₂, e₃⟩ := g
    rw [hc, e₁, ccE117 (by omega) (by omega) (by omega), if_pos ⟨e₂, e₃⟩, ccBv]
  · rw [hc, ccE117z g (by omega) (by omega), ccBvX]
  · obtain ⟨z, e₁, e₂, e₃⟩ := g
    rw [hm, e₁, ccE177' (by omega) (by omega) (by omega), decide_eq_true e₂, decide_eq_true e₃, ccBi]
    show mifO (decide (N 1 ≠ N 0)) _ _ = _
    rw [ccIf1, ccE178f ccT0s, ccBi, ccIf0e]
  · have e₀ : N e = N (e + 1) - N 1 := by rw [N_sub (by omega), Nat.add_sub_cancel]
    rw [hm, e₀, ccE177z (fun ⟨z, y₁, y₂, y₃⟩ => g ⟨z, y₁, y₂, by omega⟩) (by omega) (by omega), ccBi, ccIf0, ccE178t ccT0s c₁ c₂, ccBi, ccIf1e]
  · obtain ⟨z, e₁, e₂, e₃⟩ := g
    exact h₂ z e₁ e₂ e₃
theorem ccM0_r {m : mMi} {j p : Nat} (h₁ : ¬ (j = 0 ∧ p = 0)) : ccM0 m 4 0 j p = m 4 0 j p := by
  unfold ccM0
  rw [ccRd, if_neg (by omega)]
theorem ccOk_118 {B : Nat} {m : mMi} {x : Int32} (h₁ : ccTop B m) : ccOk B (F118 x) (F236 x) [(1, 1), (3, 2)] m := by
  refine ccOk_textn (b := N 0) h₁ (List.mem_cons_self) (fun m rs => rfl) (fun m rs => rfl) (fun w l n bd lm dp cl β W h₂ => ?_)
  refine ccOk_rng (b := N 0) h₁ (List.mem_cons_of_mem _ List.mem_cons_self) (by omega) (by omega) (by omega) (by omega) (fun m rs => rfl) (fun m rs => rfl) (fun z e₁ e₂ e₃ => ?_)
  obtain ⟨⟨a₁, a₂, a₃, a₄⟩, ⟨c₁, c₂, c₃, c₄⟩, ⟨d₁, d₂, d₃⟩, ⟨d₄, d₅, d₆⟩, ⟨d₇, d₈, d₉⟩, ⟨f₁, f₂, f₃⟩, _⟩ := h₂.2.2.1
  have r₂ := ccM0_r (m := m) (j := 0) (p := 2) (by omega)
  have r₃ := ccM0_r (m := m) (j := 0) (p := 3) (by omega)
  have r₄ := ccM0_r (m := m) (j := 0) (p := 4) (by omega)
  have r₅ := ccM0_r (m := m) (j := 0) (p := 5) (by omega)
  have r₆ := ccM0_r (m := m) (j := 0) (p := 6) (by omega)
  have r₇ := ccM0_r (m := m) (j := 0) (p := 7) (by omega)
  refine ccOk_q (v := m 1 0 1 z) (m₁ := m) (m₂ := ccM0 m) h₁ (fun rs => ?_) (fun rs => ?_) ccT0s ccEq_rfl (ccEq_t ccEq_rfl) (fun _ _ _ => rfl)
  · rw [e₁]
    simp (disch := omega) only [true_and, and_true, false_and, and_false, if_true, if_false, ccIte, ccBi, ccBiX, ccBv, ccBvX, ccZ0, ccZ1, ccTZ, ccT0, ccT1, Bool.or_false, ccMckT, ccMckIn, ne_eq, not_true_eq_false, not_false_eq_true, if_pos, if_neg, reduceIte, eq_self, Bool.false_eq_true, Bool.true_eq_false, mix_N, N_add, N_mul, N_sub, N_div, ccMod, N_lt, N_le, N_eq, ccNm, ccMN, ccNm2, ccM2N, ccMM2, ccM2M, ccMlt, ccMle, ccNltM, ccNleM, ccM2lt, ccM2le, ccNlt2, ccNle2, Nat.reduceAdd, Nat.reduceMul, Nat.reduceSub, Nat.reduceLT, Nat.reduceLeDiff, Nat.reduceEqDiff, Nat.reduceDiv, Nat.reduceMod]
  · have e₄ : z = 0 ∨ z = 1 ∨ z = 2 ∨ z = 3 ∨ z = 4 ∨ z = 5 := by omega
    rcases e₄ with y₁ | y₁ | y₁ | y₁ | y₁ | y₁
    · subst y₁
      rw [e₁, a₁]
      simp (disch := omega) only [r₂, c₁, true_and, and_true, false_and, and_false, if_true, if_false, ccIte, ccBi, ccBiX, ccBv, ccBvX, ccZ0, ccZ1, ccTZ, ccT0, ccT1, Bool.or_false, ccMckT, ccMckIn, ne_eq, not_true_eq_false, not_false_eq_true, if_pos, if_neg, reduceIte, eq_self, Bool.false_eq_true, Bool.true_eq_false, mix_N, N_add, N_mul, N_sub, N_div, ccMod, N_lt, N_le, N_eq, ccNm, ccMN, ccNm2, ccM2N, ccMM2, ccM2M, ccMlt, ccMle, ccNltM, ccNleM, ccM2lt, ccM2le, ccNlt2, ccNle2, Nat.reduceAdd, Nat.reduceMul, Nat.reduceSub, Nat.reduceLT, Nat.reduceLeDiff, Nat.reduceEqDiff, Nat.reduceDiv, Nat.reduceMod]
    · subst y₁
      rw [e₁, a₂]
      simp (disch := omega) only [r₃, c₂, true_and, and_true, false_and, and_false, if_true, if_false, ccIte, ccBi, ccBiX, ccBv, ccBvX, ccZ0, ccZ1, ccTZ, ccT0, ccT1, Bool.or_false, ccMckT, ccMckIn, ne_eq, not_true_eq_false, not_false_eq_true, if_pos, if_neg, reduceIte, eq_self, Bool.false_eq_true, Bool.true_eq_false, mix_N, N_add, N_mul, N_sub, N_div, ccMod, N_lt, N_le, N_eq, ccNm, ccMN, ccNm2, ccM2N, ccMM2, ccM2M, ccMlt, ccMle, ccNltM, ccNleM, ccM2lt, ccM2le, ccNlt2, ccNle2, Nat.reduceAdd, Nat.reduceMul, Nat.reduceSub, Nat.reduceLT, Nat.reduceLeDiff, Nat.reduceEqDiff, Nat.reduceDiv, Nat.reduceMod]
    · subst y₁
      rw [e₁, d₄]
      simp (disch := omega) only [r₄, d₅, true_and, and_true, false_and, and_false, if_true, if_false, ccIte, ccBi, ccBiX, ccBv, ccBvX, ccZ0, ccZ1, ccTZ, ccT0, ccT1, Bool.or_false, ccMckT, ccMckIn, ne_eq, not_true_eq_false, not_false_eq_true, if_pos, if_neg, reduceIte, eq_self, Bool.false_eq_true, Bool.true_eq_false, mix_N, N_add, N_mul, N_sub, N_div, ccMod, N_lt, N_le, N_eq, ccNm, ccMN, ccNm2, ccM2N, ccMM2, ccM2M, ccMlt, ccMle, ccNltM, ccNleM, ccM2lt, ccM2le, ccNlt2, ccNle2, Nat.reduceAdd, Nat.reduceMul, Nat.reduceSub, Nat.reduceLT, Nat.reduceLeDiff, Nat.reduceEqDiff, Nat.reduceDiv, Nat.reduceMod]
    · subst y₁
      rw [e₁, d₇]
      simp (disch := omega) only [r₅, d₈, true_and, and_true, false_and, and_false, if_true, if_false, ccIte, ccBi, ccBiX, ccBv, ccBvX, ccZ0, ccZ1, ccTZ, ccT0, ccT1, Bool.or_false, ccMckT, ccMckIn, ne_eq, not_true_eq_false, not_false_eq_true, if_pos, if_neg, reduceIte, eq_self, Bool.false_eq_true, Bool.true_eq_false, mix_N, N_add, N_mul, N_sub, N_div, ccMod, N_lt, N_le, N_eq, ccNm, ccMN, ccNm2, ccM2N, ccMM2, ccM2M, ccMlt, ccMle, ccNltM, ccNleM, ccM2lt, ccM2le, ccNlt2, ccNle2, Nat.reduceAdd, Nat.reduceMul, Nat.reduceSub, Nat.reduceLT, Nat.reduceLeDiff, Nat.reduceEqDiff, Nat.reduceDiv, Nat.reduceMod]
    · subst y₁
      rw [e₁, f₁]
      simp (disch := omega) only [r₆, f₂, true_and, and_true, false_and, and_false, if_true, if_false, ccIte, ccBi, ccBiX, ccBv, ccBvX, ccZ0, ccZ1, ccTZ, ccT0, ccT1, Bool.or_false, ccMckT, ccMckIn, ne_eq, not_true_eq_false, not_false_eq_true, if_pos, if_neg, reduceIte, eq_self, Bool.false_eq_true, Bool.true_eq_false, mix_N, N_add, N_mul, N_sub, N_div, ccMod, N_lt, N_le, N_eq, ccNm, ccMN, ccNm2, ccM2N, ccMM2, ccM2M, ccMlt, ccMle, ccNltM, ccNleM, ccM2lt, ccM2le, ccNlt2, ccNle2, Nat.reduceAdd, Nat.reduceMul, Nat.reduceSub, Nat.reduceLT, Nat.reduceLeDiff, Nat.reduceEqDiff, Nat.reduceDiv, Nat.reduceMod]
    · subst y₁
      rw [e₁, d₁]
      simp (disch := omega) only [r₇, d₂, true_and, and_true, false_and, and_false, if_true, if_false, ccIte, ccBi, ccBiX, ccBv, ccBvX, ccZ0, ccZ1, ccTZ, ccT0, ccT1, Bool.or_false, ccMckT, ccMckIn, ne_eq, not_true_eq_false, not_false_eq_true, if_pos, if_neg, reduceIte, eq_self, Bool.false_eq_true, Bool.true_eq_false, mix_N, N_add, N_mul, N_sub, N_div, ccMod, N_lt, N_le, N_eq, ccNm, ccMN, ccNm2, ccM2N, ccMM2, ccM2M, ccMlt, ccMle, ccNltM, ccNleM, ccM2lt, ccM2le, ccNlt2, ccNle2, Nat.reduceAdd, Nat.reduceMul, Nat.reduceSub, Nat.reduceLT, Nat.reduceLeDiff, Nat.reduceEqDiff, Nat.reduceDiv, Nat.reduceMod]
theorem ccOk_126 {B : Nat} {m : mMi} {x : Int32} (h₁ : ccTop B m) : ccOk B (F126 x) (F247 x) [(1, 1), (2, 2)] m := by
  refine ccOk_textn (b := N 0) h₁ (List.mem_cons_self) (fun m rs => rfl) (fun m rs => rfl) (fun w l n bd lm dp cl β W h₂ => ?_)
  obtain ⟨h, t, q₁, _⟩ := ccLd_R h₂
  have b₀ : n ≤ 40 := h₂.2.2.1.1.2.2.2.2.2.2.2
  have b₁ := ccR_h q₁
  obtain ⟨_, k₁, k₂, k₃, _⟩ := q₁.2.2.2.1
  refine ccOk_in (G := ∃ a, x = N a ∧ a < h) (b := N 0) (km := fun M rs => bI (F177 x (N 0) (M 4 0 3 7 - N 1) M rs) (fun v m r => mifO (decide (v ≠ N 0)) (bI (F178 (N 0) (N 2) m r) (fun v m r => mifO (decide (v = N 0)) (mckO (mIn (N 728 + x) 918) (rI (m 4 0 3 (mix (N 728 + x))) m r)) (rI (N 0) m r))) (bI (F178 (N 1) (N 2) m r) (fun v m r => mifO (decide (v = N 0)) (mckO (mIn (N 728 + x) 918) (rI (m 4 0 3 (mix (N 728 + x))) m r)) (rI (N 0) m r))))) (kc' := fun m rs => mckO (mIn x 40) (rI (m 0 0 14 (mix x)) m rs)) (km' := fun m rs => mckO (mIn (N 728 + x) 918) (rI (m 4 0 3 (mix (N 728 + x))) m rs)) h₁ (List.mem_cons_of_mem _ List.mem_cons_self) (fun g rs => ?_) (fun g rs => ?_) (fun g M rs y₁ => ?_) (fun g rs => ?_) (fun g => ?_)
  · obtain ⟨a, e₁, e₂⟩ := g
    show bV (F106 x (m 0 0 10 5) m rs) _ = _
    rw [k₁, e₁, ccE106 (by omega) (by omega), if_pos e₂, ccBv]
  · show bV (F106 x (m 0 0 10 5) m rs) _ = _
    rw [k₁]
    rcases ccAny x with ⟨a, e₁, e₂⟩ | ⟨e₁, _⟩
    · rw [e₁, ccE106 e₂ (by omega), if_neg (fun y₁ => g ⟨a, e₁, y₁⟩), ccBvX]
    · rw [ccE106n e₁, ccBvX]
  · obtain ⟨a, e₁, e₂⟩ := g
    show bI (F177 x (N 0) (ccM0 M 4 0 3 7 - N 1) (ccM0 M) rs) _ = _
    rw [ccM0_r (by omega), y₁, k₂, e₁, N_sub (by omega), ccE177' (by omega) (by omega) (by omega), decide_eq_true (Nat.zero_le a), decide_eq_true (by omega : a ≤ h - 1), ccBi]
    show mifO (decide (N 1 ≠ N 0)) _ _ = _
    rw [ccIf1, ccE178f ccT0s, ccBi, ccIf0e]
  · show bI (F177 x (N 0) (ccM0 m 4 0 3 7 - N 1) (ccM0 m) rs) _ = _
    rw [ccM0_r (by omega), k₂, ccE177z (fun ⟨a, y₁, _, y₃⟩ => g ⟨a, y₁, y₃⟩) (by omega) (by omega), ccBi, ccIf0, ccE178t ccT0s (by omega) (by omega), ccBi, ccIf1e]
  · obtain ⟨a, e₁, e₂⟩ := g
    refine ccOk_q (v := m 0 0 14 a) (m₁ := m) (m₂ := ccM0 m) h₁ (fun rs => ?_) (fun rs => ?_) ccT0s ccEq_rfl (ccEq_t ccEq_rfl) (fun _ _ _ => rfl)
    · rw [e₁]
      simp (disch := omega) only [true_and, and_true, false_and, and_false, if_true, if_false, ccIte, ccBi, ccBiX, ccBv, ccBvX, ccZ0, ccZ1, ccTZ, ccT0, ccT1, Bool.or_false, ccMckT, ccMckIn, ne_eq, not_true_eq_false, not_false_eq_true, if_pos, if_neg, reduceIte, eq_self, Bool.false_eq_true, Bool.true_eq_false, mix_N, N_add, N_mul, N_sub, N_div, ccMod, N_lt, N_le, N_eq, ccNm, ccMN, ccNm2, ccM2N, ccMM2, ccM2M, ccMlt, ccMle, ccNltM, ccNleM, ccM2lt, ccM2le, ccNlt2, ccNle2, Nat.reduceAdd, Nat.reduceMul, Nat.reduceSub, Nat.reduceLT, Nat.reduceLeDiff, Nat.reduceEqDiff, Nat.reduceDiv, Nat.reduceMod]
    · have r₁ := ccM0_r (m := m) (j := 3) (p := 728 + a) (by omega)
      rw [e₁, ← k₃ a e₂]
      simp (disch := omega) only [r₁, true_and, and_true, false_and, and_false, if_true, if_false, ccIte, ccBi, ccBiX, ccBv, ccBvX, ccZ0, ccZ1, ccTZ, ccT0, ccT1, Bool.or_false, ccMckT, ccMckIn, ne_eq, not_true_eq_false, not_false_eq_true, if_pos, if_neg, reduceIte, eq_self, Bool.false_eq_true, Bool.true_eq_false, mix_N, N_add, N_mul, N_sub, N_div, ccMod, N_lt, N_le, N_eq, ccNm, ccMN, ccNm2, ccM2N, ccMM2, ccM2M, ccMlt, ccMle, ccNltM, ccNleM, ccM2lt, ccM2le, ccNlt2, ccNle2, Nat.reduceAdd, Nat.reduceMul, Nat.reduceSub, Nat.reduceLT, Nat.reduceLeDiff, Nat.reduceEqDiff, Nat.reduceDiv, Nat.reduceMod]
