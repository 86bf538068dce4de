/-! A CARD IS PULLED OUT. -/
theorem ccE8 {m : mMi} {rs : mRs} {i k : Nat} (h₁ : k < 40) : F8 i (N k) m rs = rI (ccT (! decide (m 0 i 13 k < N 0))) m rs := by
  unfold F8
  by_cases h₂ : m 0 i 13 k < N 0
  · simp (disch := omega) only [true_and, and_true, false_and, and_false, if_true, if_false, ccIte, ccBi, ccBiX, ccBv, ccBvX, ccZ0, ccZ1, ccTZ, ccT0, ccT1, Bool.or_false, ccMckT, ccMckIn, ne_eq, not_true_eq_false, not_false_eq_true, if_pos, if_neg, reduceIte, eq_self, Bool.false_eq_true, Bool.true_eq_false, mix_N, N_add, N_mul, N_sub, N_div, ccMod, N_lt, N_le, N_eq, ccNm, ccMN, ccNm2, ccM2N, ccMM2, ccM2M, ccMlt, ccMle, ccNltM, ccNleM, ccM2lt, ccM2le, ccNlt2, ccNle2, Nat.reduceAdd, Nat.reduceMul, Nat.reduceSub, Nat.reduceLT, Nat.reduceLeDiff, Nat.reduceEqDiff, Nat.reduceDiv, Nat.reduceMod, h₂, decide_true]
    rfl
  · simp (disch := omega) only [true_and, and_true, false_and, and_false, if_true, if_false, ccIte, ccBi, ccBiX, ccBv, ccBvX, ccZ0, ccZ1, ccTZ, ccT0, ccT1, Bool.or_false, ccMckT, ccMckIn, ne_eq, not_true_eq_false, not_false_eq_true, if_pos, if_neg, reduceIte, eq_self, Bool.false_eq_true, Bool.true_eq_false, mix_N, N_add, N_mul, N_sub, N_div, ccMod, N_lt, N_le, N_eq, ccNm, ccMN, ccNm2, ccM2N, ccMM2, ccM2M, ccMlt, ccMle, ccNltM, ccNleM, ccM2lt, ccM2le, ccNlt2, ccNle2, Nat.reduceAdd, Nat.reduceMul, Nat.reduceSub, Nat.reduceLT, Nat.reduceLeDiff, Nat.reduceEqDiff, Nat.reduceDiv, Nat.reduceMod, h₂, decide_false]
    rfl
/-- where a laid card lies -/
def ccLaid (C : Nat → Nat → Int32) (k : Nat) : Prop := ∃ p, p < 96 ∧ C 13 k = N p
theorem ccLaid_c {n : Nat} {β : Nat → Int32} {C : Nat → Nat → Int32} {s : Nat → Int32} {k : Nat} (q₁ : ccRC ccX0 n β C s) (h₁ : k < n) (h₂ : n ≤ 40) : (ccLaid C k ∧ ¬ C 13 k < N 0 ∧ ¬ s (9 + 6 * k) < N 2 ∧ N 2 ≤ s (9 + 6 * k)) ∨ (¬ ccLaid C k ∧ C 13 k < N 0 ∧ ¬ N 2 ≤ s (9 + 6 * k)) := by
  have lt₀ : ∀ z : Int, -5 < z → z < 0 → I z < N 0 := fun z y₁ y₂ => by
    rw [← I_N, I_lt (by omega) (by omega) (by omega) (by omega)]
    omega
  have ne₀ : ∀ z : Int, ∀ p : Nat, -5 < z → z < 0 → p < 96 → I z ≠ N p := fun z p y₁ y₂ y₃ y₄ => by
    have y₅ := lt₀ z y₁ y₂
    rw [y₄, N_lt (by omega) (by omega)] at y₅
    omega
  rcases (q₁ k h₁).2 with ⟨h₃, _⟩ | ⟨_, e₁, e₂⟩ | ⟨_, e₁, e₂⟩ | ⟨_, p, e₀, e₁, _, e₂⟩
  · cases h₃
  · refine Or.inr ⟨fun ⟨p, y₁, y₂⟩ => ne₀ (-1) p (by omega) (by omega) y₁ (Eq.trans e₁.symm y₂), by rw [e₁]; exact lt₀ (-1) (by omega) (by omega), ?_⟩
    rw [e₂, N_le (by omega) (by omega)]
    omega
  · refine Or.inr ⟨fun ⟨p, y₁, y₂⟩ => ne₀ (-2) p (by omega) (by omega) y₁ (Eq.trans e₁.symm y₂), by rw [e₁]; exact lt₀ (-2) (by omega) (by omega), ?_⟩
    rw [e₂, N_le (by omega) (by omega)]
    omega
  · have g₁ : ¬ N p < N 0 := by rw [N_lt (by omega) (by omega)]; omega
    rcases e₂ with ⟨e₂, _⟩ | ⟨e₂, _⟩
    · refine Or.inl ⟨⟨p, e₀, e₁⟩, by rw [e₁]; exact g₁, ?_, ?_⟩
      · rw [e₂, N_lt (by omega) (by omega)]
        omega
      · rw [e₂, N_le (by omega) (by omega)]
        omega
    · refine Or.inl ⟨⟨p, e₀, e₁⟩, by rw [e₁]; exact g₁, ?_, ?_⟩
      · rw [e₂, N_lt (by omega) (by omega)]
        omega
      · rw [e₂, N_le (by omega) (by omega)]
        omega
theorem ccPull {i w l n bd h t k : Nat} {β wt : Nat → Int32} {W : Nat → Nat} {mc mm : mMi} (q : ccJ mc mm i w l n bd β wt W h t) (h₁ : k < n) (h₂ : ccLaid (mc 0 i) k) :
    ∃ m₁ m₂ u v, (∀ rs, F38 i (N k) mc rs = rI (N v - N t) m₁ rs) ∧ (∀ rs, F276 (N k) mm rs = rI (N v - N t) m₂ rs) ∧ ccJ m₁ m₂ i w l n bd β wt W u v ∧ ccG (mc 0 i) (m₁ 0 i) t v ∧ ccFr i mc m₁ ∧ ccFq mm m₂ ∧ ccQt W (m₁ 0 i) w l := by
  have b₃ : n ≤ 40 := q.1.1.2.2.2.2.2.2.2
  have r₀ := q.1.2.2.2.2.2.1
  have tt := ccR_tt r₀
  obtain ⟨p, p₁, p₂⟩ := h₂
  obtain ⟨p₀, e₀, e₁, e₂, e₃⟩ : ∃ p, p < 96 ∧ mc 0 i 13 k = N p ∧ mm 4 0 3 (10 + 6 * k) = N p ∧ ((mm 4 0 3 (9 + 6 * k) = N 2 ∧ mc 0 i 2 p ≠ I (-1) ∧ (mc 0 i 2 p = N k ∨ mc 0 i 3 p = N k)) ∨ (mm 4 0 3 (9 + 6 * k) = N 3 ∧ mc 0 i 6 p = N k)) := by
    have ne₀ : ∀ z : Int, -5 < z → z < 0 → I z ≠ N p := fun z y₁ y₂ y₃ => by
      have y₄ : I z < N 0 := by
        rw [← I_N, I_lt (by omega) (by omega) (by omega) (by omega)]
        omega
      rw [y₃, N_lt (by omega) (by omega)] at y₄
      omega
    rcases (r₀.2.2.1 k h₁).2 with ⟨h₃, _⟩ | ⟨_, e₁, e₂⟩ | ⟨_, e₁, e₂⟩ | ⟨_, p, e₀, e₁, e₂, e₃⟩
    · cases h₃
    · exact absurd (Eq.trans e₁.symm p₂) (ne₀ (-1) (by omega) (by omega))
    · exact absurd (Eq.trans e₁.symm p₂) (ne₀ (-2) (by omega) (by omega))
    · exact ⟨p, e₀, e₁, e₂, e₃⟩
  have d₁ : N 0 ≤ N p₀ := by rw [N_le (by omega) (by omega)]; omega
  have d₂ : 12 * (p₀ / 12) + p₀ % 12 = p₀ := by omega
  have plc := q.1.2.2.2.2.2.2.1 p₀ e₀
  rcases e₃ with ⟨e₃, e₄, e₅⟩ | ⟨e₃, e₄⟩
  · obtain ⟨g₁, g₂⟩ := plc.1 e₄
    obtain ⟨m₁, m₂, a₁, a₂, a₃, _⟩ := ccFallP (L := p₀ / 12) (c := p₀ % 12) (cs := 3) (x := N k) q.1 g₁ g₂ (by rw [d₂]; exact e₄) (by omega)
    rw [d₂] at a₂
    obtain ⟨u, v, j₁, j₂⟩ := ccJ_beh q a₃
    obtain ⟨m₃, m₄, u₁, v₁, c₁, c₂, c₃, c₄, c₅, c₆, c₇, _⟩ := ccE19 j₁
    have tv := ccR_tt c₃.1.2.2.2.2.2.1
    have f₃ : ∀ rs, F30 i (N k) mc rs = rI (N 0) mc rs := fun rs => by
      unfold F30
      by_cases y₁ : mc 0 i 6 p₀ = I (-1)
      · have y₂ : ccF (mc 0 i) p₀ = false := by unfold ccF; rw [y₁]; rfl
        simp (disch := omega) only [true_and, and_true, false_and, and_false, if_true, if_false, ccIte, ccBi, ccBiX, ccBv, ccBvX, ccZ0, ccZ1, ccTZ, ccT0, ccT1, Bool.or_false, ccMckT, ccMckIn, ne_eq, not_true_eq_false, not_false_eq_true, if_pos, if_neg, reduceIte, eq_self, Bool.false_eq_true, Bool.true_eq_false, mix_N, N_add, N_mul, N_sub, N_div, ccMod, N_lt, N_le, N_eq, ccNm, ccMN, ccNm2, ccM2N, ccMM2, ccM2M, ccMlt, ccMle, ccNltM, ccNleM, ccM2lt, ccM2le, ccNlt2, ccNle2, Nat.reduceAdd, Nat.reduceMul, Nat.reduceSub, Nat.reduceLT, Nat.reduceLeDiff, Nat.reduceEqDiff, Nat.reduceDiv, Nat.reduceMod, e₁, ccE52, y₂]
      · have y₂ : ccF (mc 0 i) p₀ = true := by unfold ccF; rw [decide_eq_false y₁]; rfl
        have y₃ : mc 0 i 6 p₀ ≠ N k := fun y₃ => by
          obtain ⟨a, z₁, z₂, z₃, z₄, _⟩ := r₀.2.1.2 p₀ e₀ y₁
          rw [y₃] at z₂
          have z₅ : k = a := by
            by_cases z₆ : k = a
            · exact z₆
            · have z₇ : N k ≠ N a := by rw [ne_eq, N_eq (by omega) (by omega)]; exact z₆
              exact absurd z₂ z₇
          rw [← z₅, e₃] at z₄
          exact absurd z₄ (by decide)
        simp (disch := omega) only [true_and, and_true, false_and, and_false, if_true, if_false, ccIte, ccBi, ccBiX, ccBv, ccBvX, ccZ0, ccZ1, ccTZ, ccT0, ccT1, Bool.or_false, ccMckT, ccMckIn, ne_eq, not_true_eq_false, not_false_eq_true, if_pos, if_neg, reduceIte, eq_self, Bool.false_eq_true, Bool.true_eq_false, mix_N, N_add, N_mul, N_sub, N_div, ccMod, N_lt, N_le, N_eq, ccNm, ccMN, ccNm2, ccM2N, ccMM2, ccM2M, ccMlt, ccMle, ccNltM, ccNleM, ccM2lt, ccM2le, ccNlt2, ccNle2, Nat.reduceAdd, Nat.reduceMul, Nat.reduceSub, Nat.reduceLT, Nat.reduceLeDiff, Nat.reduceEqDiff, Nat.reduceDiv, Nat.reduceMod, e₁, ccE52, y₂, y₃]
    refine ⟨m₃, m₄, u₁, v₁, fun rs => ?_, fun rs => ?_, c₃, ccG_trans j₂ c₄, ccFr_trans a₃.2.1 c₅, ccFq_trans a₃.2.2.1 c₆, c₇⟩
    · unfold F38
      rw [ccMckIn (by omega : k < 40) (by omega), mix_N (by omega), e₁, decide_eq_true d₁]
      show bI (F30 i (N k) mc rs) _ = _
      rw [f₃, ccBi, ccIf0e, ccE111 (by omega), ccBi, ccE112 (by omega), ccBi, a₁, ccBv, c₁, ccBi, tv.1, tt.1]
    · unfold F276
      rw [ccE204c (by omega), ccBi, e₂, ccE204b (by omega), ccBi, e₃]
      show bV (F222 (N p₀) (N 0) (N 3) (N k) mm rs) _ = _
      rw [a₂, ccBv, c₂, ccBv, tv.2, tt.2]
  · have e₅ : mc 0 i 6 p₀ ≠ I (-1) := by
      rw [e₄]
      intro y₃
      have y₄ : I (-1) < N 0 := by
        rw [← I_N, I_lt (by omega) (by omega) (by omega) (by omega)]
        omega
      rw [← y₃, N_lt (by omega) (by omega)] at y₄
      omega
    obtain ⟨_, g₁, g₂⟩ := plc.2 e₅
    obtain ⟨m₁, m₂, a₁, a₂, a₃⟩ := ccFallF (L := p₀ / 12) (c := p₀ % 12) (cs := 3) (x := N k) q.1 g₁ g₂ (by rw [d₂]; exact e₅) (by omega)
    rw [d₂] at a₂
    obtain ⟨u, v, j₁, j₂⟩ := ccJ_beh q a₃
    obtain ⟨m₃, m₄, u₁, v₁, c₁, c₂, c₃, c₄, c₅, c₆, c₇, _⟩ := ccE19 j₁
    have tv := ccR_tt c₃.1.2.2.2.2.2.1
    have f₃ : ∀ rs, F30 i (N k) mc rs = rI (N 1) mc rs := fun rs => by
      unfold F30
      have y₂ : ccF (mc 0 i) p₀ = true := by unfold ccF; rw [decide_eq_false e₅]; rfl
      simp (disch := omega) only [true_and, and_true, false_and, and_false, if_true, if_false, ccIte, ccBi, ccBiX, ccBv, ccBvX, ccZ0, ccZ1, ccTZ, ccT0, ccT1, Bool.or_false, ccMckT, ccMckIn, ne_eq, not_true_eq_false, not_false_eq_true, if_pos, if_neg, reduceIte, eq_self, Bool.false_eq_true, Bool.true_eq_false, mix_N, N_add, N_mul, N_sub, N_div, ccMod, N_lt, N_le, N_eq, ccNm, ccMN, ccNm2, ccM2N, ccMM2, ccM2M, ccMlt, ccMle, ccNltM, ccNleM, ccM2lt, ccM2le, ccNlt2, ccNle2, Nat.reduceAdd, Nat.reduceMul, Nat.reduceSub, Nat.reduceLT, Nat.reduceLeDiff, Nat.reduceEqDiff, Nat.reduceDiv, Nat.reduceMod, e₁, ccE52, y₂, e₄]
    refine ⟨m₃, m₄, u₁, v₁, fun rs => ?_, fun rs => ?_, c₃, ccG_trans j₂ c₄, ccFr_trans a₃.2.1 c₅, ccFq_trans a₃.2.2.1 c₆, c₇⟩
    · unfold F38
      rw [ccMckIn (by omega : k < 40) (by omega), mix_N (by omega), e₁, decide_eq_true d₁]
      show bI (F30 i (N k) mc rs) _ = _
      rw [f₃, ccBi, ccIf1e, ccE111 (by omega), ccBi, ccE112 (by omega), ccBi, a₁, ccBv, c₁, ccBi, tv.1, tt.1]
    · unfold F276
      rw [ccE204c (by omega), ccBi, e₂, ccE204b (by omega), ccBi, e₃]
      show bV (F222 (N p₀) (N 1) (N 3) (N k) mm rs) _ = _
      rw [a₂, ccBv, c₂, ccBv, tv.2, tt.2]
theorem ccOk_159 {B : Nat} {m : mMi} {x : Int32} (hB : B ≤ 900000000) (h₁ : ccTop B m) : ccOk B (F159 x) (F294 x) [(1, 1), (2, 2), (3, 3)] m := by
  refine ccOk_card (b := N 0) h₁ (List.mem_cons_self) (List.mem_cons_of_mem _ List.mem_cons_self) (fun m rs => rfl) (fun m rs => rfl) (fun w l n bd lm dp cl β W a h₂ e₁ e₂ => ?_)
  have b₃ : n ≤ 40 := h₂.2.2.1.1.2.2.2.2.2.2.2
  obtain ⟨h₀, t₀, q₀, _⟩ := ccLd_R h₂
  have la := ccLaid_c q₀.2.2.1 e₂ b₃
  refine ccOk_in (G := ccLaid (m 0 0) a) (E := 3) (c := 3) (b := N 0) (km := fun M rs => bI (F204 x (N 1) M rs) (fun v m r => mifO (decide (N 2 ≤ v)) (bI (F178 (N 0) (N 3) m r) (fun v m r => mifO (decide (v = N 0)) (bV (F291 m r) (fun m r => bI (F276 x m r) (fun v m r => rI v m r))) (rI (N 0) m r))) (bI (F178 (N 1) (N 3) m r) (fun v m r => mifO (decide (v = N 0)) (bV (F291 m r) (fun m r => bI (F276 x m r) (fun v m r => rI v m r))) (rI (N 0) m r))))) (kc' := fun m rs => bV (F60 0 m rs) (fun m r => bI (F38 0 x m r) (fun v m r => rI v m r))) (km' := fun M rs => bV (F291 M rs) (fun m r => bI (F276 x m r) (fun v m r => rI v m r))) h₁ (List.mem_cons_of_mem _ (List.mem_cons_of_mem _ List.mem_cons_self)) (fun g rs => ?_) (fun g rs => ?_) (fun g M rs y₁ => ?_) (fun g rs => ?_) (fun g => ?_)
  · show bI (F8 0 x m rs) _ = _
    rcases la with ⟨_, y₂, _⟩ | ⟨y₁, _⟩
    · rw [e₁, ccE8 (by omega), decide_eq_false y₂, ccBi]
      show bV (F107 (N 1) m rs) _ = _
      rw [ccE107t, ccBv]
    · exact absurd g y₁
  · show bI (F8 0 x m rs) _ = _
    rcases la with ⟨y₁, _⟩ | ⟨_, y₂, _⟩
    · exact absurd y₁ g
    · rw [e₁, ccE8 (by omega), decide_eq_true y₂, ccBi]
      show bV (F107 (N 0) m rs) _ = _
      rw [ccE107f, ccBvX]
  · show bI (F204 x (N 1) (ccM0 M) rs) _ = _
    rcases la with ⟨_, _, _, y₂⟩ | ⟨y₂, _⟩
    · rw [e₁, ccE204b (by omega), ccM0_r (by omega), y₁, ccBi, ccIte, if_pos y₂, ccE178f ccT0s, ccBi, ccIf0e]
    · exact absurd g y₂
  · show bI (F204 x (N 1) (ccM0 m) rs) _ = _
    rcases la with ⟨y₁, _⟩ | ⟨_, _, y₂⟩
    · exact absurd y₁ g
    · rw [e₁, ccE204b (by omega), ccM0_r (by omega), ccBi, ccIte, if_neg y₂, ccE178t ccT0s (by omega) (by omega), ccBi, ccIf1e]
  · refine ccChange h₁ h₂ (fun mc mm g₁ g₂ g₃ g₄ g₅ => ?_)
    obtain ⟨h, t, j₁, j₂, j₃, j₄, _⟩ := ccJ_of hB h₂ g₁ g₂ g₃ g₄ g₅
    obtain ⟨m₁, m₂, u, v, q₁, q₂, q₃, q₄, q₅, q₆, q₇⟩ := ccPull (k := a) j₁ e₂ (by rw [g₁]; exact g)
    have p₁ := ccPcs_le (C := mc 0 0)
    have p₂ := q₄.2
    refine ⟨m₁, m₂, N v - N t, fun rs => ?_, fun rs => ?_, q₅, q₆, ccKK_of q₃ q₇ (ccQn_G q₄ j₄) (by omega)⟩
    · show bI (F38 0 x mc rs) _ = _
      rw [e₁, q₁, ccBi]
    · show bI (F276 x mm rs) _ = _
      rw [e₁, q₂, ccBi]
