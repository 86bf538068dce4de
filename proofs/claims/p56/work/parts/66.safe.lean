/-! CALLS: safest. -/
theorem ccAg_symm {C D : Nat → Nat → Int32} (q : ccAg C D) : ccAg D C := ⟨fun j p a₁ a₂ a₃ => (q.1 j p a₁ a₂ a₃).symm, fun p a₁ => (q.2.1 p a₁).symm, fun p a₁ => (q.2.2.1 p a₁).symm, q.2.2.2.1.symm, fun j p a₁ a₂ a₃ => (q.2.2.2.2.1 j p a₁ a₂ a₃).symm, q.2.2.2.2.2.1.symm, q.2.2.2.2.2.2.1.symm, q.2.2.2.2.2.2.2.symm⟩
theorem ccAg_trans {C D E : Nat → Nat → Int32} (q : ccAg C D) (r : ccAg D E) : ccAg C E := ⟨fun j p a₁ a₂ a₃ => Eq.trans (r.1 j p a₁ a₂ a₃) (q.1 j p a₁ a₂ a₃), fun p a₁ => Eq.trans (r.2.1 p a₁) (q.2.1 p a₁), fun p a₁ => Eq.trans (r.2.2.1 p a₁) (q.2.2.1 p a₁), Eq.trans r.2.2.2.1 q.2.2.2.1, fun j p a₁ a₂ a₃ => Eq.trans (r.2.2.2.2.1 j p a₁ a₂ a₃) (q.2.2.2.2.1 j p a₁ a₂ a₃), Eq.trans r.2.2.2.2.2.1 q.2.2.2.2.2.1, Eq.trans r.2.2.2.2.2.2.1 q.2.2.2.2.2.2.1, Eq.trans r.2.2.2.2.2.2.2 q.2.2.2.2.2.2.2⟩
theorem ccAg_U {C X : Nat → Nat → Int32} {j₀ p₀ : Nat} {v : Int32} (q : ccAg C X) : ccAg (ccU C j₀ p₀ v) (ccU X j₀ p₀ v) := by
  refine ⟨fun j p a₁ a₂ a₃ => ?_, fun p a₁ => ?_, fun p a₁ => ?_, ?_, fun j p a₁ a₂ a₃ => ?_, ?_, ?_, ?_⟩
  · unfold ccU
    rw [q.1 j p a₁ a₂ a₃]
  · unfold ccU
    rw [q.2.1 p a₁]
  · unfold ccU
    rw [q.2.2.1 p a₁]
  · unfold ccU
    rw [q.2.2.2.1]
  · unfold ccU
    rw [q.2.2.2.2.1 j p a₁ a₂ a₃]
  · unfold ccU
    rw [q.2.2.2.2.2.1]
  · unfold ccU
    rw [q.2.2.2.2.2.2.1]
  · unfold ccU
    rw [q.2.2.2.2.2.2.2]
def ccLD (C : Nat → Nat → Int32) (p a : Nat) : Nat → Nat → Int32 := ccU (ccU C 6 p (N a)) 13 a (N p)
theorem ccAg_LD {C X : Nat → Nat → Int32} {p a : Nat} (q : ccAg C X) : ccAg (ccLD C p a) (ccLD X p a) := ccAg_U (ccAg_U q)
theorem ccLD_b {C : Nat → Nat → Int32} {p a : Nat} (h₁ : C 13 a = I (-1)) (h₂ : C 6 p = I (-1)) : ccU (ccU (ccLD C p a) 13 a (I (-1))) 6 p (I (-1)) = C := by
  funext j q
  unfold ccLD ccU
  by_cases y₁ : j = 6 ∧ q = p
  · obtain ⟨z₁, z₂⟩ := y₁
    subst z₁ z₂
    rw [if_pos ⟨rfl, rfl⟩, h₂]
  · rw [if_neg y₁]
    by_cases y₂ : j = 13 ∧ q = a
    · obtain ⟨z₁, z₂⟩ := y₂
      subst z₁ z₂
      rw [if_pos ⟨rfl, rfl⟩, h₁]
    · rw [if_neg y₂, if_neg y₂, if_neg y₁]
theorem ccMayLay_ag {C D : Nat → Nat → Int32} {w l L c : Nat} (q₁ : ccAg C D) (h₁ : w ≤ 12) (h₂ : l ≤ 8) : ccMayLay D w l L c = ccMayLay C w l L c := by
  cases L with
  | zero => rfl
  | succ K =>
    show (ccPl w l (K + 1) c && !(ccHF D w l (K + 1) c) && ccHP D w l K c && ccHP D w l K (c + 1)) = (ccPl w l (K + 1) c && !(ccHF C w l (K + 1) c) && ccHP C w l K c && ccHP C w l K (c + 1))
    rw [ccHF_ag q₁ h₁ h₂, ccHP_ag q₁ h₁ h₂, ccHP_ag q₁ h₁ h₂]
theorem ccBst_cg {P Q : Nat → Bool} {lt lt' : Nat → Nat → Bool} (h₁ : ∀ p, p < 96 → P p = Q p) (h₂ : ∀ p q, p < 96 → q < 96 → P p = true → P q = true → lt p q = lt' p q) : ∀ d p x, p + d ≤ 96 → ccBs P x → ccBst P lt d p x = ccBst Q lt' d p x := by
  intro d
  induction d with
  | zero => intro p x _ _; rfl
  | succ d i₁ =>
    intro p x g₁ g₂
    show ccBst P lt d (p + 1) (if P p = true then (if x = I (-1) then N p else if lt p (mix x) = true then N p else x) else x) = ccBst Q lt' d (p + 1) (if Q p = true then (if x = I (-1) then N p else if lt' p (mix x) = true then N p else x) else x)
    have e₁ : (if Q p = true then (if x = I (-1) then N p else if lt' p (mix x) = true then N p else x) else x) = (if P p = true then (if x = I (-1) then N p else if lt p (mix x) = true then N p else x) else x) := by
      rw [← h₁ p (by omega)]
      cases g₃ : P p
      · rfl
      · rcases g₂ with g₄ | ⟨u, g₄, g₅, g₆⟩
        · simp only [if_true, if_pos g₄]
        · rw [g₅, mix_N (by omega), h₂ p u (by omega) g₄ g₃ g₆]
    rw [e₁]
    exact i₁ (p + 1) _ (by omega) (ccBs_st (by omega) g₂)
theorem ccBst_min {P : Nat → Bool} {r : Nat → Int32} : ∀ d p x, p + d ≤ 96 → ccBs P x → (∀ u, u < p → P u = true → ∃ q, x = N q ∧ q < 96 ∧ ¬ r u < r q) → ∀ u, u < p + d → P u = true → ∃ q, ccBst P (fun p q => decide (r p < r q)) d p x = N q ∧ q < 96 ∧ ¬ r u < r q := by
  intro d
  induction d with
  | zero => intro p x _ _ g₃ u g₄ g₅; exact g₃ u g₄ g₅
  | succ d i₁ =>
    intro p x g₁ g₂ g₃ u g₄ g₅
    refine i₁ (p + 1) _ (by omega) (ccBs_st (lt := fun p q => decide (r p < r q)) (p := p) (by omega) g₂) (fun k y₁ y₂ => ?_) u (by omega) g₅
    have rr : ¬ r p < r p := Int32.lt_irrefl
    cases g₆ : P p
    · simp only [Bool.false_eq_true, if_false]
      have y₃ : k < p := by
        rcases Classical.em (k = p) with z | z
        · rw [z, g₆] at y₂
          cases y₂
        · omega
      exact g₃ k y₃ y₂
    · simp only [if_true]
      rcases g₂ with g₇ | ⟨v, g₇, g₈, g₉⟩
      · have y₃ : k = p := by
          rcases Classical.em (k = p) with z | z
          · exact z
          · obtain ⟨q, z₁, z₂, _⟩ := g₃ k (by omega) y₂
            rw [g₇, ccMN (by omega)] at z₁
            exact z₁.elim
        subst y₃
        rw [if_pos g₇]
        exact ⟨k, rfl, by omega, rr⟩
      · have nv : ¬ x = I (-1) := fun y₃ => by
          rw [g₈, ccNm (by omega)] at y₃
          exact y₃
        rw [if_neg nv, g₈, mix_N (by omega)]
        by_cases y₃ : r p < r v
        · rw [if_pos (decide_eq_true y₃)]
          refine ⟨p, rfl, by omega, ?_⟩
          rcases Classical.em (k = p) with z | z
          · rw [z]; exact rr
          · obtain ⟨q, z₁, z₂, z₃⟩ := g₃ k (by omega) y₂
            have z₄ : q = v := ccNinj (by rw [← z₁, g₈]) (by omega) (by omega)
            subst z₄
            rw [Int32.lt_iff_toInt_lt] at z₃ y₃ ⊢
            omega
        · rw [if_neg (fun z => y₃ (of_decide_eq_true z))]
          rcases Classical.em (k = p) with z | z
          · rw [z]
            exact ⟨v, rfl, g₇, y₃⟩
          · obtain ⟨q, z₁, z₂, z₃⟩ := g₃ k (by omega) y₂
            have z₄ : q = v := ccNinj (by rw [← z₁, g₈]) (by omega) (by omega)
            subst z₄
            exact ⟨q, rfl, g₇, z₃⟩
/-- settling where nothing falls: the loads are known behind it -/
theorem ccE212q {mc mm : mMi} {i w l n bd h t : Nat} {β wt : Nat → Int32} {W : Nat → Nat} (q : ccJ mc mm i w l n bd β wt W h t) (h₁ : ccQt W (mc 0 i) w l) : ∃ m₂, (∀ rs, F212 mm rs = rV m₂ rs) ∧ ccFt mm m₂ ∧ ccDonem m₂ W (mc 0 i) w l 0 ∧ ccWm m₂ w l n W (mc 0 i) ∧ ccSs n (mc 0 i) (m₂ 4 0 3) := by
  have r₀ := q.1.2.2.2.2.2.1
  have cd := ccCd_of r₀.2.1
  have wm := ccJ_wm q
  obtain ⟨m₂, c₁, c₂, c₃⟩ := ccE213 cd q.2.2.2.2 wm
  have wm₂ := ccWm_ft wm c₂
  have ss : ccSs n (mc 0 i) (m₂ 4 0 3) := by
    rw [ccFt_3 c₂]
    exact ccSs_of r₀.2.2.1
  have fs : ccFst (ccBdl W (mc 0 i) w l) 96 0 = I (-1) := ccFst_skip (f := ccBdl W (mc 0 i) w l) 96 0 0 (fun p _ g₂ => h₁ p (by omega))
  obtain ⟨g, hg⟩ := ccFU (k := 0) (by omega)
  refine ⟨m₂, fun rs => ?_, c₂, c₃, wm₂, ss⟩
  unfold F212
  rw [c₁, ccBv, ccE217l wm₂ cd ss c₃ q.1.2.2.2.2.2.2.1, fs, ccBi, hg, ccL212_10, ccIte, if_pos rfl]
def ccMnr (P : Nat → Bool) (r : Nat → Int32) : Nat → Nat → Int32 → Int32
  | 0, _, x => x
  | d + 1, p, x => ccMnr P r d (p + 1) (if P p = true then (if r p < x then r p else x) else x)
theorem ccL279 {m : mMi} {w l n : Nat} {W : Nat → Nat} {C : Nat → Nat → Int32} (q₁ : ccWm m w l n W C) (q₂ : ccCd n C) (q₃ : ccSs n C (m 4 0 3)) (h₅ : ccDonem m W C w l 0) (h₆ : ccPlc w l C) : ∀ d p f x rs, p + d = 96 → F279_6 (f + d + 1) x (N p) m rs = rI (ccMnr (ccP C) (ccRv W C w l) d p x) m rs := by
  intro d
  induction d with
  | zero =>
    intro p f x rs g₁
    have e₀ : N 96 ≤ N p := by rw [N_le (by omega) (by omega)]; omega
    rw [ccL279_6, ccIte, if_pos e₀]
    rfl
  | succ d i₁ =>
    intro p f x rs g₁
    have e₀ : ¬ N 96 ≤ N p := by rw [N_le (by omega) (by omega)]; omega
    have e₁ : f + (d + 1) + 1 = f + d + 1 + 1 := by omega
    have e₂ := i₁ (p + 1) f (if ccP C p = true then (if ccRv W C w l p < x then ccRv W C w l p else x) else x) rs (by omega)
    have e₃ := (q₁.2.1 p (by omega)).1
    rw [e₁, ccL279_6, ccIte, if_neg e₀, ccE201a (by omega), ccBi, e₃, ccIte, N_add]
    show _ = rI (ccMnr (ccP C) (ccRv W C w l) d (p + 1) (if ccP C p = true then (if ccRv W C w l p < x then ccRv W C w l p else x) else x)) m rs
    cases g₂ : ccP C p
    · rw [g₂, if_neg (by decide)] at e₂
      rw [if_pos (ccP_f g₂), if_neg (by decide)]
      exact e₂
    · rw [g₂, if_pos rfl] at e₂
      rw [if_neg (ccP_t g₂), ccE218 q₁ q₂ q₃ (by omega : p < 96) (ccP_t g₂) h₅ h₆, ccBi, if_pos rfl]
      exact e₂
theorem ccMnr_b {P : Nat → Bool} {r : Nat → Int32} (h₁ : ∀ p, p < 96 → P p = true → r p < N 2147483647) : ∀ d p x y, p + d ≤ 96 → ccBs P x → y = (if x = I (-1) then N 2147483647 else r (mix x)) → ccMnr P r d p y = (if ccBst P (fun p q => decide (r p < r q)) d p x = I (-1) then N 2147483647 else r (mix (ccBst P (fun p q => decide (r p < r q)) d p x))) := by
  intro d
  induction d with
  | zero => intro p x y _ _ g₃; exact g₃
  | succ d i₁ =>
    intro p x y g₁ g₂ g₃
    refine i₁ (p + 1) _ _ (by omega) (ccBs_st (lt := fun p q => decide (r p < r q)) (p := p) (by omega) g₂) ?_
    have np : ¬ N p = I (-1) := fun y₁ => (ccNm (by omega)).mp y₁
    cases g₄ : P p
    · simp only [Bool.false_eq_true, if_false]
      exact g₃
    · simp only [if_true]
      rcases g₂ with g₅ | ⟨u, g₅, g₆, g₇⟩
      · rw [if_pos g₅] at g₃
        rw [if_pos g₅, if_neg np, mix_N (by omega), g₃, if_pos (h₁ p (by omega) g₄)]
      · have nu : ¬ N u = I (-1) := fun y₁ => (ccNm (by omega)).mp y₁
        rw [g₆, if_neg nu, mix_N (by omega)] at g₃
        rw [g₆, if_neg nu, mix_N (by omega), g₃]
        by_cases y₁ : r p < r u
        · rw [if_pos y₁, if_pos (decide_eq_true y₁), if_neg np, mix_N (by omega)]
        · rw [if_neg y₁, if_neg (fun z => y₁ (of_decide_eq_true z)), if_neg nu, mix_N (by omega)]
/-- reserves are between -216 and 1800 -/
theorem ccRv_b {n h t p w l : Nat} {β wt : Nat → Int32} {W : Nat → Nat} {C : Nat → Nat → Int32} {s : Nat → Int32} (q₁ : ccR ccX0 n β wt h t C s) (q₂ : ccNn C) (q₃ : ccWok n W) (b₁ : w ≤ 12) (b₂ : l ≤ 8) (b₃ : n ≤ 40) (h₁ : p < 96) (h₂ : C 2 p ≠ I (-1)) : ∃ z : Int, ccRv W C w l p = I z ∧ -300 ≤ z ∧ z ≤ 1800 := by
  obtain ⟨v, v₁, v₂⟩ := ccStp_b q₁ q₂ b₃ h₁ h₂
  have e₂ := ccPL_le (L := p / 12) (c := p % 12) (d := 7 - p / 12) (w := w) (l := l) (ccCd_of q₁.2.1) q₃ b₁ b₂ b₃
  obtain ⟨x, hx⟩ : ∃ x, x = ccPL W C w l (7 - p / 12) (p / 12) (p % 12) := ⟨_, rfl⟩
  rw [← hx] at e₂
  refine ⟨(v : Int) - (x : Int), ?_, by omega, by omega⟩
  unfold ccRv
  rw [v₁, ← hx, ← I_N, ← I_N, I_sub]
