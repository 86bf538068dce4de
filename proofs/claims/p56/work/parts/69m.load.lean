/-! CALLS: load. -/
theorem ccOneM {x y : Int32} {m m₂ : mMi} {rs : mRs} (h : rI x m rs = rI y m₂ rs) : m = m₂ := by
  injection h with h₁
  injection h₁ with h₂ h₃
  injection h₃
theorem ccOneX {x : Int32} {k : Nat} {m m₂ : mMi} {rs r₂ : mRs} (h : rI x m rs = rX k m₂ r₂) : False := by
  injection h with h₁
  injection h₁ with h₂ h₃
  cases h₂
theorem ccOneE {j k : Nat} {m m₂ : mMi} {r₁ r₂ : mRs} (h : rX j m r₁ = rX k m₂ r₂) : m = m₂ := by
  injection h with h₁
  injection h₁ with h₂ h₃
  injection h₃
/-- the reference, once it has read the text -/
def ccV176 (m : mMi) (r : mRs) : mRz := bV (F212 (mset m 4 0 0 1 (N 1)) r) (fun m r => some (.inl (some (mI (m 4 0 0 8))), (mset (mset (mset m 4 0 0 14 (N 0)) 4 0 6 0 (N 0)) 4 0 6 1 (N 0)), r))
def ccW176 (x : Int32) (m : mMi) (r : mRs) : mRz := bI (F178 x (N 2) m r) (fun v m r => mifO (decide (v = (N 0))) (ccV176 m r) (bV (F211 m r) (fun m r => some (.inl (some (mI (N 0))), m, r))))
def ccX176 (m : mMi) (r : mRs) : mRz := mifO (decide ((m 4 0 0 25) ≠ (N 0))) (mifO (decide (((mset m 4 0 0 18 (m 4 0 0 25)) 4 0 0 25) = (N 0))) (ccW176 (N 0) (mset (mset m 4 0 0 18 (m 4 0 0 25)) 4 0 0 19 ((mset m 4 0 0 18 (m 4 0 0 25)) 4 0 0 26)) r) (ccW176 (N 1) (mset (mset m 4 0 0 18 (m 4 0 0 25)) 4 0 0 19 ((mset m 4 0 0 18 (m 4 0 0 25)) 4 0 0 26)) r)) (mifO (decide (((mset m 4 0 0 18 (m 4 0 0 25)) 4 0 0 25) = (N 0))) (ccW176 (N 0) (mset (mset m 4 0 0 18 (m 4 0 0 25)) 4 0 0 19 (I (-1))) r) (ccW176 (N 1) (mset (mset m 4 0 0 18 (m 4 0 0 25)) 4 0 0 19 (I (-1))) r))
def ccY176 (x : Int32) (v : Int32) (m : mMi) (r : mRs) : mRz := mifO (decide (v = (N 0))) (bV (F179 (mset m 4 0 0 17 (N 0)) r) (fun m r => bV (F180 x m r) ccX176)) (some (.inl (some (mI (N 0))), m, r))
theorem ccE176w {x : Int32} {m : mMi} {rs : mRs} : F176 x m rs = bI (F177 x (N 0) (m 4 0 0 17) (mset m 4 0 0 0 (N 0)) rs) (fun v m r => mifO (decide (v ≠ (N 0))) (bI (F178 (N 0) (N 1) m r) (ccY176 x)) (bI (F178 (N 1) (N 1) m r) (ccY176 x))) := rfl
/-- the input and the error change -/
theorem ccTop_in2 {B : Nat} {m m₂ : mMi} (h₁ : ccTop B m) (st : ∀ f a j p, ¬ ccJk f a j p → ¬ ((f = 2 ∧ a = 1) ∨ (f = 2 ∧ a = 3 ∧ j = 0 ∧ (p = 3 ∨ p = 4)) ∨ (f = 4 ∧ a = 0 ∧ (j = 7 ∨ (j = 0 ∧ (p = 17 ∨ p = 18 ∨ p = 19))))) → m₂ f a j p = m f a j p) (ip : ccIn m₂) (er : ccEr m₂) : ccTop (B + 192) m₂ := by
  obtain ⟨_, e₂, e₃, e₄⟩ := h₁
  have sv : ∀ e, e < 2 → m₂ 2 6 1 e = m 2 6 1 e ∧ m₂ 4 0 6 e = m 4 0 6 e ∧ m₂ 0 (11 + e) = m 0 (11 + e) ∧ ccAr (ccRow m (8 + e)) (ccRow m₂ (8 + e)) := fun e y₁ => by
    refine ⟨st 2 6 1 e (by unfold ccJk; omega) (by omega), st 4 0 6 e (by unfold ccJk; omega) (by omega), ?_, fun q _ => st 4 0 5 _ (by unfold ccJk; omega) (by omega)⟩
    funext j p
    exact st 0 (11 + e) j p (by unfold ccJk; omega) (by omega)
  have r₁ := st 2 5 0 1 (by unfold ccJk; omega) (by omega)
  have r₂ := st 4 0 0 14 (by unfold ccJk; omega) (by omega)
  have r₃ := st 2 5 0 2 (by unfold ccJk; omega) (by omega)
  have r₄ : ∀ y, y < 8 → m₂ 0 (3 + y) = m 0 (3 + y) := fun y _ => by
    funext j p
    exact st 0 (3 + y) j p (by unfold ccJk; omega) (by omega)
  have r₅ : ∀ t, t < 8 → ccAr (ccRow m t) (ccRow m₂ t) := fun t _ q _ => st 4 0 5 _ (by unfold ccJk; omega) (by omega)
  refine ⟨ip, er, ?_, ?_⟩
  · obtain ⟨e, y₁, y₂, y₃, y₄⟩ := e₃
    refine ⟨e, y₁, by rw [st 2 7 0 1 (by unfold ccJk; omega) (by omega)]; exact y₂, by rw [st 4 0 0 36 (by unfold ccJk; omega) (by omega)]; exact y₃, fun q g₁ => ?_⟩
    rw [st 4 0 15 q (by unfold ccJk; omega) (by omega), st 2 7 1 q (by unfold ccJk; omega) (by omega)]
    exact y₄ q g₁
  · rcases e₄ with ⟨y₁, y₂, y₃, y₄⟩ | ⟨w, l, n, bd, lm, dp, cl, β, W, y₁, y₂, y₃, y₄, y₅, y₆⟩
    · exact Or.inl ⟨by rw [st 2 0 0 10 (by unfold ccJk; omega) (by omega)]; exact y₁, by rw [st 4 0 0 1 (by unfold ccJk; omega) (by omega)]; exact y₂, ccRing_fr y₃ (fun _ _ _ z₁ _ => z₁) r₁ r₂ r₃ r₄ r₅, ccSav_fr y₄ (fun _ _ _ z₁ _ => z₁) sv⟩
    · have b₁ : w ≤ 12 := y₃.1.2.2.2.2.1
      have b₂ : l ≤ 8 := y₃.1.2.2.2.2.2.2.1
      have b₃ : n ≤ 40 := y₃.1.2.2.2.2.2.2.2
      have c₀ : m₂ 0 0 = m 0 0 := by
        funext j p
        exact st 0 0 j p (by unfold ccJk; omega) (by omega)
      exact Or.inr ⟨w, l, n, bd, lm, dp, cl, β, W, by rw [st 2 0 0 10 (by unfold ccJk; omega) (by omega)]; exact y₁, by rw [st 4 0 0 1 (by unfold ccJk; omega) (by omega)]; exact y₂, ccPar_eq (fun f a j p z₁ => st f a j p (by unfold ccJk; omega) (by omega)) y₃, by rw [c₀]; exact ccKK_at b₁ b₂ b₃ y₄ ccAg_rfl (fun q z₁ => st 4 0 3 q (by unfold ccJk; omega) (by omega)), ccRing_fr y₅ (ccKK_ar b₁ b₂ b₃) r₁ r₂ r₃ r₄ r₅, ccSav_fr y₆ (ccKK_ar b₁ b₂ b₃) sv⟩
theorem ccJkE {f a j p : Nat} (y₁ : ¬ ccJk f a j p) (y₂ : ¬ ((f = 2 ∧ a = 1) ∨ (f = 2 ∧ a = 3 ∧ j = 0 ∧ (p = 3 ∨ p = 4)) ∨ (f = 4 ∧ a = 0 ∧ (j = 7 ∨ (j = 0 ∧ (p = 17 ∨ p = 18 ∨ p = 19)))))) : ¬ (f = 2 ∧ a = 4) ∧ ¬ (f = 2 ∧ a = 3 ∧ j = 0 ∧ 3 ≤ p ∧ p ≤ 6) ∧ ¬ (f = 1 ∧ a = 1) ∧ ¬ (f = 0 ∧ a = 2) ∧ ¬ (f = 2 ∧ a = 1 ∧ j = 0 ∧ p = 1) := by
  refine ⟨fun z => ?_, fun z => ?_, fun z => ?_, fun z => ?_, fun z => y₂ (Or.inl ⟨z.1, z.2.1⟩)⟩
  · obtain ⟨x₁, x₂⟩ := z
    subst x₁
    subst x₂
    exact y₁ (by unfold ccJk; omega)
  · obtain ⟨x₁, x₂, x₃, x₄, x₅⟩ := z
    by_cases x₆ : p ≤ 4
    · exact y₂ (Or.inr (Or.inl ⟨x₁, x₂, x₃, by omega⟩))
    · subst x₁
      subst x₂
      subst x₃
      exact y₁ (by unfold ccJk; omega)
  · obtain ⟨x₁, x₂⟩ := z
    subst x₁
    subst x₂
    exact y₁ (by unfold ccJk; omega)
  · obtain ⟨x₁, x₂⟩ := z
    subst x₁
    subst x₂
    exact y₁ (by unfold ccJk; omega)
theorem ccJkF {j p : Nat} (y₁ : ¬ ccJk 4 0 j p) (y₂ : ¬ ((4 = 2 ∧ 0 = 1) ∨ (4 = 2 ∧ 0 = 3 ∧ j = 0 ∧ (p = 3 ∨ p = 4)) ∨ (4 = 4 ∧ 0 = 0 ∧ (j = 7 ∨ (j = 0 ∧ (p = 17 ∨ p = 18 ∨ p = 19)))))) : ¬ (8 ≤ j ∧ j ≤ 11) ∧ ¬ (j = 0 ∧ (p = 0 ∨ p = 17 ∨ p = 18 ∨ p = 19 ∨ (20 ≤ p ∧ p ≤ 26))) := by
  unfold ccJk at y₁
  refine ⟨?_, ?_⟩ <;> omega
theorem ccOk_104 {B : Nat} {m : mMi} {x : Int32} (h₁ : ccTop B m) (lim : ccLim m) : ccOk B (F104 x) (F176 x) [(2, 1), (3, 2)] m := by
  obtain ⟨e, b, q₁, q₂, e₃⟩ := ccIn_b h₁.1
  have b₄ := q₁.1
  have e₂ := q₁.2.1
  have e₄ : N e = N (e + 1) - N 1 := by rw [N_sub (by omega), Nat.add_sub_cancel]
  have rs₀ : ∃ rs : mRs, rs = rs := ⟨((0, 0), (fun _ => false, fun _ => none, fun _ => 0), 0, 0, 0), rfl⟩
  obtain ⟨rs₀, _⟩ := rs₀
  rcases Classical.em (∃ a, x = N a ∧ a < e + 1) with ⟨L, x₁, x₂⟩ | g
  rotate_left
  · refine ccOk_no (E := 2) (c := 1) h₁ (List.mem_cons_self) (fun rs => ?_) (fun rs => ?_)
    · unfold F104 F105
      rw [e₂, N_add, ccE106z g (by omega)]
      rfl
    · have y₂ : ¬ ∃ a, x = N a ∧ 0 ≤ a ∧ a < e + 1 := fun ⟨a, z₁, _, z₂⟩ => g ⟨a, z₁, z₂⟩
      rw [ccE176w, e₃, e₄, ccE177z y₂ (by omega) (by omega), ccBi, ccIf0, ccE178t ccT0s (by omega) (by omega), ccBi]
      unfold ccY176
      rw [ccIf1e]
  subst x₁
  have G : ∀ m₁ : mMi, (∀ j p, m₁ 4 0 j p = m 4 0 j p) → ∃ mm, (∀ rs, F176 (N L) m₁ rs = bV (F180 (N L) mm rs) ccX176) ∧ ccBm mm e b ∧ mm 4 0 0 0 = N 0 ∧ mm 4 0 0 17 = N 0 ∧ (∀ i, i < 240 → mm 4 0 8 i = m 4 0 1 i) ∧ (∀ i, i < 40 → mm 4 0 9 i = m 4 0 2 i) ∧ (∀ i, i < 918 → mm 4 0 10 i = m 4 0 3 i) ∧ (∀ i, i < 7 → mm 4 0 11 i = m 4 0 0 (2 + i)) ∧ ∀ f a j i, ¬ (f = 4 ∧ a = 0 ∧ ((8 ≤ j ∧ j ≤ 11) ∨ (j = 0 ∧ (i = 0 ∨ i = 17)))) → mm f a j i = m₁ f a j i := fun m₁ y₁ => by
    obtain ⟨mm, a₁, a₂, a₃, a₄, a₅, a₆⟩ := ccE179 (m := mset (mset m₁ 4 0 0 0 (N 0)) 4 0 0 17 (N 0))
    refine ⟨mm, fun rs => ?_, ccBm_fr q₂ (fun i => by rw [a₆ 4 0 7 i (by omega), ccRd, if_neg (by omega), ccRd, if_neg (by omega), y₁]), by rw [a₆ 4 0 0 0 (by omega), ccRd, if_neg (by omega), ccRd, if_pos ⟨rfl, rfl, rfl, rfl⟩], by rw [a₆ 4 0 0 17 (by omega), ccRd, if_pos ⟨rfl, rfl, rfl, rfl⟩], fun i y₂ => by rw [a₂ i y₂, ccRd, if_neg (by omega), ccRd, if_neg (by omega), y₁], fun i y₂ => by rw [a₃ i y₂, ccRd, if_neg (by omega), ccRd, if_neg (by omega), y₁], fun i y₂ => by rw [a₄ i y₂, ccRd, if_neg (by omega), ccRd, if_neg (by omega), y₁], fun i y₂ => by rw [a₅ i y₂, ccRd, if_neg (by omega), ccRd, if_neg (by omega), y₁], fun f a j i y₂ => by rw [a₆ f a j i (by omega), ccRd, if_neg (by omega), ccRd, if_neg (by omega)]⟩
    have y₃ : m₁ 4 0 0 17 = N e := by rw [y₁]; exact e₃
    rw [ccE176w, y₃, e₄, ccE177i x₂ (by omega), ccBi, ccIf1, ccE178f ccT0s, ccBi]
    unfold ccY176
    rw [ccIf0e, a₁, ccBv]
  rcases ccLoadJ q₁ q₂ (by omega : L ≤ e) lim with ⟨_, _, n₀, _, _, _, _, _, _, m₁, _, _, _, c₁, _, _, _, _, _, _, _, fr, _⟩ | ⟨m₁, _, c₁, _, _, _, _, fr⟩
  · obtain ⟨mm, t₁, t₂, t₃, t₄, _, _, _, _, t₅⟩ := G m₁ (fun j p => fr 4 0 j p (by omega) (by omega) (by omega) (by omega) (by omega) (by omega) (by omega) (by omega))
    rcases ccLoadJ q₁ t₂ (by omega : L ≤ e) lim with ⟨w, l, n, bd, lm, dp, cl, β, W, m₃, mm₁, X, Y, d₁, d₂, d₃, d₄, d₅, d₆, d₇, d₈, d₉, k₁, k₂, k₃, k₄, k₅, k₆, k₇⟩ | ⟨m₃, mm₁, d₁, _⟩
    rotate_left
    · exact absurd (Eq.trans (Eq.symm (c₁ rs₀)) (d₁ rs₀)) ccOneX
    have same := ccOneM (Eq.trans (Eq.symm (d₁ rs₀)) (c₁ rs₀))
    subst same
    obtain ⟨p₁, p₂, p₃, p₄, p₅, p₆, p₇, p₈, p₉, p₁₀, p₁₁, p₁₂⟩ := d₈
    obtain ⟨Z, hZ⟩ : ∃ Z, Z = mset (mset (mset Y 4 0 0 14 (N 0)) 4 0 6 0 (N 0)) 4 0 6 1 (N 0) := ⟨_, rfl⟩
    have s₁ : ∀ f a j p, ¬ (f = 4 ∧ a = 0 ∧ ((j = 0 ∧ p = 14) ∨ j = 6)) → Z f a j p = Y f a j p := fun f a j p y₁ => by rw [hZ, ccRd, if_neg (by omega), ccRd, if_neg (by omega), ccRd, if_neg (by omega)]
    have s₂ : ∀ f a j p, ¬ (f = 4 ∧ a = 0) → Z f a j p = m₃ f a j p := fun f a j p y₁ => by rw [s₁ f a j p (by omega), d₇ f a j p (by omega) (by omega), d₅, ccRd, if_neg (by omega), ccRd, if_neg (by omega), ccRd, if_neg (by omega), d₄ f a j p (by omega), t₅ f a j p (by omega)]
    have s₄ : ∀ j p, j = 5 ∨ j = 15 ∨ (j = 0 ∧ p = 36) → Z 4 0 j p = m 4 0 j p := fun j p y₁ => by rw [s₁ 4 0 j p (by omega), d₇ 4 0 j p (by omega) (by omega), d₅, ccRd, if_neg (by omega), ccRd, if_neg (by omega), ccRd, if_neg (by omega), d₄ 4 0 j p (by omega), t₅ 4 0 j p (by omega), fr 4 0 j p (by omega) (by omega) (by omega) (by omega) (by omega) (by omega) (by omega) (by omega)]
    have Y0 : ∀ p, p = 0 ∨ p = 17 → Y 4 0 0 p = N 0 := fun p y₁ => by
      rw [d₇ 4 0 0 p (by omega) (by omega), d₅, ccRd, if_neg (by omega), ccRd, if_neg (by omega), ccRd, if_neg (by omega), d₄ 4 0 0 p (by omega)]
      rcases y₁ with y₁ | y₁
      · rw [y₁]
        exact t₃
      · rw [y₁]
        exact t₄
    have row : Z 4 0 3 = Y 4 0 3 := by
      funext p
      exact s₁ 4 0 3 p (by omega)
    have row0 : Z 0 0 = m₃ 0 0 := by
      funext j p
      exact s₂ 0 0 j p (by omega)
    have rx : ∃ y, y < 8 ∧ m 2 5 0 2 = N y := by
      rcases h₁.2.2.2 with ⟨_, _, ⟨k, y, _, y₂, _, _, y₃, _⟩, _⟩ | ⟨_, _, _, _, _, _, _, _, _, _, _, _, _, ⟨k, y, _, y₂, _, _, y₃, _⟩, _⟩
      · exact ⟨y, y₂, y₃⟩
      · exact ⟨y, y₂, y₃⟩
    obtain ⟨y, y₁, y₂⟩ := rx
    have top : ccTop (B + 192) Z := by
      refine ⟨⟨0, by omega, by rw [s₂ 2 1 0 1 (by omega)]; exact k₁, by rw [s₁ 4 0 0 17 (by omega)]; exact Y0 17 (by omega), fun k z₁ => by omega⟩, ⟨?_, ?_⟩, ?_, Or.inr ⟨w, l, n, bd, lm, dp, cl, β, W, by rw [s₂ 2 0 0 10 (by omega)]; exact k₅, ?_, ?_, ?_, ⟨0, y, by omega, y₁, by rw [s₂ 2 5 0 1 (by omega)]; exact k₂, ?_, ?_, fun t z₁ => by omega⟩, fun f z₁ => Or.inl ?_⟩⟩
      · rw [s₂ 2 3 0 3 (by omega), k₆, s₁ 4 0 0 18 (by omega), d₇ 4 0 0 18 (by omega) (by omega), d₅, ccRd, if_neg (by omega), ccRd, if_neg (by omega), ccRd, if_pos ⟨rfl, rfl, rfl, rfl⟩]
      · rw [s₂ 2 3 0 4 (by omega), k₇, s₁ 4 0 0 19 (by omega), d₇ 4 0 0 19 (by omega) (by omega), d₅, ccRd, if_neg (by omega), ccRd, if_pos ⟨rfl, rfl, rfl, rfl⟩]
      · obtain ⟨i, z₁, z₂, z₃, z₄⟩ := h₁.2.2.1
        have f7 : ∀ j p, m₃ 2 7 j p = m 2 7 j p := fun j p => fr 2 7 j p (by omega) (by omega) (by omega) (by omega) (by omega) (by omega) (by omega) (by omega)
        refine ⟨i, z₁, by rw [s₂ 2 7 0 1 (by omega), f7]; exact z₂, by rw [s₄ 0 36 (by omega)]; exact z₃, fun k z₅ => ?_⟩
        rw [s₂ 2 7 1 k (by omega), f7, s₄ 15 k (by omega)]
        exact z₄ k z₅
      · rw [s₁ 4 0 0 1 (by omega), d₇ 4 0 0 1 (by omega) (by omega), d₅, ccRd, if_pos ⟨rfl, rfl, rfl, rfl⟩]
      · have c1 : ∀ j p, Z 1 0 j p = m₃ 1 0 j p := fun j p => s₂ 1 0 j p (by omega)
        have c0 : ∀ p, p ≠ 14 → Z 4 0 0 p = Y 4 0 0 p := fun p z₁ => s₁ 4 0 0 p (by omega)
        refine ⟨⟨by rw [c1]; exact p₁.1, by rw [c1]; exact p₁.2.1, by rw [c1]; exact p₁.2.2.1, p₁.2.2.2⟩, ⟨by rw [c0 2 (by omega)]; exact p₂.1, by rw [c0 3 (by omega)]; exact p₂.2.1, by rw [c0 8 (by omega)]; exact p₂.2.2.1, p₂.2.2.2⟩, ⟨by rw [c1]; exact p₃.1, by rw [c0 7 (by omega)]; exact p₃.2.1, p₃.2.2⟩, ⟨by rw [c1]; exact p₄.1, by rw [c0 4 (by omega)]; exact p₄.2.1, p₄.2.2⟩, ⟨by rw [c1]; exact p₅.1, by rw [c0 5 (by omega)]; exact p₅.2.1, p₅.2.2⟩, ⟨by rw [c1]; exact p₆.1, by rw [c0 6 (by omega)]; exact p₆.2.1, p₆.2.2⟩, fun k z₁ => by rw [c1]; exact p₇ k z₁, fun k z₁ => by rw [s₁ 4 0 2 k (by omega)]; exact p₈ k z₁, p₉, fun k z₁ => by rw [c1]; exact p₁₀ k z₁, fun k z₁ => ?_⟩
        obtain ⟨g, i, z₂, z₃, z₄, z₅, z₆⟩ := p₁₁ k z₁
        exact ⟨g, i, z₂, z₃, fun o z₇ => ⟨(z₄ o z₇).1, (z₄ o z₇).2.1, by rw [s₁ 4 0 1 _ (by omega)]; exact (z₄ o z₇).2.2⟩, fun o z₇ z₈ => by rw [s₁ 4 0 1 _ (by omega)]; exact z₅ o z₇ z₈, by rw [c1]; exact z₆⟩
      · rw [row, row0]
        exact ccK_B p₁₂ (by omega)
      · rw [hZ, ccRd, if_neg (by omega), ccRd, if_neg (by omega), ccRd, if_pos ⟨rfl, rfl, rfl, rfl⟩]
      · rw [s₂ 2 5 0 2 (by omega), fr 2 5 0 2 (by omega) (by omega) (by omega) (by omega) (by omega) (by omega) (by omega) (by omega)]
        exact y₂
      · have z₂ : f = 0 ∨ f = 1 := by omega
        rcases z₂ with z₂ | z₂ <;> subst z₂
        · exact ⟨by rw [s₂ 2 6 1 0 (by omega)]; exact k₃, by rw [hZ, ccRd, if_neg (by omega), ccRd, if_pos ⟨rfl, rfl, rfl, rfl⟩]⟩
        · exact ⟨by rw [s₂ 2 6 1 1 (by omega)]; exact k₄, by rw [hZ, ccRd, if_pos ⟨rfl, rfl, rfl, rfl⟩]⟩
    refine Or.inl ⟨N n, m₃, Z, d₁, fun rs => ?_, by rw [s₁ 4 0 0 0 (by omega)]; exact Y0 0 (by omega), top, fun a j p => ⟨?_, ?_, ?_⟩⟩
    · have z₁ : mset mm₁ 4 0 0 18 (N 0) 4 0 0 25 = N 0 := by rw [ccRd, if_neg (by omega)]; exact d₃
      have z₂ : mset (mset mm₁ 4 0 0 18 (N 0)) 4 0 0 19 (I (-1)) 4 0 0 0 = N 0 := by rw [ccRd, if_neg (by omega), ccRd, if_neg (by omega), d₄ 4 0 0 0 (by omega)]; exact t₃
      rw [t₁, d₂, ccBv]
      unfold ccX176
      rw [d₃, ccIf0, z₁, ccIf0e]
      unfold ccW176
      rw [ccE178f z₂, ccBi, ccIf0e]
      unfold ccV176
      rw [← d₅, d₆, ccBv, p₂.2.2.1, hZ]
    · exact fr 3 a j p (by omega) (by omega) (by omega) (by omega) (by omega) (by omega) (by omega) (by omega)
    · rw [s₂ 3 a j p (by omega)]
      exact fr 3 a j p (by omega) (by omega) (by omega) (by omega) (by omega) (by omega) (by omega) (by omega)
    · exact fr 4 a j p (by omega) (by omega) (by omega) (by omega) (by omega) (by omega) (by omega) (by omega)
  · obtain ⟨mm, t₁, t₂, t₃, t₄, t₆, t₇, t₈, t₉, t₅⟩ := G m₁ (fun j p => fr 4 0 j p (by omega) (by omega) (by omega) (by omega) (by omega))
    rcases ccLoadJ q₁ t₂ (by omega : L ≤ e) lim with ⟨w, l, n, bd, lm, dp, cl, β, W, m₃, mm₁, X, Y, d₁, _⟩ | ⟨m₃, mm₁, d₁, d₂, d₃, d₄, d₅, d₆⟩
    · exact absurd (Eq.trans (Eq.symm (d₁ rs₀)) (c₁ rs₀)) ccOneX
    have same := ccOneE (Eq.trans (Eq.symm (d₁ rs₀)) (c₁ rs₀))
    subst same
    obtain ⟨k, z, z₁, z₂, z₃, z₄, z₅, z₆, z₇⟩ := d₃
    obtain ⟨V, hV⟩ : ∃ V, V = mset (mset (mset mm₁ 4 0 0 18 (N k)) 4 0 0 19 (N z)) 4 0 0 0 (N 2) := ⟨_, rfl⟩
    obtain ⟨Z, u₁, u₂, u₃, u₄, u₅, u₆⟩ := ccE211 (m := V)
    have v₁ : ∀ f a j p, ¬ (f = 4 ∧ a = 0 ∧ j = 0 ∧ (p = 0 ∨ p = 18 ∨ p = 19)) → V f a j p = mm₁ f a j p := fun f a j p y₁ => by rw [hV, ccRd, if_neg (by omega), ccRd, if_neg (by omega), ccRd, if_neg (by omega)]
    have s₂ : ∀ f a j p, ¬ (f = 4 ∧ a = 0) → Z f a j p = m₃ f a j p := fun f a j p y₁ => by rw [u₆ f a j p (by omega), v₁ f a j p (by omega), d₄ f a j p (by omega), t₅ f a j p (by omega)]
    have f4 : ∀ a j p, m₃ 4 a j p = m 4 a j p := fun a j p => fr 4 a j p (by omega) (by omega) (by omega) (by omega) (by omega)
    have s₃ : ∀ j p, ¬ (8 ≤ j ∧ j ≤ 11) → ¬ (j = 0 ∧ (p = 0 ∨ p = 17 ∨ p = 18 ∨ p = 19 ∨ (20 ≤ p ∧ p ≤ 26))) → Z 4 0 j p = m 4 0 j p := fun j p y₁ y₂ => by
      by_cases w₁ : j = 1 ∧ p < 240
      · rw [w₁.1, u₂ p w₁.2, v₁ 4 0 8 p (by omega), d₄ 4 0 8 p (by omega), t₆ p w₁.2]
      by_cases w₂ : j = 2 ∧ p < 40
      · rw [w₂.1, u₃ p w₂.2, v₁ 4 0 9 p (by omega), d₄ 4 0 9 p (by omega), t₇ p w₂.2]
      by_cases w₃ : j = 3 ∧ p < 918
      · rw [w₃.1, u₄ p w₃.2, v₁ 4 0 10 p (by omega), d₄ 4 0 10 p (by omega), t₈ p w₃.2]
      by_cases w₄ : j = 0 ∧ 2 ≤ p ∧ p ≤ 8
      · obtain ⟨i, hi⟩ : ∃ i, p = 2 + i := ⟨p - 2, by omega⟩
        rw [w₄.1, hi, u₅ i (by omega), v₁ 4 0 11 i (by omega), d₄ 4 0 11 i (by omega), t₉ i (by omega)]
      · rw [u₆ 4 0 j p (by omega), v₁ 4 0 j p (by omega), d₄ 4 0 j p (by omega), t₅ 4 0 j p (by omega), f4]
    have Z0 : ∀ p, p = 18 ∨ p = 19 → Z 4 0 0 p = V 4 0 0 p := fun p y₁ => u₆ 4 0 0 p (by omega)
    refine Or.inr ⟨3, 2, N 0, m₃, Z, List.mem_cons_of_mem _ List.mem_cons_self, d₁, fun rs => ?_, ?_, ccTop_in2 h₁ (fun f a j p y₁ y₂ => ?_) ⟨0, by omega, ?_, ?_, fun i y₁ => by omega⟩ ⟨?_, ?_⟩, fun a j p => ⟨?_, ?_, f4 a j p⟩⟩
    · have w₁ : mm₁ 4 0 0 25 ≠ N 0 := by rw [z₆, ne_eq, N_eq (by omega) (by omega)]; omega
      have w₂ : ¬ mset mm₁ 4 0 0 18 (N k) 4 0 0 25 = N 0 := by rw [ccRd, if_neg (by omega)]; exact w₁
      have w₃ : mset mm₁ 4 0 0 18 (N k) 4 0 0 26 = N z := by rw [ccRd, if_neg (by omega)]; exact z₇
      have w₄ : mset (mset mm₁ 4 0 0 18 (N k)) 4 0 0 19 (N z) 4 0 0 0 = N 0 := by rw [ccRd, if_neg (by omega), ccRd, if_neg (by omega), d₄ 4 0 0 0 (by omega)]; exact t₃
      rw [t₁, d₂, ccBv]
      unfold ccX176
      rw [ccIte, if_pos w₁, z₆, ccIte, if_neg w₂, w₃]
      unfold ccW176
      rw [ccE178t w₄ (by omega) (by omega), ccBi, ccIf1e, ← hV, u₁, ccBv]
    · rw [u₆ 4 0 0 0 (by omega), hV, ccRd, if_pos ⟨rfl, rfl, rfl, rfl⟩]
    · by_cases w₁ : f = 4 ∧ a = 0
      · obtain ⟨x₁, x₂⟩ := w₁
        subst x₁
        subst x₂
        obtain ⟨x₃, x₄⟩ := ccJkF y₁ y₂
        exact s₃ j p x₃ x₄
      · obtain ⟨x₃, x₄, x₅, x₆, x₇⟩ := ccJkE y₁ y₂
        rw [s₂ f a j p w₁]
        exact fr f a j p x₃ x₄ x₅ x₆ x₇
    · rw [s₂ 2 1 0 1 (by omega)]
      exact d₅
    · rw [u₆ 4 0 0 17 (by omega), v₁ 4 0 0 17 (by omega), d₄ 4 0 0 17 (by omega)]
      exact t₄
    · rw [s₂ 2 3 0 3 (by omega), z₄, Z0 18 (by omega), hV, ccRd, if_neg (by omega), ccRd, if_neg (by omega), ccRd, if_pos ⟨rfl, rfl, rfl, rfl⟩]
    · rw [s₂ 2 3 0 4 (by omega), z₅, Z0 19 (by omega), hV, ccRd, if_neg (by omega), ccRd, if_pos ⟨rfl, rfl, rfl, rfl⟩]
    · exact fr 3 a j p (by omega) (by omega) (by omega) (by omega) (by omega)
    · rw [s₂ 3 a j p (by omega)]
      exact fr 3 a j p (by omega) (by omega) (by omega) (by omega) (by omega)
