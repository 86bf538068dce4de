/-! CALLS: writeFalls. -/
def ccLet (g : Nat) : Nat := if g = 0 then 108 else if g = 1 then 119 else if g = 2 then 98 else 120
theorem ccLet_b {g : Nat} : ccLet g < 128 := by
  unfold ccLet
  split
  · omega
  · split
    · omega
    · split <;> omega
theorem ccE155 {m : mMi} {rs : mRs} {g : Nat} (h₁ : g < 4) : F155 (N g) m rs = rI (N (ccLet g)) m rs := by
  have h₂ : g = 0 ∨ g = 1 ∨ g = 2 ∨ g = 3 := by omega
  rcases h₂ with h₂ | h₂ | h₂ | h₂ <;> subst h₂ <;> rfl
theorem ccE287 {m : mMi} {rs : mRs} {g : Nat} (h₁ : g < 4) : F287 (N g) m rs = rI (N (ccLet g)) m rs := by
  have h₂ : g = 0 ∨ g = 1 ∨ g = 2 ∨ g = 3 := by omega
  rcases h₂ with h₂ | h₂ | h₂ | h₂ <;> subst h₂ <;> rfl
def ccWt2 (K : mMi → mRs → mRz) (x1 : Int32) : mMi → mRs → mRz := fun m3 r3 => bI (F48 0 x1 (N 1) m3 r3) (fun v4 m4 r4 => bV (F91 v4 m4 r4) (fun m5 r5 => bV (F88 (N 46) m5 r5) (fun m6 r6 => bI (F48 0 x1 (N 2) m6 r6) (fun v7 m7 r7 => bV (F91 v7 m7 r7) (fun m8 r8 => bI (F48 0 x1 (N 4) m8 r8) (fun v9 m9 r9 => bI (F155 v9 m9 r9) (fun v10 m10 r10 => bV (F88 v10 m10 r10) K)))))))
def ccWk (K : mMi → mRs → mRz) (x1 : Int32) : mMi → mRs → mRz := fun m1 r1 => bI (F48 0 x1 (N 3) m1 r1) (fun v2 m2 r2 => mifO (decide (v2 ≠ (N 0))) (bV (F88 (N 102) m2 r2) (ccWt2 K x1)) (bV (F88 (N 112) m2 r2) (ccWt2 K x1)))
theorem ccL154w {f : Nat} {x1 : Int32} {mi : mMi} {rs : mRs} : F154_14 (f + 1) x1 mi rs = bI (F47 0 mi rs) (fun v1 m1 r1 => mifO (decide (v1 ≤ x1)) (rI (m1 2 7 0 1) m1 r1) (mifO (decide (x1 ≤ (N 0))) (ccWk (fun m r => F154_14 f (x1 + (N 1)) m r) x1 m1 r1) (bV (F88 (N 32) m1 r1) (ccWk (fun m r => F154_14 f (x1 + (N 1)) m r) x1)))) := rfl
def ccVt2 (K : mMi → mRs → mRz) (x1 : Int32) : mMi → mRs → mRz := fun m3 r3 => bI (F245 x1 (N 1) m3 r3) (fun v4 m4 r4 => bV (F285 v4 m4 r4) (fun m5 r5 => bV (F282 (N 46) m5 r5) (fun m6 r6 => bI (F245 x1 (N 2) m6 r6) (fun v7 m7 r7 => bV (F285 v7 m7 r7) (fun m8 r8 => bI (F245 x1 (N 4) m8 r8) (fun v9 m9 r9 => bI (F287 v9 m9 r9) (fun v10 m10 r10 => bV (F282 v10 m10 r10) K)))))))
def ccVk (K : mMi → mRs → mRz) (x1 : Int32) : mMi → mRs → mRz := fun m1 r1 => bI (F245 x1 (N 3) m1 r1) (fun v2 m2 r2 => mifO (decide (v2 ≠ (N 1))) (bV (F282 (N 112) m2 r2) (ccVt2 K x1)) (bV (F282 (N 102) m2 r2) (ccVt2 K x1)))
theorem ccL286w {f : Nat} {x1 : Int32} {mi : mMi} {rs : mRs} : F286_16 (f + 1) x1 mi rs = bI (F244 mi rs) (fun v1 m1 r1 => mifO (decide (v1 ≤ x1)) (rI (m1 4 0 0 36) m1 r1) (mifO (decide (x1 ≤ (N 0))) (ccVk (fun m r => F286_16 f (x1 + (N 1)) m r) x1 m1 r1) (bV (F282 (N 32) m1 r1) (ccVk (fun m r => F286_16 f (x1 + (N 1)) m r) x1)))) := rfl
/-- what is written of one fall, and what comes behind it -/
def ccEnt (z x y g : Nat) (t : List Nat) : List Nat := [if z = 0 then 112 else 102] ++ (ccNl x ++ ([46] ++ (ccNl y ++ ([ccLet g] ++ t))))
theorem ccEnt_len {z x y g : Nat} {t : List Nat} (h₁ : x < 8) (h₂ : y < 12) : (ccEnt z x y g t).length ≤ 6 + t.length := by
  have l₁ : ccDk x = 0 := by unfold ccDk; rw [if_pos (by omega)]
  have l₂ : ccDk y ≤ 1 := by
    unfold ccDk
    by_cases y₁ : y < 10
    · rw [if_pos y₁]; omega
    · rw [if_neg y₁, if_pos (by omega)]
      exact Nat.le_refl 1
  unfold ccEnt
  rw [List.length_append, List.length_append, List.length_append, List.length_append, List.length_append, ccNl_len, ccNl_len, l₁]
  show 1 + (0 + 1 + (1 + (ccDk y + 1 + (1 + t.length)))) ≤ 6 + t.length
  omega
theorem ccWk_is {X : mMi} {K : mMi → mRs → mRz} {t₀ a u z x y g : Nat} {t : List Nat} (h₁ : X 0 0 7 2 = N t₀) (b₁ : t₀ < 1000000000) (h₂ : a < t₀) (h₃ : a < 30) (hu : u = (t₀ - 1 - a) % 30) (e₁ : X 0 0 8 (5 * u + 1) = N x) (e₂ : X 0 0 8 (5 * u + 2) = N y) (e₃ : X 0 0 8 (5 * u + 3) = N z) (e₄ : X 0 0 8 (5 * u + 4) = N g) (x₁ : x < 8) (y₁ : y < 12) (z₁ : z < 2) (g₁ : g < 4) (k : ccWR X K t) : ccWR X (ccWk K (N a)) (ccEnt z x y g t) := by
  have rd : ∀ e, e < 5 → ∀ m rs, ccAw X m → F48 0 (N a) (N e) m rs = rI (X 0 0 8 (5 * u + e)) m rs := fun e q₁ m rs q₂ => by
    rw [ccE48 (t := t₀) (by rw [q₂ 0 0 7 2 (by omega)]; exact h₁) b₁ h₂ h₃ q₁, ← hu, q₂ 0 0 8 _ (by omega)]
  have tail : ccWR X (ccWt2 K (N a)) (ccNl x ++ ([46] ++ (ccNl y ++ ([ccLet g] ++ t)))) :=
    ccWR_r (v := N x) (fun m rs q => by rw [rd 1 (by omega) m rs q, e₁]) (ccWR_w (ccW_num (by omega)) (ccWR_w (ccW_1 (by omega)) (ccWR_r (v := N y) (fun m rs q => by rw [rd 2 (by omega) m rs q, e₂]) (ccWR_w (ccW_num (by omega)) (ccWR_r (v := N g) (fun m rs q => by rw [rd 4 (by omega) m rs q, e₄]) (ccWR_r (v := N (ccLet g)) (fun m rs q => ccE155 g₁) (ccWR_w (ccW_1 ccLet_b) k)))))))
  unfold ccEnt
  refine ccWR_r (v := N z) (fun m rs q => by rw [rd 3 (by omega) m rs q, e₃]) (ccWR_if (fun q => ?_) (fun q => ?_))
  · have q₁ : ¬ z = 0 := fun q₂ => q (by rw [q₂])
    rw [if_neg q₁]
    exact ccWR_w (ccW_1 (by omega)) tail
  · have q₁ : z = 0 := by
      rcases Classical.em (z = 0) with q₂ | q₂
      · exact q₂
      · exact absurd (by rw [ne_eq, N_eq (by omega) (by omega)]; exact q₂) q
    rw [if_pos q₁]
    exact ccWR_w (ccW_1 (by omega)) tail
theorem ccVk_is {Y : mMi} {K : mMi → mRs → mRz} {t₀ a u z x y g : Nat} {t : List Nat} (h₁ : Y 4 0 3 1 = N t₀) (b₁ : t₀ < 1000000000) (h₂ : a < t₀) (hu : u = (t₀ - 1 - a) % 30) (e₁ : Y 4 0 3 (768 + 5 * u + 1) = N x) (e₂ : Y 4 0 3 (768 + 5 * u + 2) = N y) (e₃ : Y 4 0 3 (768 + 5 * u + 3) = N z) (e₄ : Y 4 0 3 (768 + 5 * u + 4) = N g) (x₁ : x < 8) (y₁ : y < 12) (z₁ : z < 2) (g₁ : g < 4) (k : ccVR Y K t) : ccVR Y (ccVk K (N a)) (ccEnt z x y g t) := by
  have rd : ∀ e, e < 5 → ∀ m rs, ccAv Y m → F245 (N a) (N e) m rs = rI (Y 4 0 3 (768 + 5 * u + e)) m rs := fun e q₁ m rs q₂ => by
    rw [ccE245 (t := t₀) (by rw [q₂ 4 0 3 1 (by omega)]; exact h₁) b₁ h₂ q₁, ← hu, q₂ 4 0 3 _ (by omega)]
  have tail : ccVR Y (ccVt2 K (N a)) (ccNl x ++ ([46] ++ (ccNl y ++ ([ccLet g] ++ t)))) :=
    ccVR_r (v := N x) (fun m rs q => by rw [rd 1 (by omega) m rs q, e₁]) (ccVR_w (ccV_num (by omega)) (ccVR_w ccV_1 (ccVR_r (v := N y) (fun m rs q => by rw [rd 2 (by omega) m rs q, e₂]) (ccVR_w (ccV_num (by omega)) (ccVR_r (v := N g) (fun m rs q => by rw [rd 4 (by omega) m rs q, e₄]) (ccVR_r (v := N (ccLet g)) (fun m rs q => ccE287 g₁) (ccVR_w ccV_1 k)))))))
  unfold ccEnt
  refine ccVR_r (v := N z) (fun m rs q => by rw [rd 3 (by omega) m rs q, e₃]) (ccVR_if (fun q => ?_) (fun q => ?_))
  · have q₁ : z = 0 := by
      rcases Classical.em (z = 0) with q₂ | q₂
      · exact q₂
      · have q₃ : z = 1 := by omega
        exact absurd (by rw [q₃]) q
    rw [if_pos q₁]
    exact ccVR_w ccV_1 tail
  · have q₁ : ¬ z = 0 := fun q₂ => q (by rw [q₂, ne_eq, N_eq (by omega) (by omega)]; omega)
    rw [if_neg q₁]
    exact ccVR_w ccV_1 tail
def ccFls (C : Nat → Nat → Int32) (t : Nat) : Nat → Nat → List Nat
  | 0, _ => []
  | d + 1, a => (if a = 0 then [] else [32]) ++ ccEnt (mix (C 8 (5 * ((t - 1 - a) % 30) + 3))) (mix (C 8 (5 * ((t - 1 - a) % 30) + 1))) (mix (C 8 (5 * ((t - 1 - a) % 30) + 2))) (mix (C 8 (5 * ((t - 1 - a) % 30) + 4))) (ccFls C t d (a + 1))
theorem ccFls_len {t k : Nat} {C : Nat → Nat → Int32} {s : Nat → Int32} (q : ccRE t C s) (h₁ : k ≤ t) : ∀ d a, a + d = k → (ccFls C t d a).length ≤ 7 * d := by
  intro d
  induction d with
  | zero => intro a _; exact Nat.le_refl 0
  | succ d i₁ =>
    intro a g₁
    have e₆ : (t - 1 - a) % 30 < 30 := Nat.mod_lt _ (by omega)
    have e₇ : (t - 1 - a) % 30 ≤ t - 1 - a := Nat.mod_le _ _
    obtain ⟨_, x, y, z, g, e₁, e₂, e₃, e₄, x₁, y₁, z₁, g₂⟩ := q.2.2.1 ((t - 1 - a) % 30) e₆ (by omega)
    have e₅ := i₁ (a + 1) (by omega)
    have e₈ := ccEnt_len (z := mix (C 8 (5 * ((t - 1 - a) % 30) + 3))) (x := mix (C 8 (5 * ((t - 1 - a) % 30) + 1))) (y := mix (C 8 (5 * ((t - 1 - a) % 30) + 2))) (g := mix (C 8 (5 * ((t - 1 - a) % 30) + 4))) (t := ccFls C t d (a + 1)) (by rw [e₁, mix_N (by omega)]; exact x₁) (by rw [e₂, mix_N (by omega)]; exact y₁)
    show ((if a = 0 then [] else [32]) ++ ccEnt _ _ _ _ (ccFls C t d (a + 1))).length ≤ _
    rw [List.length_append]
    have e₉ : (if a = 0 then ([] : List Nat) else [32]).length ≤ 1 := by
      split
      · exact Nat.zero_le 1
      · exact Nat.le_refl 1
    omega
theorem ccMn30 {t : Nat} (b₁ : t < 1000000000) : ∃ k, k ≤ 30 ∧ k ≤ t ∧ (if N 30 < N t then N 30 else N t) = N k ∧ (if N t < N 30 then N t else N 30) = N k := by
  by_cases g₁ : 30 < t
  · have g₂ : N 30 < N t := by rw [N_lt (by omega) (by omega)]; exact g₁
    have g₃ : ¬ N t < N 30 := by rw [N_lt (by omega) (by omega)]; omega
    exact ⟨30, by omega, by omega, by rw [if_pos g₂], by rw [if_neg g₃]⟩
  · have g₂ : ¬ N 30 < N t := by rw [N_lt (by omega) (by omega)]; exact g₁
    refine ⟨t, by omega, by omega, by rw [if_neg g₂], ?_⟩
    by_cases g₃ : t < 30
    · have g₄ : N t < N 30 := by rw [N_lt (by omega) (by omega)]; exact g₃
      rw [if_pos g₄]
    · have g₄ : ¬ N t < N 30 := by rw [N_lt (by omega) (by omega)]; exact g₃
      have g₅ : t = 30 := by omega
      rw [if_neg g₄, g₅]
theorem ccL154 {X : mMi} {t k : Nat} {C : Nat → Nat → Int32} {s : Nat → Int32} (q : ccRE t C s) (h₀ : X 0 0 = C) (b₁ : t < 1000000000) (k₁ : k ≤ 30) (k₂ : k ≤ t) (k₃ : (if N 30 < N t then N 30 else N t) = N k) : ∀ d a f, a + d = k → ccWR X (fun m r => F154_14 (f + d + 1) (N a) m r) (ccFls C t d a) := by
  have f47 : ∀ m rs, ccAw X m → F47 0 m rs = rI (N k) m rs := fun m rs y₁ => by
    have y₂ : m 0 0 7 2 = N t := by rw [y₁ 0 0 7 2 (by omega), h₀]; exact q.1
    unfold F47
    rw [y₂, k₃]
  intro d
  induction d with
  | zero =>
    intro a f g₁ m e rs a₁ a₂ a₃
    have e₀ : N k ≤ N a := by rw [N_le (by omega) (by omega)]; omega
    show F154_14 (f + 0 + 1) (N a) m rs = _
    rw [ccL154w, f47 m rs a₁, ccBi, ccIte, if_pos e₀, a₂]
    rfl
  | succ d i₁ =>
    intro a f g₁ m e rs a₁ a₂ a₃
    have e₀ : ¬ N k ≤ N a := by rw [N_le (by omega) (by omega)]; omega
    have e₁ : f + (d + 1) + 1 = f + d + 1 + 1 := by omega
    have e₆ : (t - 1 - a) % 30 < 30 := Nat.mod_lt _ (by omega)
    have e₇ : (t - 1 - a) % 30 ≤ t - 1 - a := Nat.mod_le _ _
    obtain ⟨_, x, y, z, g, c₁, c₂, c₃, c₄, x₁, y₁, z₁, g₂⟩ := q.2.2.1 ((t - 1 - a) % 30) e₆ (by omega)
    have n₁ : N a + N 1 = N (a + 1) := by rw [N_add]
    have ent := ccWk_is (X := X) (K := fun m r => F154_14 (f + d + 1) (N a + N 1) m r) (t := ccFls C t d (a + 1)) (by rw [h₀]; exact q.1) b₁ (by omega : a < t) (by omega) rfl (by rw [h₀]; exact c₁) (by rw [h₀]; exact c₂) (by rw [h₀]; exact c₃) (by rw [h₀]; exact c₄) x₁ y₁ z₁ g₂ (by rw [n₁]; exact i₁ (a + 1) f (by omega))
    have fl : ccFls C t (d + 1) a = (if a = 0 then [] else [32]) ++ ccEnt z x y g (ccFls C t d (a + 1)) := by
      show (if a = 0 then [] else [32]) ++ ccEnt _ _ _ _ (ccFls C t d (a + 1)) = _
      rw [c₁, c₂, c₃, c₄, mix_N (by omega), mix_N (by omega), mix_N (by omega), mix_N (by omega)]
    rw [fl] at a₃ ⊢
    show F154_14 (f + (d + 1) + 1) (N a) m rs = _
    rw [e₁, ccL154w, f47 m rs a₁, ccBi, ccIte, if_neg e₀, ccIte]
    by_cases g₃ : a = 0
    · have g₄ : N a ≤ N 0 := by rw [N_le (by omega) (by omega)]; omega
      rw [if_pos g₃] at a₃ ⊢
      rw [if_pos g₄]
      exact ent m e rs a₁ a₂ a₃
    · have g₄ : ¬ N a ≤ N 0 := by rw [N_le (by omega) (by omega)]; omega
      rw [if_neg g₃] at a₃ ⊢
      rw [if_neg g₄]
      exact ccWR_w (ccW_1 (by omega)) ent m e rs a₁ a₂ a₃
theorem ccL286 {Y : mMi} {t k : Nat} {C : Nat → Nat → Int32} {s : Nat → Int32} (q : ccRE t C s) (h₀ : Y 4 0 3 = s) (b₁ : t < 1000000000) (k₁ : k ≤ 30) (k₂ : k ≤ t) (k₃ : (if N t < N 30 then N t else N 30) = N k) : ∀ d a f, a + d = k → ccVR Y (fun m r => F286_16 (f + d + 1) (N a) m r) (ccFls C t d a) := by
  have f47 : ∀ m rs, ccAv Y m → F244 m rs = rI (N k) m rs := fun m rs y₁ => by
    have y₂ : m 4 0 3 1 = N t := by rw [ccAv_3 y₁, h₀]; exact q.2.1
    unfold F244
    rw [y₂, k₃]
  intro d
  induction d with
  | zero =>
    intro a f g₁ m e rs a₁ a₂ a₃
    have e₀ : N k ≤ N a := by rw [N_le (by omega) (by omega)]; omega
    show F286_16 (f + 0 + 1) (N a) m rs = _
    rw [ccL286w, f47 m rs a₁, ccBi, ccIte, if_pos e₀, a₂]
    rfl
  | succ d i₁ =>
    intro a f g₁ m e rs a₁ a₂ a₃
    have e₀ : ¬ N k ≤ N a := by rw [N_le (by omega) (by omega)]; omega
    have e₁ : f + (d + 1) + 1 = f + d + 1 + 1 := by omega
    have e₆ : (t - 1 - a) % 30 < 30 := Nat.mod_lt _ (by omega)
    have e₇ : (t - 1 - a) % 30 ≤ t - 1 - a := Nat.mod_le _ _
    obtain ⟨sc, x, y, z, g, c₁, c₂, c₃, c₄, x₁, y₁, z₁, g₂⟩ := q.2.2.1 ((t - 1 - a) % 30) e₆ (by omega)
    have n₁ : N a + N 1 = N (a + 1) := by rw [N_add]
    have ent := ccVk_is (Y := Y) (K := fun m r => F286_16 (f + d + 1) (N a + N 1) m r) (t := ccFls C t d (a + 1)) (by rw [h₀]; exact q.2.1) b₁ (by omega : a < t) rfl (by rw [h₀, sc 1 (by omega)]; exact c₁) (by rw [h₀, sc 2 (by omega)]; exact c₂) (by rw [h₀, sc 3 (by omega)]; exact c₃) (by rw [h₀, sc 4 (by omega)]; exact c₄) x₁ y₁ z₁ g₂ (by rw [n₁]; exact i₁ (a + 1) f (by omega))
    have fl : ccFls C t (d + 1) a = (if a = 0 then [] else [32]) ++ ccEnt z x y g (ccFls C t d (a + 1)) := by
      show (if a = 0 then [] else [32]) ++ ccEnt _ _ _ _ (ccFls C t d (a + 1)) = _
      rw [c₁, c₂, c₃, c₄, mix_N (by omega), mix_N (by omega), mix_N (by omega), mix_N (by omega)]
    rw [fl] at a₃ ⊢
    show F286_16 (f + (d + 1) + 1) (N a) m rs = _
    rw [e₁, ccL286w, f47 m rs a₁, ccBi, ccIte, if_neg e₀, ccIte]
    by_cases g₃ : a = 0
    · have g₄ : N a ≤ N 0 := by rw [N_le (by omega) (by omega)]; omega
      rw [if_pos g₃] at a₃ ⊢
      rw [if_pos g₄]
      exact ent m e rs a₁ a₂ a₃
    · have g₄ : ¬ N a ≤ N 0 := by rw [N_le (by omega) (by omega)]; omega
      rw [if_neg g₃] at a₃ ⊢
      rw [if_neg g₄]
      exact ccVR_w ccV_1 ent m e rs a₁ a₂ a₃
theorem ccOk_154 {B : Nat} {m : mMi} (hB : B ≤ 900000000) (h₁ : ccTop B m) : ccOk B F154 F286 [(1, 1)] m := by
  refine ccOk_texte (b := N 0) h₁ (List.mem_cons_self) (fun m rs => rfl) (fun m rs => rfl) (fun w l n bd lm dp cl β W h₂ => ?_)
  obtain ⟨h, t₀, q₁, _, _, _, _, tB⟩ := ccLd_R h₂
  have re := q₁.2.2.2.2.1
  obtain ⟨k, k₁, k₂, k₃, k₄⟩ := ccMn30 (t := t₀) (by omega)
  obtain ⟨X, hX⟩ : ∃ y, y = mset m 2 7 0 1 (N 0) := ⟨_, rfl⟩
  have xs : ∀ f a j p, ¬ (f = 2 ∧ a = 7) → X f a j p = m f a j p := fun f a j p y₁ => by rw [hX, ccRd, if_neg (by omega)]
  have cX : X 0 0 = m 0 0 := by
    funext j p
    exact xs 0 0 j p (by omega)
  obtain ⟨t, ht⟩ : ∃ t, t = ccFls (m 0 0) t₀ k 0 := ⟨_, rfl⟩
  have tl : t.length ≤ 240 := by
    have y₁ := ccFls_len re k₂ k 0 (by omega)
    rw [← ht] at y₁
    omega
  obtain ⟨g, hg⟩ := ccFU (k := k) (by omega)
  obtain ⟨M, hM⟩ : ∃ y, y = ccTwL t X 0 := ⟨_, rfl⟩
  have m₄ : ccMo4 m M := fun a j p => by rw [hM, ccTwL_o _ _ _ _ _ _ _ (by omega), xs 4 a j p (by omega)]
  obtain ⟨Y, hY⟩ : ∃ y, y = mset (ccM0 M) 4 0 0 36 (N 0) := ⟨_, rfl⟩
  have ys : ∀ f a j p, ¬ (f = 4 ∧ a = 0 ∧ j = 0 ∧ (p = 0 ∨ p = 36)) → Y f a j p = M f a j p := fun f a j p y₁ => by
    rw [hY, ccRd, if_neg (by omega)]
    unfold ccM0
    rw [ccRd, if_neg (by omega)]
  have sY : Y 4 0 3 = m 4 0 3 := by
    funext q
    rw [ys 4 0 3 q (by omega), m₄]
  have wr := ccL154 re cX (by omega) k₁ k₂ k₃ k 0 g (by omega)
  have vr := ccL286 re sY (by omega) k₁ k₂ k₄ k 0 g (by omega)
  rw [← ht] at wr vr
  have o₁ : ∀ f a j p, ¬ ccJk f a j p → ¬ ccTxc f a j p → X f a j p = m f a j p := fun f a j p y₁ y₂ => xs f a j p (fun y₃ => y₂ (Or.inl y₃))
  have o₂ : X 2 7 0 1 = N 0 := by rw [hX, ccRd, if_pos ⟨rfl, rfl, rfl, rfl⟩]
  have o₃ : ∀ a j p, X 4 a j p = m 4 a j p := fun a j p => xs 4 a j p (by omega)
  have o₄ : ∀ f a j p, ¬ ccJk f a j p → ¬ (f = 4 ∧ a = 0 ∧ j = 0 ∧ p = 36) → Y f a j p = ccTwL t X 0 f a j p := fun f a j p y₁ y₂ => by
    rw [← hM]
    exact ys f a j p (ccJk_c y₁ y₂)
  have o₅ : Y 4 0 0 36 = N 0 := by rw [hY, ccRd, if_pos ⟨rfl, rfl, rfl, rfl⟩]
  have o₆ : Y 4 0 0 0 = N 0 := by rw [hY, ccRd, if_neg (by omega)]; exact ccT0s
  refine ccOk_wr h₁ tl (fun rs => ?_) (fun rs => ?_) wr vr o₁ o₂ o₃ o₄ o₅ o₆
  · show F154_14 FU (N 0) (mset m 2 7 0 1 (N 0)) rs = _
    rw [← hX, hg]
  · rw [← hM]
    show F286_16 FU (N 0) (mset (ccM0 M) 4 0 0 36 (N 0)) rs = _
    rw [← hY, hg]
