/-! THE WORLD IS MADE: one thing is built. -/
theorem kwVv_le {B k k₁ D D₁ : Nat} {r₀ r : mRs} {t : List Nat} {m : mMi} (h : kwVv B k r₀ D t m r) (h₁ : k ≤ k₁) (h₂ : D ≤ D₁) : kwVv B k₁ r₀ D₁ t m r := by
  obtain ⟨⟨b, nx, f, o, al⟩, a, d, i, e₁, e₂⟩ := h
  exact ⟨⟨b, nx, kwRs_le f h₁ (Nat.mul_le_mul h₁ (Nat.le_refl _)), o, al⟩, a, d, i, e₁, by omega⟩
/-- what a build leaves -/
def kwFw (B : Nat) (m M : mMi) : Prop := ∀ f i j p, f ≠ 7 → ¬ (f = 9 ∧ B + 1 ≤ i) → ¬ (f = 6 ∧ i = B) → ¬ (20 ≤ f ∧ f ≤ 25 ∧ i = B) → M f i j p = m f i j p
theorem kwFw_n {B : Nat} {m M : mMi} (h : kwFn B m M) : kwFw B m M := fun f i j p _ g _ _ => h f i j p g
theorem kwFw_t {B : Nat} {m m₁ m₂ : mMi} (h₁ : kwFw B m m₁) (h₂ : kwFw B m₁ m₂) : kwFw B m m₂ := fun f i j p g₁ g₂ g₃ g₄ => Eq.trans (h₂ f i j p g₁ g₂ g₃ g₄) (h₁ f i j p g₁ g₂ g₃ g₄)
theorem kwFw_7 {B : Nat} {m M : mMi} (h : ∀ f i j p, f ≠ 7 → M f i j p = m f i j p) : kwFw B m M := fun f i j p g _ _ _ => h f i j p g
theorem kwFw_s {B f j p : Nat} {v : Int32} {m M : mMi} (h : kwFw B m M) (hf : f = 6 ∨ (20 ≤ f ∧ f ≤ 25)) : kwFw B m (mset M f B j p v) := fun f₁ i j₁ p₁ g₁ g₂ g₃ g₄ => by
  rw [ccRd, if_neg (by omega)]
  exact h f₁ i j₁ p₁ g₁ g₂ g₃ g₄
theorem kwRw_n {B : Nat} {m M : mMi} (h : kwFn B m M) : kwRw B m M := fun f j p y => h f B j p (by omega)
theorem kwRw_7 {B : Nat} {m M : mMi} (h : ∀ f i j p, f ≠ 7 → M f i j p = m f i j p) : kwRw B m M := fun f j p y => h f B j p (by omega)
/-- what comes of a build: a change that is told -/
def kwBd1 (B w l n lm dp cl bd : Nat) (β : Nat → Int32) (W : Nat → Nat) (h k : Nat) (r₀ : mRs) (D : Nat) (t : List Nat) (m M : mMi) (R : mRs) : Prop := ∃ o G, kwOpOk B w l n o m ∧ kwRw B (kwOpM B o m) M ∧ kwVv B (k + 10) r₀ D (t ++ kwOpT o) M R ∧ kwFw B m M ∧ kwJ G M 2 B w l n lm dp cl bd β (fun i => N (W i)) W true h 0
/-- a pair is told and built -/
theorem kwE151 {L B w l n lm dp cl bd h k D P c a b : Nat} {β : Nat → Int32} {W : Nat → Nat} {r₀ r : mRs} {t : List Nat} {m G : mMi} {x2 x3 x4 x9 : Int32} (v : kwVv B k r₀ D t m r) (hB : 0 < B) (hL : L < 2147483648) (hD : D < 800000) (bn : n ≤ 20) (q : kwJ G m 2 B w l n lm dp cl bd β (fun i => N (W i)) W true h 0) (h₁ : P < l) (h₂ : P + c < w) (ha : a < n) (hb : b < n) (hab : b ≠ a) (wa : m 6 B 4 a = N 0) (wb : m 6 B 4 b = N 0) (g₂ : m 20 B P c = I (-1)) (g₃ : 1 ≤ P → m 24 B P c ≠ I (-1)) (hl : t.length ≤ 480) : ∃ M R, H174_151 L B x2 x3 x4 (N P) (N c) (N a) (N b) x9 m r = rV M R ∧ kwBd1 B w l n lm dp cl bd β W h k r₀ (D + 1) t m M R := by
  have b₁ : w ≤ 12 := q.2.1.2.2.2.2.2.2.2.2.1
  have b₂ : l ≤ 8 := q.2.1.2.2.2.2.2.2.2.2.2.2.1
  have lP : (ccNl P).length = 1 := by rw [kwNl1 (by omega : P < 10)]; rfl
  have lc := (kwNl_l (x := c) (by omega)).2
  obtain ⟨u, m₁, u₁, u₂, c₁, v₁, f₁⟩ := kwVv_d (lo := 20) (hi := 70) v hL (by omega) (by omega) (by omega)
  have lu : (ccNl u).length = 2 := by rw [kwNl2 (by omega) (by omega)]; rfl
  obtain ⟨m₂, r₂, c₂, v₂, f₂⟩ := kwVv_p v₁ (by omega) kwPool16 (by omega)
  obtain ⟨m₃, r₃, c₃, v₃, f₃⟩ := kwVv_n (x := P) v₂ hB (by omega) (by simp only [List.length_append, List.length_cons, List.length_nil]; omega)
  obtain ⟨m₄, r₄, c₄, v₄, f₄⟩ := kwVv_c (b := 32) v₃ (by omega) (by omega) (by simp only [List.length_append, List.length_cons, List.length_nil]; omega)
  obtain ⟨m₅, r₅, c₅, v₅, f₅⟩ := kwVv_n (x := c) v₄ hB (by omega) (by simp only [List.length_append, List.length_cons, List.length_nil]; omega)
  obtain ⟨m₆, r₆, c₆, v₆, f₆⟩ := kwVv_c (b := 32) v₅ (by omega) (by omega) (by simp only [List.length_append, List.length_cons, List.length_nil]; omega)
  obtain ⟨m₇, r₇, c₇, v₇, f₇⟩ := kwVv_c (b := 97 + a) v₆ (by omega) (by omega) (by simp only [List.length_append, List.length_cons, List.length_nil]; omega)
  obtain ⟨m₈, r₈, c₈, v₈, f₈⟩ := kwVv_c (b := 32) v₇ (by omega) (by omega) (by simp only [List.length_append, List.length_cons, List.length_nil]; omega)
  obtain ⟨m₉, r₉, c₉, v₉, f₉⟩ := kwVv_c (b := 97 + b) v₈ (by omega) (by omega) (by simp only [List.length_append, List.length_cons, List.length_nil]; omega)
  obtain ⟨ma, ra, ca, va, fa⟩ := kwVv_c (b := 32) v₉ (by omega) (by omega) (by simp only [List.length_append, List.length_cons, List.length_nil]; omega)
  obtain ⟨mb, rb, cb, vb, fb⟩ := kwVv_n (x := u) va hB (by omega) (by simp only [List.length_append, List.length_cons, List.length_nil]; omega)
  have fz : kwFn B m₁ mb := fun f i j p g => by rw [fb f i j p g, fa f i j p g, f₉ f i j p g, f₈ f i j p g, f₇ f i j p g, f₆ f i j p g, f₅ f i j p g, f₄ f i j p g, f₃ f i j p g, f₂ f i j p g]
  have rw₁ : kwRw B m mb := kwRw_t (kwRw_7 f₁) (kwRw_n fz)
  have fw₁ : kwFw B m mb := kwFw_t (kwFw_7 f₁) (kwFw_n fz)
  have al := kwVv_al vb
  obtain ⟨o, ho⟩ : ∃ o : Nat × Nat × Nat × Nat × Nat × Nat, o = (0, P, c, a, b, u) := ⟨_, rfl⟩
  have ok : kwOpOk B w l n o m := by
    rw [ho]
    exact ⟨⟨h₁, h₂, ha, wa⟩, fun _ => ⟨hb, hab, wb, u₁, u₂, g₂, g₃⟩, fun y => absurd rfl y⟩
  have om : ∀ M, kwOpM B o M = kwMe M B P c a b (N u) := fun M => by
    rw [ho]
    exact if_pos rfl
  have ot : t ++ kwOpT o = t ++ [59, 108, 101, 97, 110, 32] ++ ccNl P ++ [32] ++ ccNl c ++ [32] ++ [97 + a] ++ [32] ++ [97 + b] ++ [32] ++ ccNl u := by
    have e : kwOpT o = [59, 108, 101, 97, 110, 32] ++ (ccNl P ++ ([32] ++ (ccNl c ++ ([32] ++ ([97 + a] ++ ([32] ++ ([97 + b] ++ ([32] ++ ccNl u)))))))) := by
      rw [ho]
      exact if_pos rfl
    rw [e]
    simp only [List.append_assoc]
  have ke := kwE181 (rs := rb) (m := mb) (L := P) (c := c) (a := a) (b := b) (g := N u) al (by omega) (by omega) (by omega) (by omega)
  have qj := (kwJ_op q ok).1 (by rw [ho])
  have rm : kwRw B (kwOpM B o m) (kwMe mb B P c a b (N u)) := by
    rw [← om mb]
    exact kwOpM_w rw₁
  have fm : kwFw B mb (kwMe mb B P c a b (N u)) := by
    unfold kwMe
    exact kwFw_s (kwFw_s (kwFw_s (kwFw_s (kwFw_s (kwFw_s (kwFw_s (kwFw_s (kwFw_s (kwFw_s (fun _ _ _ _ _ _ _ _ => rfl) (by omega)) (by omega)) (by omega)) (by omega)) (by omega)) (by omega)) (by omega)) (by omega)) (by omega)) (by omega)
  refine ⟨kwMe mb B P c a b (N u), rb, ?_, o, _, ok, rm, ?_, kwFw_t fw₁ fm, kwJ_rw qj rm⟩
  · unfold H174_151
    rw [kwVv_al v, ccMckT, c₁, ccBi, kwVv_al v₁, ccMckT, kwObj (kwZz_k v₁.1), c₂, kwBr, kwVv_al v₂, ccMckT, kwObj (kwZz_k v₂.1), c₃, kwBr, kwVv_al v₃, ccMckT, kwObj (kwZz_k v₃.1), c₄, kwBr, kwVv_al v₄, ccMckT, kwObj (kwZz_k v₄.1), c₅, kwBr, kwVv_al v₅, ccMckT, kwObj (kwZz_k v₅.1), c₆, kwBr, kwVv_al v₆, ccMckT, N_add, kwCh (by omega), kwObj (kwZz_k v₆.1), c₇, kwBr, kwVv_al v₇, ccMckT, kwObj (kwZz_k v₇.1), c₈, kwBr, kwVv_al v₈, ccMckT, N_add, kwCh (by omega), kwObj (kwZz_k v₈.1), c₉, kwBr, kwVv_al v₉, ccMckT, kwObj (kwZz_k v₉.1), ca, kwBr, kwVv_al va, ccMckT, kwObj (kwZz_k va.1), cb, kwBr, al, ccMckT, ke, ccBv, al, ccMckT]
  · rw [ot]
    exact kwVv_w vb (fun f i j p g => by
      unfold kwMe
      rw [ccRd, if_neg (by omega), ccRd, if_neg (by omega), ccRd, if_neg (by omega), ccRd, if_neg (by omega), ccRd, if_neg (by omega), ccRd, if_neg (by omega), ccRd, if_neg (by omega), ccRd, if_neg (by omega), ccRd, if_neg (by omega), ccRd, if_neg (by omega)])
/-- a flat card is told and laid -/
theorem kwE239 {L B w l n lm dp cl bd h k D P c a : Nat} {β : Nat → Int32} {W : Nat → Nat} {r₀ r : mRs} {t : List Nat} {m G : mMi} {x2 x4 : Int32} (v : kwVv B k r₀ D t m r) (hB : 0 < B) (bn : n ≤ 20) (q : kwJ G m 2 B w l n lm dp cl bd β (fun i => N (W i)) W true h 0) (h₁ : P < l) (h₂ : P + c < w) (ha : a < n) (wa : m 6 B 4 a = N 0) (e₁ : H183 B (N P) (N c) m r = rI (N 1) m r) (e₂ : H180 B (N 0) m r = rI (N a) m r) (g₁ : 1 ≤ P) (g₂ : m 24 B P c = I (-1)) (g₃ : m 20 B (P - 1) c ≠ I (-1)) (g₄ : m 20 B (P - 1) (c + 1) ≠ I (-1)) (hl : t.length ≤ 480) : ∃ M R, (∀ f₀, H174_18 L B (f₀ + 1) 239 x2 (N 0) x4 (N P) (N c) m r = rV M R) ∧ kwBd1 B w l n lm dp cl bd β W h k r₀ D t m M R := by
  have b₁ : w ≤ 12 := q.2.1.2.2.2.2.2.2.2.2.1
  have b₂ : l ≤ 8 := q.2.1.2.2.2.2.2.2.2.2.2.2.1
  have lP : (ccNl P).length = 1 := by rw [kwNl1 (by omega : P < 10)]; rfl
  have lc := (kwNl_l (x := c) (by omega)).2
  obtain ⟨m₂, r₂, c₂, v₂, f₂⟩ := kwVv_p v (by omega) kwPool17 (by omega)
  obtain ⟨m₃, r₃, c₃, v₃, f₃⟩ := kwVv_n (x := P) v₂ hB (by omega) (by simp only [List.length_append, List.length_cons, List.length_nil]; omega)
  obtain ⟨m₄, r₄, c₄, v₄, f₄⟩ := kwVv_c (b := 32) v₃ (by omega) (by omega) (by simp only [List.length_append, List.length_cons, List.length_nil]; omega)
  obtain ⟨m₅, r₅, c₅, v₅, f₅⟩ := kwVv_n (x := c) v₄ hB (by omega) (by simp only [List.length_append, List.length_cons, List.length_nil]; omega)
  obtain ⟨m₆, r₆, c₆, v₆, f₆⟩ := kwVv_c (b := 32) v₅ (by omega) (by omega) (by simp only [List.length_append, List.length_cons, List.length_nil]; omega)
  obtain ⟨mb, rb, cb, vb, fb⟩ := kwVv_c (b := 97 + a) v₆ (by omega) (by omega) (by simp only [List.length_append, List.length_cons, List.length_nil]; omega)
  have fz : kwFn B m mb := fun f i j p g => by rw [fb f i j p g, f₆ f i j p g, f₅ f i j p g, f₄ f i j p g, f₃ f i j p g, f₂ f i j p g]
  have rw₁ : kwRw B m mb := kwRw_n fz
  have fw₁ : kwFw B m mb := kwFw_n fz
  have al := kwVv_al vb
  obtain ⟨o, ho⟩ : ∃ o : Nat × Nat × Nat × Nat × Nat × Nat, o = (1, P, c, a, 0, 0) := ⟨_, rfl⟩
  have ok : kwOpOk B w l n o m := by
    rw [ho]
    exact ⟨⟨h₁, h₂, ha, wa⟩, fun y => absurd (show 1 = 0 from y) (by omega), fun _ => ⟨g₁, g₂, g₃, g₄⟩⟩
  have om : ∀ M, kwOpM B o M = kwMl M B P c a := fun M => by
    rw [ho]
    exact if_neg (by intro y; cases y)
  have ot : t ++ kwOpT o = t ++ [59, 108, 97, 121, 32] ++ ccNl P ++ [32] ++ ccNl c ++ [32] ++ [97 + a] := by
    have e : kwOpT o = [59, 108, 97, 121, 32] ++ (ccNl P ++ ([32] ++ (ccNl c ++ ([32] ++ [97 + a])))) := by
      rw [ho]
      exact if_neg (by intro y; cases y)
    rw [e]
    simp only [List.append_assoc]
  have ke := kwE184 (rs := rb) (m := mb) (L := P) (c := c) (a := a) al (by omega) (by omega) (by omega)
  have qj := (kwJ_op q ok).2 (by rw [ho]; intro y; cases y)
  have rm : kwRw B (kwOpM B o m) (kwMl mb B P c a) := by
    rw [← om mb]
    exact kwOpM_w rw₁
  have fm : kwFw B mb (kwMl mb B P c a) := by
    unfold kwMl
    exact kwFw_s (kwFw_s (kwFw_s (kwFw_s (fun _ _ _ _ _ _ _ _ => rfl) (by omega)) (by omega)) (by omega)) (by omega)
  refine ⟨kwMl mb B P c a, rb, fun f₀ => ?_, o, _, ok, rm, ?_, kwFw_t fw₁ fm, kwJ_rw qj rm⟩
  · rw [kwG174_239, kwVv_al v, ccMckT, ccIf0, e₁, ccBi, kwVv_al v, ccMckT, ccIf1e, e₂, ccBi, kwVv_al v, ccMckT, kwObj (kwZz_k v.1), c₂, kwBr, kwVv_al v₂, ccMckT, kwObj (kwZz_k v₂.1), c₃, kwBr, kwVv_al v₃, ccMckT, kwObj (kwZz_k v₃.1), c₄, kwBr, kwVv_al v₄, ccMckT, kwObj (kwZz_k v₄.1), c₅, kwBr, kwVv_al v₅, ccMckT, kwObj (kwZz_k v₅.1), c₆, kwBr, kwVv_al v₆, ccMckT, N_add, kwCh (by omega), kwObj (kwZz_k v₆.1), cb, kwBr, al, ccMckT, ke, ccBv, al, ccMckT]
  · rw [ot]
    exact kwVv_le (kwVv_w vb (fun f i j p g => by
      unfold kwMl
      rw [ccRd, if_neg (by omega), ccRd, if_neg (by omega), ccRd, if_neg (by omega), ccRd, if_neg (by omega)])) (by omega) (Nat.le_refl _)
