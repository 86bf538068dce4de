/-! THE WORLD IS MADE: the text's numbers; the cards. -/
def kwSetT (σ : Nat → Nat) : Nat → List Nat
  | 0 => []
  | k + 1 => kwSetT σ k ++ ((if k = 0 then [] else [32]) ++ ccNl (σ k))
theorem kwPool13 : kwPool 13 [32] := ⟨rfl, rfl, by decide, by decide⟩
theorem kwPool14 : kwPool 14 [] := ⟨rfl, rfl, by decide, by decide⟩
theorem kwPool15 : kwPool 15 [59, 99, 97, 114, 100, 32] := ⟨rfl, rfl, by decide, by decide⟩
theorem kwPool16 : kwPool 16 [59, 108, 101, 97, 110, 32] := ⟨rfl, rfl, by decide, by decide⟩
theorem kwPool17 : kwPool 17 [59, 108, 97, 121, 32] := ⟨rfl, rfl, by decide, by decide⟩
theorem kwL317 {L B D : Nat} {σ : Nat → Nat} {r₀ : mRs} {t : List Nat} (hB : 0 < B) (hσ : ∀ j, j < 6 → σ j < 1000) (ht : t.length ≤ 100) : ∀ d j k m r, j + d = 6 → kwVv B k r₀ D (t ++ kwSetT σ j) m r → (kwSetT σ j).length ≤ 4 * j → (∀ i, i < 6 → m 6 B 1 i = N (σ i)) → ∃ M R, kwVv B (k + 2 * d) r₀ D (t ++ kwSetT σ 6) M R ∧ kwFn B m M ∧ (kwSetT σ 6).length ≤ 24 ∧ ∀ f, H172_317 L B (f + d + 1) (N j) m r = H172_317 L B (f + 1) (N 6) M R := by
  intro d
  induction d with
  | zero =>
    intro j k m r y h hl hs
    have e : j = 6 := by omega
    subst e
    exact ⟨m, r, h, fun _ _ _ _ _ => rfl, hl, fun f => rfl⟩
  | succ d i₁ =>
    intro j k m r y h hl hs
    have al := kwVv_al h
    have lt : (t ++ kwSetT σ j).length ≤ 124 := by rw [List.length_append]; omega
    have e₁ : ¬ N 6 ≤ N j := by rw [N_le (by omega) (by omega)]; omega
    have ln := (kwNl_l (hσ j (by omega))).2
    have hp : ∃ M R, kwVv B (k + 2) r₀ D (t ++ kwSetT σ (j + 1)) M R ∧ kwFn B m M ∧ (kwSetT σ (j + 1)).length ≤ 4 * (j + 1) ∧ ∀ f, H172_317 L B (f + 1) (N j) m r = H172_317 L B f (N (j + 1)) M R := by
      have es : kwSetT σ (j + 1) = kwSetT σ j ++ ((if j = 0 then [] else [32]) ++ ccNl (σ j)) := rfl
      by_cases g : j = 0
      · obtain ⟨m₁, r₁, c₁, v₁, f₁⟩ := kwVv_p h (by omega) kwPool14 (by omega)
        obtain ⟨m₂, r₂, c₂, v₂, f₂⟩ := kwVv_n (x := σ j) v₁ hB (hσ j (by omega)) (by rw [List.length_append]; show _ + 0 ≤ 500; omega)
        have s₁ : m₁ 6 B 1 j = N (σ j) := by rw [f₁ 6 B 1 j (by omega)]; exact hs j (by omega)
        rw [if_pos g] at es
        have et : t ++ kwSetT σ j ++ [] ++ ccNl (σ j) = t ++ kwSetT σ (j + 1) := by
          rw [es]
          simp only [List.append_assoc, List.nil_append, List.append_nil]
        rw [et] at v₂
        refine ⟨m₂, r₂, v₂, fun f i j p z => by rw [f₂ f i j p z, f₁ f i j p z], ?_, fun f => ?_⟩
        · rw [es]
          simp only [List.length_append, List.length_nil]
          omega
        · rw [kwG317, al, ccMckT, ccIte, if_neg e₁, ccIte, if_pos (by rw [g]; decide), kwObj (kwZz_k h.1), c₁, kwBr, kwVv_al v₁, ccMckT, ccMckIn (by omega : j < 6) (by omega), kwObj (kwZz_k v₁.1), mix_N (by omega), s₁, c₂, kwBr, kwVv_al v₂, ccMckT, N_add]
      · obtain ⟨m₁, r₁, c₁, v₁, f₁⟩ := kwVv_p h (by omega) kwPool13 (by omega)
        obtain ⟨m₂, r₂, c₂, v₂, f₂⟩ := kwVv_n (x := σ j) v₁ hB (hσ j (by omega)) (by rw [List.length_append]; show _ + 1 ≤ 500; omega)
        have s₁ : m₁ 6 B 1 j = N (σ j) := by rw [f₁ 6 B 1 j (by omega)]; exact hs j (by omega)
        rw [if_neg g] at es
        have et : t ++ kwSetT σ j ++ [32] ++ ccNl (σ j) = t ++ kwSetT σ (j + 1) := by
          rw [es]
          simp only [List.append_assoc]
        rw [et] at v₂
        refine ⟨m₂, r₂, v₂, fun f i j p z => by rw [f₂ f i j p z, f₁ f i j p z], ?_, fun f => ?_⟩
        · rw [es]
          simp only [List.length_append, List.length_cons, List.length_nil]
          omega
        · rw [kwG317, al, ccMckT, ccIte, if_neg e₁, ccIte, if_neg (by rw [N_le (by omega) (by omega)]; omega), kwObj (kwZz_k h.1), c₁, kwBr, kwVv_al v₁, ccMckT, ccMckIn (by omega : j < 6) (by omega), kwObj (kwZz_k v₁.1), mix_N (by omega), s₁, c₂, kwBr, kwVv_al v₂, ccMckT, N_add]
    obtain ⟨m₁, r₁, v₁, f₁, l₁, c₁⟩ := hp
    obtain ⟨M, R, v₂, f₂, l₂, c₂⟩ := i₁ (j + 1) (k + 2) m₁ r₁ (by omega) v₁ l₁ (fun i y => by rw [f₁ 6 B 1 i (by omega)]; exact hs i y)
    have e₂ : k + 2 + 2 * d = k + 2 * (d + 1) := by omega
    rw [e₂] at v₂
    refine ⟨M, R, v₂, fun f i j p z => by rw [f₂ f i j p z, f₁ f i j p z], l₂, fun f => ?_⟩
    have e₀ : f + (d + 1) + 1 = f + d + 1 + 1 := by omega
    rw [e₀, c₁, c₂]
def kwCardT (z W : Nat → Nat) : Nat → List Nat
  | 0 => []
  | k + 1 => kwCardT z W k ++ ([59, 99, 97, 114, 100, 32] ++ ([97 + k] ++ ([32] ++ (ccNl (z k) ++ ([32] ++ ccNl (W k))))))
theorem kwCardT_c {z W z' W' : Nat → Nat} : ∀ n, (∀ k, k < n → z' k = z k ∧ W' k = W k) → kwCardT z' W' n = kwCardT z W n := by
  intro n
  induction n with
  | zero => intro _; rfl
  | succ n i₁ =>
    intro h
    unfold kwCardT
    rw [i₁ (fun k y => h k (by omega)), (h n (by omega)).1, (h n (by omega)).2]
theorem kwCardT_l {z W : Nat → Nat} : ∀ n, (∀ k, k < n → 1 ≤ z k ∧ z k ≤ 9 ∧ 1 ≤ W k ∧ W k ≤ 9) → (kwCardT z W n).length = 11 * n := by
  intro n
  induction n with
  | zero => intro _; rfl
  | succ n i₁ =>
    intro h
    have y := i₁ (fun k y => h k (by omega))
    obtain ⟨h₁, h₂, h₃, h₄⟩ := h n (by omega)
    show (kwCardT z W n ++ ([59, 99, 97, 114, 100, 32] ++ ([97 + n] ++ ([32] ++ (ccNl (z n) ++ ([32] ++ ccNl (W n))))))).length = _
    rw [kwNl1 (by omega : z n < 10), kwNl1 (by omega : W n < 10)]
    simp only [List.length_append, List.length_cons, List.length_nil]
    omega
/-- the cards that stand -/
def kwCg (m : mMi) (B n : Nat) (z W : Nat → Nat) : Prop := ∀ k, k < n → m 6 B 2 k = N (z k) ∧ m 6 B 3 k = N (W k) ∧ 1 ≤ z k ∧ z k ≤ 9 ∧ 1 ≤ W k ∧ W k ≤ 9
/-- what the cards' making leaves -/
def kwFc (B : Nat) (m M : mMi) : Prop := ∀ f i j p, f ≠ 7 → ¬ (f = 9 ∧ B + 1 ≤ i) → ¬ (f = 6 ∧ i = B ∧ (j = 2 ∨ j = 3 ∨ j = 0 ∧ p = 17)) → M f i j p = m f i j p
theorem kwFc_n {B : Nat} {m M : mMi} (h : kwFn B m M) : kwFc B m M := fun f i j p _ g _ => h f i j p g
theorem kwFc_trans {B : Nat} {m m₁ m₂ : mMi} (h₁ : kwFc B m m₁) (h₂ : kwFc B m₁ m₂) : kwFc B m m₂ := fun f i j p g₁ g₂ g₃ => Eq.trans (h₂ f i j p g₁ g₂ g₃) (h₁ f i j p g₁ g₂ g₃)
/-- a card is told -/
theorem kwCzE {L B D k c v z₀ : Nat} {r₀ r : mRs} {t : List Nat} {mq mm : mMi} (h : kwVv B k r₀ D t mm r) (hB : 0 < B) (hc : c < 20) (hq : mq 6 B 0 17 = N c) (hm : mm 6 B 0 17 = N c) (e₂ : mm 6 B 2 c = N z₀) (hz : z₀ < 10) (hv : v < 10) (hl : t.length ≤ 470) : ∃ M R, kwVv B (k + 6) r₀ D (t ++ ([59, 99, 97, 114, 100, 32] ++ ([97 + c] ++ ([32] ++ (ccNl z₀ ++ ([32] ++ ccNl v)))))) (mset M 6 B 0 17 (N (c + 1))) R ∧ kwFn B (mset mm 6 B 3 c (N v)) M ∧ ∀ f d, d < 1000 → kwCz L B f (N (d + 1)) mq (N v) mm r = H172_365 L B f (N d) (mset M 6 B 0 17 (N (c + 1))) R := by
  have h₀ : kwVv B k r₀ D t (mset mm 6 B 3 c (N v)) r := kwVv_w h (fun f i j p g => by rw [ccRd, if_neg (by omega)])
  have l₁ : (ccNl z₀).length = 1 := by rw [kwNl1 hz]; rfl
  obtain ⟨m₁, r₁, c₁, v₁, f₁⟩ := kwVv_p h₀ (by omega) kwPool15 (by omega)
  obtain ⟨m₂, r₂, c₂, v₂, f₂⟩ := kwVv_c (b := 97 + c) v₁ (by omega) (by omega) (by simp only [List.length_append, List.length_cons, List.length_nil]; omega)
  obtain ⟨m₃, r₃, c₃, v₃, f₃⟩ := kwVv_c (b := 32) v₂ (by omega) (by omega) (by simp only [List.length_append, List.length_cons, List.length_nil]; omega)
  obtain ⟨m₄, r₄, c₄, v₄, f₄⟩ := kwVv_n (x := z₀) v₃ hB (by omega) (by simp only [List.length_append, List.length_cons, List.length_nil]; omega)
  obtain ⟨m₅, r₅, c₅, v₅, f₅⟩ := kwVv_c (b := 32) v₄ (by omega) (by omega) (by simp only [List.length_append, List.length_cons, List.length_nil]; omega)
  obtain ⟨m₆, r₆, c₆, v₆, f₆⟩ := kwVv_n (x := v) v₅ hB (by omega) (by simp only [List.length_append, List.length_cons, List.length_nil]; omega)
  have et : t ++ [59, 99, 97, 114, 100, 32] ++ [97 + c] ++ [32] ++ ccNl z₀ ++ [32] ++ ccNl v = t ++ ([59, 99, 97, 114, 100, 32] ++ ([97 + c] ++ ([32] ++ (ccNl z₀ ++ ([32] ++ ccNl v))))) := by
    simp only [List.append_assoc]
  rw [et] at v₆
  have g₁ : m₁ 6 B 0 17 = N c := by rw [f₁ 6 B 0 17 (by omega), ccRd, if_neg (by omega)]; exact hm
  have g₃ : m₃ 6 B 0 17 = N c := by rw [f₃ 6 B 0 17 (by omega), f₂ 6 B 0 17 (by omega)]; exact g₁
  have g₃' : m₃ 6 B 2 c = N z₀ := by rw [f₃ 6 B 2 c (by omega), f₂ 6 B 2 c (by omega), f₁ 6 B 2 c (by omega), ccRd, if_neg (by omega)]; exact e₂
  have g₅ : m₅ 6 B 0 17 = N c := by rw [f₅ 6 B 0 17 (by omega), f₄ 6 B 0 17 (by omega)]; exact g₃
  have g₅' : m₅ 6 B 3 c = N v := by rw [f₅ 6 B 3 c (by omega), f₄ 6 B 3 c (by omega), f₃ 6 B 3 c (by omega), f₂ 6 B 3 c (by omega), f₁ 6 B 3 c (by omega), ccRd, if_pos ⟨rfl, rfl, rfl, rfl⟩]
  have g₆ : m₆ 6 B 0 17 = N c := by rw [f₆ 6 B 0 17 (by omega)]; exact g₅
  refine ⟨m₆, r₆, kwVv_w v₆ (fun f i j p g => by rw [ccRd, if_neg (by omega)]), fun f i j p g => by rw [f₆ f i j p g, f₅ f i j p g, f₄ f i j p g, f₃ f i j p g, f₂ f i j p g, f₁ f i j p g], fun f d hd => ?_⟩
  have e₇ : N (d + 1) + I (-1) = N d := N_dec (by omega)
  unfold kwCz
  rw [hq, ccMckIn (by omega : c < 40) (by omega), kwObj (kwZz_k h.1), mix_N (by omega), c₁, kwBr, kwVv_al v₁, ccMckT, g₁, N_add, kwCh (by omega), kwObj (kwZz_k v₁.1), c₂, kwBr, kwVv_al v₂, ccMckT, kwObj (kwZz_k v₂.1), c₃, kwBr, kwVv_al v₃, ccMckT, g₃, ccMckIn (by omega : c < 40) (by omega), kwObj (kwZz_k v₃.1), mix_N (by omega), g₃', c₄, kwBr, kwVv_al v₄, ccMckT, kwObj (kwZz_k v₄.1), c₅, kwBr, kwVv_al v₅, ccMckT, g₅, ccMckIn (by omega : c < 40) (by omega), kwObj (kwZz_k v₅.1), mix_N (by omega), g₅', c₆, kwBr, kwVv_al v₆, ccMckT, g₆, N_add, e₇]
/-- all cards -/
theorem kwCards0 {L B : Nat} {r₀ : mRs} {t : List Nat} (hB : 0 < B) (hL : L < 2147483648) (ht : t.length ≤ 200) : ∀ d c k D m r z W, c + d ≤ 20 → D + 4 * d < 800000 → kwVv B k r₀ D (t ++ kwCardT z W c) m r → m 6 B 0 17 = N c → kwCg m B c z W → ∃ z' W' M R, kwVv B (k + 6 * d) r₀ (D + 4 * d) (t ++ kwCardT z' W' (c + d)) M R ∧ M 6 B 0 17 = N (c + d) ∧ kwCg M B (c + d) z' W' ∧ kwFc B m M ∧ ∀ f, H172_365 L B (f + d + 1) (N d) m r = H172_365 L B (f + 1) (N 0) M R := by
  intro d
  induction d with
  | zero =>
    intro c k D m r z W y yD h hc hd
    exact ⟨z, W, m, r, h, hc, hd, fun _ _ _ _ _ _ _ => rfl, fun f => rfl⟩
  | succ d i₁ =>
    intro c k D m r z W y yD h hc hd
    have al := kwVv_al h
    have e₁ : ¬ N (d + 1) ≤ N 0 := by rw [N_le (by omega) (by omega)]; omega
    have lc := kwCardT_l (z := z) (W := W) c (fun k y => (hd k y).2.2)
    have lt : (t ++ kwCardT z W c).length ≤ 440 := by rw [List.length_append]; omega
    obtain ⟨zc, m₁, z₁, z₂, c₁, v₁, f₁⟩ := kwVv_d (lo := 1) (hi := 9) h hL (by omega) (by omega) (by omega)
    obtain ⟨m₁', hm₁'⟩ : ∃ M, M = mset m₁ 6 B 2 c (N zc) := ⟨_, rfl⟩
    have v₁' : kwVv B k r₀ (D + 1) (t ++ kwCardT z W c) m₁' r := by rw [hm₁']; exact kwVv_w v₁ (fun f i j p g => by rw [ccRd, if_neg (by omega)])
    obtain ⟨x, m₂, _, x₂, c₂, v₂, f₂⟩ := kwVv_d (lo := 0) (hi := 1) v₁' hL (by omega) (by omega) (by omega)
    have q₁ : m₁' 6 B 0 17 = N c := by rw [hm₁', ccRd, if_neg (by omega), f₁ 6 B 0 17 (by omega)]; exact hc
    have hp : ∃ v m₃, 1 ≤ v ∧ v ≤ 9 ∧ kwVv B k r₀ (D + 3) (t ++ kwCardT z W c) m₃ r ∧ (∀ f i j p, f ≠ 7 → m₃ f i j p = m₂ f i j p) ∧ ∀ f, H172_365 L B (f + 1) (N (d + 1)) m r = kwCz L B f (N (d + 1)) m₁' (N v) m₃ r := by
      by_cases g : x = 0
      · obtain ⟨v, m₃, w₁, w₂, c₃, v₃, f₃⟩ := kwVv_d (lo := 1) (hi := 9) v₂ hL (by omega) (by omega) (by omega)
        refine ⟨v, m₃, w₁, w₂, v₃, f₃, fun f => ?_⟩
        rw [kwG365, al, ccMckT, ccIte, if_neg e₁, c₁, ccBi, kwVv_al v₁, ccMckT, hc, ccMckIn (by omega : c < 40) (by omega), mix_N (by omega), ← hm₁', c₂, ccBi, kwVv_al v₂, ccMckT, g, ccIf0, c₃, ccBi, kwVv_al v₃, ccMckT]
      · obtain ⟨v, m₃, w₁, w₂, c₃, v₃, f₃⟩ := kwVv_d (lo := 1) (hi := 3) v₂ hL (by omega) (by omega) (by omega)
        refine ⟨v, m₃, w₁, by omega, v₃, f₃, fun f => ?_⟩
        rw [kwG365, al, ccMckT, ccIte, if_neg e₁, c₁, ccBi, kwVv_al v₁, ccMckT, hc, ccMckIn (by omega : c < 40) (by omega), mix_N (by omega), ← hm₁', c₂, ccBi, kwVv_al v₂, ccMckT, ccIte, if_pos (by rw [ne_eq, N_eq (by omega) (by omega)]; exact g), c₃, ccBi, kwVv_al v₃, ccMckT]
    obtain ⟨v, m₃, w₁, w₂, v₃, f₃, c₃⟩ := hp
    have q₃ : m₃ 6 B 0 17 = N c := by rw [f₃ 6 B 0 17 (by omega), f₂ 6 B 0 17 (by omega)]; exact q₁
    have q₄ : m₃ 6 B 2 c = N zc := by rw [f₃ 6 B 2 c (by omega), f₂ 6 B 2 c (by omega), hm₁', ccRd, if_pos ⟨rfl, rfl, rfl, rfl⟩]
    obtain ⟨M₄, r₄, v₄, f₄, c₄⟩ := kwCzE (L := L) v₃ hB (by omega) q₁ q₃ q₄ (by omega) (by omega : v < 10) (by omega)
    obtain ⟨m₄, hm₄⟩ : ∃ M, M = mset M₄ 6 B 0 17 (N (c + 1)) := ⟨_, rfl⟩
    rw [← hm₄] at v₄ c₄
    obtain ⟨z₅, hz₅⟩ : ∃ z₅ : Nat → Nat, z₅ = fun k => if k = c then zc else z k := ⟨_, rfl⟩
    obtain ⟨W₅, hW₅⟩ : ∃ W₅ : Nat → Nat, W₅ = fun k => if k = c then v else W k := ⟨_, rfl⟩
    have ez : z₅ c = zc := by rw [hz₅]; exact if_pos rfl
    have eW : W₅ c = v := by rw [hW₅]; exact if_pos rfl
    have ezk : ∀ k, k < c → z₅ k = z k ∧ W₅ k = W k := fun k y => by
      rw [hz₅, hW₅]
      exact ⟨if_neg (by omega), if_neg (by omega)⟩
    have et : t ++ kwCardT z W c ++ ([59, 99, 97, 114, 100, 32] ++ ([97 + c] ++ ([32] ++ (ccNl zc ++ ([32] ++ ccNl v))))) = t ++ kwCardT z₅ W₅ (c + 1) := by
      show _ = t ++ (kwCardT z₅ W₅ c ++ ([59, 99, 97, 114, 100, 32] ++ ([97 + c] ++ ([32] ++ (ccNl (z₅ c) ++ ([32] ++ ccNl (W₅ c)))))))
      rw [kwCardT_c c ezk, ez, eW, List.append_assoc]
    rw [et] at v₄
    have fm : kwFc B m m₄ := fun f i j p g₁ g₂ g₃ => by
      rw [hm₄, ccRd, if_neg (by omega), f₄ f i j p g₂, ccRd, if_neg (by omega), f₃ f i j p g₁, f₂ f i j p g₁, hm₁', ccRd, if_neg (by omega), f₁ f i j p g₁]
    have q₅ : m₄ 6 B 0 17 = N (c + 1) := by rw [hm₄, ccRd, if_pos ⟨rfl, rfl, rfl, rfl⟩]
    have r₂ : ∀ k, m₄ 6 B 2 k = if k = c then N zc else m 6 B 2 k := fun k => by
      rw [hm₄, ccRd, if_neg (by omega), f₄ 6 B 2 k (by omega), ccRd, if_neg (by omega), f₃ 6 B 2 k (by omega), f₂ 6 B 2 k (by omega), hm₁', ccRd]
      by_cases g : k = c
      · rw [if_pos ⟨rfl, rfl, rfl, g⟩, if_pos g]
      · rw [if_neg (fun u => g u.2.2.2), if_neg g, f₁ 6 B 2 k (by omega)]
    have r₃ : ∀ k, m₄ 6 B 3 k = if k = c then N v else m 6 B 3 k := fun k => by
      rw [hm₄, ccRd, if_neg (by omega), f₄ 6 B 3 k (by omega), ccRd]
      by_cases g : k = c
      · rw [if_pos ⟨rfl, rfl, rfl, g⟩, if_pos g]
      · rw [if_neg (fun u => g u.2.2.2), if_neg g, f₃ 6 B 3 k (by omega), f₂ 6 B 3 k (by omega), hm₁', ccRd, if_neg (by omega), f₁ 6 B 3 k (by omega)]
    have hd₅ : kwCg m₄ B (c + 1) z₅ W₅ := fun k y₁ => by
      by_cases g : k = c
      · subst g
        rw [r₂, r₃, if_pos rfl, if_pos rfl, ez, eW]
        exact ⟨rfl, rfl, z₁, z₂, w₁, w₂⟩
      · rw [r₂, r₃, if_neg g, if_neg g, (ezk k (by omega)).1, (ezk k (by omega)).2]
        exact hd k (by omega)
    obtain ⟨z', W', M, R, v₆, q₆, hd₆, f₆, c₆⟩ := i₁ (c + 1) (k + 6) (D + 3) m₄ r₄ z₅ W₅ (by omega) (by omega) v₄ q₅ hd₅
    have a₁ : k + 6 + 6 * d = k + 6 * (d + 1) := by omega
    have a₃ : c + 1 + d = c + (d + 1) := by omega
    rw [a₁, a₃] at v₆
    rw [a₃] at q₆ hd₆
    obtain ⟨u₁, u₂, u₃, i, u₄, u₅⟩ := v₆
    refine ⟨z', W', M, R, ⟨u₁, u₂, u₃, i, u₄, by omega⟩, q₆, hd₆, kwFc_trans fm f₆, fun f => ?_⟩
    have e₀ : f + (d + 1) + 1 = f + d + 1 + 1 := by omega
    rw [e₀, c₃, c₄ _ d (by omega), c₆]
