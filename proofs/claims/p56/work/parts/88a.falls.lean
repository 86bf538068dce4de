/-! FALLS, told. -/
theorem kwSHd {L B i : Nat} {r : mRs} (h : r.2.1.1 B = true) (h₁ : i < 30) : SHd true L r.2.1 25 B i = some (20, 5) := by
  have e : Nat.blt i 30 = true := Nat.ble_eq_true_of_le h₁
  show (match r.2.1.1 B with
    | true => (match Nat.blt i 30 with
      | true => some (20, 5)
      | false => none)
    | false => none) = some (20, 5)
  rw [h, e]
theorem kwI5 {α : Type} {k : Nat} {x : Option α} (h : k < 5) : mckO (mIsInt (some (20, 5)) (N k)) x = x := ccMck (mIn_N h (by omega))
theorem kwPool23 : kwPool 23 [] := ⟨rfl, rfl, by decide, by decide⟩
theorem kwT24 {g : Nat} (h : g < 4) : (mTxt 24).getD g 0 = N (ccLet g) := by
  have e : g = 0 ∨ g = 1 ∨ g = 2 ∨ g = 3 := by omega
  rcases e with rfl | rfl | rfl | rfl <;> rfl
theorem kwE154 {m : mMi} {r : mRs} {B w l n lm dp cl bd T Z D t k : Nat} {β : Nat → Int32} {W : Nat → Nat} (q : kwI m r B w l n lm dp cl bd β W T Z D) (tt : m 0 0 7 2 = N t) (b₁ : t < 1000000000) (hk : k = if 30 < t then 30 else t) : ∃ M, (∀ rs, F154 m rs = rI (N (ccFls (m 0 0) t k 0).length) M rs) ∧ kwTxt M (ccFls (m 0 0) t k 0) ∧ kwFv m M := by
  obtain ⟨h₀, qr⟩ := kwI_0 q
  obtain ⟨h, t₁, j₀, c₀⟩ := q.1
  obtain ⟨mm, q₀⟩ := j₀.1
  have re := q₀.1.2.2.2.2.2.1.2.2.2.2.1
  have t₂ : t₁ = t := ccNinj (Eq.trans (Eq.symm j₀.2.2.1.2.2.2.1) tt) (by
    have y := c₀.2.2.2.2.2.1
    have z := q₀.1.2.2.2.2.2.2.2
    omega) (by omega)
  rw [t₂] at re
  obtain ⟨k', k₁, k₂, k₃, k₄⟩ := ccMn30 b₁
  have ke : k' = k := by
    rw [hk]
    by_cases g : 30 < t
    · rw [if_pos (by rw [N_lt (by omega) (by omega)]; exact g)] at k₃
      rw [if_pos g]
      exact ccNinj k₃.symm (by omega) (by omega)
    · rw [if_neg (by rw [N_lt (by omega) (by omega)]; exact g)] at k₃
      rw [if_neg g]
      exact ccNinj k₃.symm (by omega) (by omega)
  rw [← ke]
  obtain ⟨X, hX⟩ : ∃ y, y = mset m 2 7 0 1 (N 0) := ⟨_, rfl⟩
  have xs : ∀ f a j p, ¬ (f = 2 ∧ a = 7) → X f a j p = m f a j p := fun f a j p y₁ => by rw [hX, ccRd, if_neg (by omega)]
  have cX : X 0 0 = m 0 0 := by
    funext j p
    exact xs 0 0 j p (by omega)
  have x₁ : X 2 7 0 1 = N 0 := by rw [hX, ccRd, if_pos ⟨rfl, rfl, rfl, rfl⟩]
  obtain ⟨u, hu⟩ : ∃ u, u = ccFls (m 0 0) t k' 0 := ⟨_, rfl⟩
  have tl : u.length ≤ 240 := by
    have y₁ := ccFls_len re k₂ k' 0 (by omega)
    rw [← hu] at y₁
    omega
  obtain ⟨g, hg⟩ := ccFU (k := k') (by omega)
  have wr := ccL154 re cX (by omega) k₁ k₂ k₃ k' 0 g (by omega)
  rw [← hu] at wr ⊢
  refine ⟨ccTwL u X 0, fun rs => ?_, kwTxt_w x₁ tl, fun f a j p y₁ y₂ => by rw [ccTwL_o _ _ _ _ _ _ _ (by omega), xs f a j p (by omega)]⟩
  have z := wr X 0 rs (fun _ _ _ _ _ => rfl) x₁ (by omega)
  rw [Nat.zero_add] at z
  unfold F154
  rw [kwE114 h₀, ccBv, ← hX, hg]
  exact z
/-- one entry: its letters -/
theorem kwFaE {n₁ k L B a u i t₀ x y z g : Nat} {r₀ : mRs} {m₀ M M₂ : mMi} {R₂ : mRs} {t : List Nat} (h : kwZz n₁ 320 k r₀ m₀ a t M₂ R₂) (dg : kwDg m₀) (h10 : 10 ≤ n₁) (hB : r₀.2.1.1 B = true) (bB : B < n₁) (tt : M 6 B 0 20 = N t₀) (b₁ : t₀ < 1000000000) (hu : u < t₀) (hu' : u < 30) (hi : i = (t₀ - 1 - u) % 30) (e₁ : m₀ 25 B i 1 = N x) (e₂ : m₀ 25 B i 2 = N y) (e₃ : m₀ 25 B i 3 = N z) (e₄ : m₀ 25 B i 4 = N g) (hx : x < 8) (hy : y < 12) (hz : z < 2) (hg : g < 4) (hl : t.length ≤ 301) : ∃ M' R', kwZz n₁ 320 (k + 5) r₀ m₀ a (t ++ [if z = 0 then 112 else 102] ++ ccNl x ++ [46] ++ ccNl y ++ [ccLet g]) M' R' ∧ ∀ f, kwFe L B a f (N u) M a M₂ R₂ = H244_10 L B a f (N (u + 1)) M' R' := by
  have ei : ((((M 6 B 0 20) - (N 1)) - N u) - (((M 6 B 0 20) - (N 1)) - N u) / (N 30) * (N 30)) = N i := by
    rw [tt, N_sub (by omega), N_sub (by omega), N_rem (by omega) (by omega) (by omega), hi]
  have bi : i < 30 := by rw [hi]; exact Nat.mod_lt _ (by omega)
  have al : ∀ {k : Nat} {t : List Nat} {M : mMi} {R : mRs}, kwZz n₁ 320 k r₀ m₀ a t M R → R.2.1.1 B = true := fun z => by rw [z.2.2.2.2]; exact hB
  have rd : ∀ {k : Nat} {t : List Nat} {M : mMi} {R : mRs}, kwZz n₁ 320 k r₀ m₀ a t M R → ∀ e, M 25 B i e = m₀ 25 B i e := fun z e => z.2.2.2.1.1 25 B i e (by omega)
  have lx := (kwNl_l (x := x) (by omega)).2
  have ly := (kwNl_l (x := y) (by omega)).2
  have lg : ccLet g < 128 := ccLet_b
  have pf : (if z = 0 then 112 else 102) < 128 := by
    by_cases q : z = 0
    · rw [if_pos q]; omega
    · rw [if_neg q]; omega
  obtain ⟨M₃, R₃, c₃, z₃⟩ := kwZz_c (b := if z = 0 then 112 else 102) h pf (by omega) (by omega)
  obtain ⟨M₄, R₄, c₄, z₄⟩ := kwZz_n (x := x) z₃ dg (Nat.zero_le _) (by omega) (by simp only [List.length_append, List.length_cons, List.length_nil]; omega) (by omega)
  obtain ⟨M₅, R₅, c₅, z₅⟩ := kwZz_c (b := 46) z₄ (by omega) (by simp only [List.length_append, List.length_cons, List.length_nil]; omega) (by omega)
  obtain ⟨M₆, R₆, c₆, z₆⟩ := kwZz_n (x := y) z₅ dg (Nat.zero_le _) (by omega) (by simp only [List.length_append, List.length_cons, List.length_nil]; omega) (by omega)
  obtain ⟨M₇, R₇, c₇, z₇⟩ := kwZz_c (b := ccLet g) z₆ lg (by simp only [List.length_append, List.length_cons, List.length_nil]; omega) (by omega)
  have r₂ : M₂ 25 B i 3 = N z := by rw [rd h]; exact e₃
  have r₃ : M₃ 25 B i 1 = N x := by rw [rd z₃]; exact e₁
  have r₅ : M₅ 25 B i 2 = N y := by rw [rd z₅]; exact e₂
  have r₆ : M₆ 25 B i 4 = N g := by rw [rd z₆]; exact e₄
  have l₄ : (mTxt 24).length = 4 := rfl
  have fb : ∀ f, kwFb L B a f (N u) M a M₃ R₃ = H244_10 L B a f (N (u + 1)) M₇ R₇ := fun f => by
    unfold kwFb
    rw [ei, mix_N (by omega), kwSHd (al z₃) bi, kwI5 (by omega), kwObj (kwZz_k z₃), r₃, c₄, kwBr, al z₄, ccMckT, kwObj (kwZz_k z₄), c₅, kwBr, al z₅, ccMckT, kwSHd (al z₅) bi, kwI5 (by omega), kwObj (kwZz_k z₅), r₅, c₆, kwBr, al z₆, ccMckT, kwSHd (al z₆) bi, kwI5 (by omega), r₆, l₄, ccMckIn hg (by omega), kwObj (kwZz_k z₆), mix_N (by omega), kwT24 hg, c₇, kwBr, al z₇, ccMckT, N_add]
  refine ⟨M₇, R₇, z₇, fun f => ?_⟩
  have zc : z = 0 ∨ z = 1 := by omega
  unfold kwFe
  rw [ei, mix_N (by omega), kwSHd (al h) bi, kwI5 (by omega), r₂]
  rcases zc with q | q
  · rw [q, if_pos rfl] at c₃
    rw [q, ccIte, if_pos (by decide), kwObj (kwZz_k h), c₃, kwBr, al z₃, ccMckT, fb]
  · rw [q, if_neg (by decide)] at c₃
    rw [q, ccIte, if_neg (by decide), kwObj (kwZz_k h), c₃, kwBr, al z₃, ccMckT, fb]
/-- all entries -/
theorem kwFaL {n₁ L B a k t₀ : Nat} {r₀ : mRs} {m₀ : mMi} {C : Nat → Nat → Int32} {full : List Nat} (dg : kwDg m₀) (h10 : 10 ≤ n₁) (hB : r₀.2.1.1 B = true) (bB : B < n₁) (tt : m₀ 6 B 0 20 = N t₀) (b₁ : t₀ < 1000000000) (hk : k = if 30 < t₀ then 30 else t₀) (en : ∀ i, i < 30 → i < t₀ → ∃ x y z g, C 8 (5 * i + 1) = N x ∧ C 8 (5 * i + 2) = N y ∧ C 8 (5 * i + 3) = N z ∧ C 8 (5 * i + 4) = N g ∧ x < 8 ∧ y < 12 ∧ z < 2 ∧ g < 4 ∧ ∀ e, e < 5 → m₀ 25 B i e = C 8 (5 * i + e)) : ∀ d u t M R, u + d = k → kwZz n₁ 320 (6 * u) r₀ m₀ a t M R → t.length ≤ 10 * u → t ++ ccFls C t₀ d u = full → ∃ M' R', kwZz n₁ 320 (6 * k) r₀ m₀ a full M' R' ∧ ∀ f, H244_10 L B a (f + d + 1) (N u) M R = H244_10 L B a (f + 1) (N k) M' R' := by
  have bk : k ≤ t₀ ∧ k ≤ 30 := by
    rw [hk]
    by_cases y : 30 < t₀
    · rw [if_pos y]; omega
    · rw [if_neg y]; omega
  have ek : (if N t₀ < N 30 then N t₀ else N 30) = N k := by
    rw [hk]
    by_cases y : 30 < t₀
    · rw [if_pos y, if_neg (by rw [N_lt (by omega) (by omega)]; omega)]
    · rw [if_neg y]
      by_cases y₂ : t₀ = 30
      · subst y₂
        rw [if_neg (by rw [N_lt (by omega) (by omega)]; omega)]
      · rw [if_pos (by rw [N_lt (by omega) (by omega)]; omega)]
  intro d
  induction d with
  | zero =>
    intro u t M R y h _ hf
    have e₁ : u = k := by omega
    subst e₁
    have e₂ : t = full := by
      rw [← hf]
      exact (List.append_nil t).symm
    rw [← e₂]
    exact ⟨M, R, h, fun f => rfl⟩
  | succ d i₁ =>
    intro u t M R y h hl hf
    obtain ⟨i, hi⟩ : ∃ i, i = (t₀ - 1 - u) % 30 := ⟨_, rfl⟩
    have bi : i < 30 := by rw [hi]; exact Nat.mod_lt _ (by omega)
    have bi₂ : i < t₀ := by
      have z := Nat.mod_le (t₀ - 1 - u) 30
      omega
    obtain ⟨x, v, z, g, e₁, e₂, e₃, e₄, hx, hv, hz, hg, e₅⟩ := en i bi bi₂
    have tM : M 6 B 0 20 = N t₀ := by rw [h.2.2.2.1.1 6 B 0 20 (by omega)]; exact tt
    have aM : R.2.1.1 B = true := by rw [h.2.2.2.2]; exact hB
    have lx := (kwNl_l (x := x) (by omega)).2
    have lv := (kwNl_l (x := v) (by omega)).2
    have ei : ((((M 6 B 0 20) - (N 1)) - N u) - (((M 6 B 0 20) - (N 1)) - N u) / (N 30) * (N 30)) = N i := by
      rw [tM, N_sub (by omega), N_sub (by omega), N_rem (by omega) (by omega) (by omega), hi]
    obtain ⟨pre, hpre⟩ : ∃ pre, pre = (if u = 0 then ([] : List Nat) else [32]) := ⟨_, rfl⟩
    have lp : pre.length ≤ 1 := by
      rw [hpre]
      by_cases q : u = 0
      · rw [if_pos q]; exact Nat.zero_le 1
      · rw [if_neg q]; exact Nat.le_refl 1
    have nk : ¬ N k ≤ N u := by rw [N_le (by omega) (by omega)]; omega
    have hp : ∃ M₂ R₂, kwZz n₁ 320 (6 * u + 1) r₀ m₀ a (t ++ pre) M₂ R₂ ∧ ∀ f, H244_10 L B a (f + 1) (N u) M R = kwFe L B a f (N u) M a M₂ R₂ := by
      by_cases q : u = 0
      · rw [if_pos q] at hpre
        obtain ⟨M₂, R₂, c₂, z₂⟩ := kwZz_p h kwPool23 (by omega) (by omega)
        rw [hpre]
        refine ⟨M₂, R₂, z₂, fun f => ?_⟩
        have aM₂ : R₂.2.1.1 B = true := by rw [z₂.2.2.2.2]; exact hB
        rw [kwG244, aM, ccMckT, ei, ccMckIn bi (by omega), tM, ek, ccIte, if_neg nk, ccIte, if_pos (by rw [q]; decide), kwObj (kwZz_k h), c₂, kwBr, aM₂, ccMckT]
      · rw [if_neg q] at hpre
        obtain ⟨M₂, R₂, c₂, z₂⟩ := kwZz_p h kwPool20 (by omega) (by omega)
        rw [hpre]
        refine ⟨M₂, R₂, z₂, fun f => ?_⟩
        have aM₂ : R₂.2.1.1 B = true := by rw [z₂.2.2.2.2]; exact hB
        rw [kwG244, aM, ccMckT, ei, ccMckIn bi (by omega), tM, ek, ccIte, if_neg nk, ccIte, if_neg (by rw [N_le (by omega) (by omega)]; omega), kwObj (kwZz_k h), c₂, kwBr, aM₂, ccMckT]
    obtain ⟨M₂, R₂, z₂, c₂⟩ := hp
    obtain ⟨M₃, R₃, z₃, c₃⟩ := kwFaE (L := L) z₂ dg h10 hB bB tM b₁ (by omega : u < t₀) (by omega) hi (by rw [e₅ 1 (by omega)]; exact e₁) (by rw [e₅ 2 (by omega)]; exact e₂) (by rw [e₅ 3 (by omega)]; exact e₃) (by rw [e₅ 4 (by omega)]; exact e₄) hx hv hz hg (by rw [List.length_append]; omega)
    have f₁ : ccFls C t₀ (d + 1) u = pre ++ ([if z = 0 then 112 else 102] ++ (ccNl x ++ ([46] ++ (ccNl v ++ ([ccLet g] ++ ccFls C t₀ d (u + 1)))))) := by
      show (if u = 0 then ([] : List Nat) else [32]) ++ ccEnt (mix (C 8 (5 * ((t₀ - 1 - u) % 30) + 3))) (mix (C 8 (5 * ((t₀ - 1 - u) % 30) + 1))) (mix (C 8 (5 * ((t₀ - 1 - u) % 30) + 2))) (mix (C 8 (5 * ((t₀ - 1 - u) % 30) + 4))) (ccFls C t₀ d (u + 1)) = _
      rw [← hi, e₁, e₂, e₃, e₄, mix_N (by omega), mix_N (by omega), mix_N (by omega), mix_N (by omega), ← hpre]
      rfl
    have f₂ : t ++ pre ++ [if z = 0 then 112 else 102] ++ ccNl x ++ [46] ++ ccNl v ++ [ccLet g] ++ ccFls C t₀ d (u + 1) = full := by
      rw [← hf, f₁]
      simp only [List.append_assoc]
    have k₆ : 6 * u + 1 + 5 = 6 * (u + 1) := by omega
    rw [k₆] at z₃
    obtain ⟨M', R', z₄, c₄⟩ := i₁ (u + 1) _ M₃ R₃ (by omega) z₃ (by simp only [List.length_append, List.length_cons, List.length_nil]; omega) f₂
    refine ⟨M', R', z₄, fun f => ?_⟩
    have e₀ : f + (d + 1) + 1 = f + d + 1 + 1 := by omega
    rw [e₀, c₂, c₃, c₄]
/-- falls -/
theorem kwFalls {m : mMi} {r : mRs} {L B w l n lm dp cl bd T Z D : Nat} {β : Nat → Int32} {W : Nat → Nat} (q : kwI m r B w l n lm dp cl bd β W T Z D) (ro : kwRo B r) (bT : T ≤ 900000000) (dg : kwDg m) : ∃ M R, kwI M R B w l n lm dp cl bd β W T Z D ∧ kwRo B R ∧ kwFk r.2.2.1 m M ∧ kwRu r.2.2.1 187 122686 r R ∧ H244 L B m r = rI (N 1) M R := by
  have hB := q.2.2.2.2
  have nx := q.2.2.2.1
  have h10 := ro.2.2
  have hn : B < r.2.2.1 ∧ 10 ≤ r.2.2.1 := ⟨ro.2.1, ro.2.2⟩
  obtain ⟨h, t₀, j₀, c₀⟩ := q.1
  have xx := j₀.2.2.1.2.2.2.2 rfl
  obtain ⟨mm, q₀⟩ := j₀.1
  have re := q₀.1.2.2.2.2.2.1.2.2.2.2.1
  have tt : m 0 0 7 2 = N t₀ := j₀.2.2.1.2.2.2.1
  have bt : t₀ < 1000000000 := by
    have y := c₀.2.2.2.2.2.1
    omega
  obtain ⟨k, hk⟩ : ∃ k, k = if 30 < t₀ then 30 else t₀ := ⟨_, rfl⟩
  have bk : k ≤ t₀ ∧ k ≤ 30 := by
    rw [hk]
    by_cases y : 30 < t₀
    · rw [if_pos y]; omega
    · rw [if_neg y]; omega
  have tB : m 6 B 0 20 = N t₀ := by rw [(kwI_U q).2.2.2.2]; exact tt
  obtain ⟨M₁, R₁, a₁, a₂, a₃, f₁, o₁⟩ := kwE199 (m := m) nx
  have u₁ := kwRu_o o₁ f₁ (Nat.le_refl _)
  have hB₁ := kwRs_B f₁ hB
  have cm₁ : M₁ 0 0 = m 0 0 := kwFk_0 (kwFk_o o₁) (by omega)
  have dg₁ : kwDg M₁ := fun i y => by
    rw [o₁.1 3 4 0 i (by omega), o₁.1 3 5 0 i (by omega)]
    exact dg i y
  have z₁ : kwZz r.2.2.1 320 (6 * 0) R₁ M₁ r.2.2.1 [] M₁ R₁ := ⟨⟨16, a₃⟩, kwNx_k f₁ nx, kwRs_le kwRs_rfl (Nat.le_refl _) (Nat.zero_le _), kwOp_rfl, rfl⟩
  obtain ⟨full, hf⟩ : ∃ u, u = ccFls (m 0 0) t₀ k 0 := ⟨_, rfl⟩
  obtain ⟨M₂, R₂, z₂, c₂⟩ := kwFaL (L := L) (C := m 0 0) (full := full) (a := r.2.2.1) (t₀ := t₀) (k := k) dg₁ h10 hB₁ hn.1 (by rw [o₁.1 6 B 0 20 (by omega)]; exact tB) bt hk (fun i y₁ y₂ => by
    obtain ⟨_, x, y, z, g, e₁, e₂, e₃, e₄, e₅, e₆, e₇, e₈⟩ := re.2.2.1 i y₁ y₂
    refine ⟨x, y, z, g, e₁, e₂, e₃, e₄, e₅, e₆, e₇, e₈, fun e y₃ => ?_⟩
    rw [o₁.1 25 B i e (by omega), xx.1 i e y₁ y₂ y₃]
    congr 1
    omega) k 0 [] M₁ R₁ (by omega) z₁ (Nat.zero_le _) (by rw [hf]; rfl)
  obtain ⟨⟨cap, b₂⟩, nx₂, f₂, o₂, al₂⟩ := id z₂
  have g₁ := f₁.2.2.1
  have g₂ := f₂.2.2.1
  have u₂ := kwRu_o o₂ f₂ g₁
  have q₂ := kwI_k q (kwFk_trans (kwFk_o o₁) (kwFk_o o₂)) (kwRu_trans u₁ u₂) nx₂ hn
  have cm₂ : M₂ 0 0 = m 0 0 := Eq.trans (kwFk_0 (kwFk_o o₂) (by omega)) cm₁
  have hB₂ := q₂.2.2.2.2
  obtain ⟨M₃, k₃, t₃, o₃⟩ := kwE154 q₂ (by rw [cm₂]; exact tt) bt hk
  rw [cm₂, ← hf] at k₃ t₃
  have b₃ := kwB_k b₂ (kwFk_v (n₀ := R₂.2.2.1) o₃) kwRu_rfl (Nat.le_refl _)
  obtain ⟨M₄, R₄, k₄, s₄, f₄, o₄⟩ := kwE204 b₃ nx₂
  have nx₄ := kwNx_k f₄ nx₂
  have hB₄ := kwRs_B f₄ hB₂
  have t₄ : kwTxt M₄ full := kwTxt_cg t₃ (fun j p => o₄.1 2 7 j p (by omega))
  obtain ⟨M, R, k₅, f₅, o₅, v₅⟩ := kwIsT nx₄ s₄ t₄
  have g₄ := f₄.2.2.1
  have lf := t₄.2.1
  have fM : kwFk r.2.2.1 m M := kwFk_trans (kwFk_o o₁) (kwFk_trans (kwFk_o o₂) (kwFk_trans (kwFk_v o₃) (kwFk_trans (kwFk_le (kwFk_o o₄) (by omega)) (kwFk_le (kwFk_9 o₅) (by omega)))))
  have uM : kwRu r.2.2.1 187 122686 r R := kwRu_le (kwRu_trans u₁ (kwRu_trans u₂ (kwRu_trans (kwRu_le (kwRu_o o₄ f₄ (Nat.le_refl _)) (by omega) (Nat.le_refl _) (Nat.le_refl _)) (kwRu_le (kwRu_s f₅ (Nat.le_refl _) (fun b _ => v₅ b)) (by omega) (Nat.le_refl _) (Nat.le_refl _))))) (Nat.le_refl _) (by omega) (by omega)
  refine ⟨M, R, kwI_k q fM uM (kwNx_k f₅ nx₄) hn, kwRo_u ro uM, fM, uM, ?_⟩
  have hB₀ : (rsO r 14 4).2.1.1 B = true := hB
  obtain ⟨g, hg⟩ := ccFU (k := k) (by omega)
  have tM : M₂ 6 B 0 20 = N t₀ := by rw [(kwI_U q₂).2.2.2.2, cm₂]; exact tt
  have ek : (if N t₀ < N 30 then N t₀ else N 30) = N k := by
    rw [hk]
    by_cases y : 30 < t₀
    · rw [if_pos y, if_neg (by rw [N_lt (by omega) (by omega)]; omega)]
    · rw [if_neg y]
      by_cases y₂ : t₀ = 30
      · subst y₂
        rw [if_neg (by rw [N_lt (by omega) (by omega)]; omega)]
      · rw [if_pos (by rw [N_lt (by omega) (by omega)]; omega)]
  have kk : N k ≤ N k := by rw [N_le (by omega) (by omega)]; omega
  unfold H244
  rw [a₁, hB₀, ccMckT, a₂, ccBv, hB₁, ccMckT, hg, c₂, kwG244, hB₂, ccMckT, tM, ek, ccIte, if_pos kk, k₃, ccBi, hB₂, ccMckT, kwObj (kwZz_k z₂), k₄, kwBr, hB₄, ccMckT, k₅, ccBi, kwRs_B f₅ hB₄, ccMckT]
  rfl
