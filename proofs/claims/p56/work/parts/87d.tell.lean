/-! LOOKS: the text of a pair. -/
theorem kwPool19 : kwPool 19 [47] := ⟨rfl, rfl, by decide, by decide⟩
theorem kwPool20 : kwPool 20 [32] := ⟨rfl, rfl, by decide, by decide⟩
theorem kwPool21 : kwPool 21 [58] := ⟨rfl, rfl, by decide, by decide⟩
theorem kwEpT {m : mMi} {r : mRs} {B E a12 w l n lm dp cl bd T Z D L c a b u v : Nat} {β : Nat → Int32} {W : Nat → Nat} (q : kwI m r B w l n lm dp cl bd β W T Z D) (ro : kwRo B r) (dg : kwDg m) (hE : r.2.1.1 E = true) (bn : n ≤ 20) (e₃ : L < l) (e₄ : L + c < w) (k₄ : m 0 0 2 (12 * L + c) = N a) (k₅ : m 0 0 3 (12 * L + c) = N b) (k₁ : a < n) (k₂ : b < n) (u₁ : m 0 0 4 (12 * L + c) = N u) (u₃ : u ≤ 70) (v₁ : ccStp (m 0 0) (12 * L + c) = N v) (v₂ : v ≤ 72) : ∃ s M R, kwStr r.2.2.1 M R s (kwPt a b u (ccPL W (m 0 0) w l (7 - L) L c) v) ∧ kwFk r.2.2.1 m M ∧ kwRu r.2.2.1 13 963 r R ∧ kwNx R ∧ R.2.1.1 = r.2.1.1 ∧ ∀ f x2 x3 x4 x5 x6 x7 x8 x9 x10 x14 x16, kwEp B E a12 f x2 x3 x4 x5 x6 x7 x8 x9 x10 (N L) (N c) x14 x16 m r = kwEz B E s a12 f x2 x3 x4 x5 x6 x7 x8 x9 x10 (N L) (N c) x14 x16 M R := by
  have hB := q.2.2.2.2
  have nx := q.2.2.2.1
  have qr := (kwI_0 q).2
  have b₁ : w ≤ 12 := qr.2.2.2.2.1
  have b₂ : l ≤ 8 := qr.2.2.2.2.2.2.1
  have b₃ : n ≤ 40 := qr.2.2.2.2.2.2.2
  obtain ⟨s, gg, kk, cd, _⟩ := kwI_U q
  obtain ⟨pl, wk, ww⟩ := kwI_P q
  have ne : m 0 0 2 (12 * L + c) ≠ I (-1) := by rw [k₄, ne_eq, ccNm (by omega)]; exact fun h => h
  obtain ⟨g₂₀, _, g₃⟩ := gg L c (by omega) (by omega)
  obtain ⟨g₂₁, g₂₂, _⟩ := g₃ ne
  rw [k₄] at g₂₀
  rw [k₅] at g₂₁
  rw [u₁] at g₂₂
  have d₃ := ccPL_le (L := L) (c := c) (d := 7 - L) (w := w) (l := l) cd wk b₁ b₂ b₃
  obtain ⟨ld, hld⟩ : ∃ z, z = ccPL W (m 0 0) w l (7 - L) L c := ⟨_, rfl⟩
  rw [← hld] at d₃ ⊢
  obtain ⟨M₁, R₁, h₁, h₂, h₃, f₁, o₁⟩ := kwE199 (m := m) nx
  have nx₁ := kwNx_k f₁ nx
  have al₁ : R₁.2.1.1 = r.2.1.1 := f₁.2.1
  obtain ⟨_, _, ro₃⟩ := id ro
  have dg₁ : kwDg M₁ := fun i y => by
    rw [o₁.1 3 4 0 i (by omega), o₁.1 3 5 0 i (by omega)]
    exact dg i y
  have z₀ : kwZz r.2.2.1 30 0 R₁ M₁ r.2.2.1 [] M₁ R₁ := ⟨⟨16, h₃⟩, nx₁, kwRs_le kwRs_rfl (Nat.le_refl _) (Nat.zero_le _), kwOp_rfl, rfl⟩
  have y₁ := f₁.2.2.1
  have kI : ∀ {k : Nat} {t : List Nat} {M : mMi} {R : mRs}, kwZz r.2.2.1 30 k R₁ M₁ r.2.2.1 t M R → kwI M R B w l n lm dp cl bd β W T Z D := fun z => kwI_k q (kwFk_trans (kwFk_o o₁) (kwFk_o z.2.2.2.1)) (kwRu_trans (kwRu_o o₁ f₁ (Nat.le_refl _)) (kwRu_o z.2.2.2.1 z.2.2.1 y₁)) z.2.1 ⟨ro.2.1, ro.2.2⟩
  have kC : ∀ {k : Nat} {t : List Nat} {M : mMi} {R : mRs}, kwZz r.2.2.1 30 k R₁ M₁ r.2.2.1 t M R → M 0 0 = m 0 0 := fun z => Eq.trans (kwFk_0 (kwFk_o z.2.2.2.1) (by omega)) (kwFk_0 (kwFk_o o₁) (by omega))
  have kM : ∀ {k : Nat} {t : List Nat} {M : mMi} {R : mRs}, kwZz r.2.2.1 30 k R₁ M₁ r.2.2.1 t M R → ∀ f, 20 ≤ f → M f B L c = m f B L c := fun z f y => by rw [z.2.2.2.1.1 f B L c (by omega), o₁.1 f B L c (by omega)]
  have aB : ∀ {k : Nat} {t : List Nat} {M : mMi} {R : mRs}, kwZz r.2.2.1 30 k R₁ M₁ r.2.2.1 t M R → R.2.1.1 B = true := fun z => by rw [z.2.2.2.2, al₁]; exact hB
  have aE : ∀ {k : Nat} {t : List Nat} {M : mMi} {R : mRs}, kwZz r.2.2.1 30 k R₁ M₁ r.2.2.1 t M R → R.2.1.1 E = true := fun z => by rw [z.2.2.2.2, al₁]; exact hE
  have lu := (kwNl_l (x := u) (by omega)).2
  have ll := (kwNl_l (x := ld) (by omega)).2
  have lv := (kwNl_l (x := v) (by omega)).2
  obtain ⟨M₂, R₂, c₂, z₂⟩ := kwZz_c (b := 97 + a) z₀ (by omega) (by simp only [List.length_append, List.length_cons, List.length_nil]; omega) (by omega)
  obtain ⟨M₃, R₃, c₃, z₃⟩ := kwZz_p z₂ kwPool19 (by simp only [List.length_append, List.length_cons, List.length_nil]; omega) (by omega)
  obtain ⟨M₄, R₄, c₄, z₄⟩ := kwZz_n (x := u) z₃ dg₁ (Nat.zero_le _) (by omega) (by simp only [List.length_append, List.length_cons, List.length_nil]; omega) (by omega)
  obtain ⟨M₅, R₅, c₅, z₅⟩ := kwZz_c (b := 92) z₄ (by omega) (by simp only [List.length_append, List.length_cons, List.length_nil]; omega) (by omega)
  obtain ⟨M₆, R₆, c₆, z₆⟩ := kwZz_c (b := 97 + b) z₅ (by omega) (by simp only [List.length_append, List.length_cons, List.length_nil]; omega) (by omega)
  obtain ⟨M₇, R₇, c₇, z₇⟩ := kwZz_p z₆ kwPool20 (by simp only [List.length_append, List.length_cons, List.length_nil]; omega) (by omega)
  obtain ⟨M₈, R₈, c₈, z₈⟩ := kwZz_n (x := ld) z₇ dg₁ (Nat.zero_le _) (by omega) (by simp only [List.length_append, List.length_cons, List.length_nil]; omega) (by omega)
  obtain ⟨M₉, R₉, c₉, z₉⟩ := kwZz_p z₈ kwPool21 (by simp only [List.length_append, List.length_cons, List.length_nil]; omega) (by omega)
  obtain ⟨Ma, Ra, ca, za⟩ := kwZz_n (x := v) z₉ dg₁ (Nat.zero_le _) (by omega) (by simp only [List.length_append, List.length_cons, List.length_nil]; omega) (by omega)
  obtain ⟨⟨cap, ba⟩, na, fa, oa, ala⟩ := id za
  obtain ⟨Mb, Rb, cb, sb, fb, ob⟩ := kwE204 ba na
  have tt : (((((((([] ++ [97 + a]) ++ [47]) ++ ccNl u) ++ [92]) ++ [97 + b]) ++ [32]) ++ ccNl ld) ++ [58]) ++ ccNl v = kwPt a b u ld v := by
    unfold kwPt
    simp only [List.append_assoc, List.nil_append, List.append_nil]
  rw [tt] at sb fb
  have lt := kwPt_l (a := a) (b := b) (u := u) (x := ld) (v := v) (by omega) (by omega) (by omega)
  have ya := fa.2.2.1
  have ob' : kwOp r.2.2.1 Ra Ma Mb Rb := kwOp_le ob (by omega)
  have q₇ := kI z₇
  have q₉ := kI z₉
  obtain ⟨s₇, y₇, _, cd₇, _⟩ := kwI_U q₇
  obtain ⟨s₉, y₉, k₉, cd₉, _⟩ := kwI_U q₉
  have h₈ := kwE189 (aB z₇) s₇ y₇ cd₇ (kwI_P q₇).2.1 (kwI_P q₇).2.2 (by omega : L < 8) (by omega : c < 12)
  rw [kC z₇, ← hld] at h₈
  have h₉ := kwE188 (aB z₉) s₉ y₉ k₉ cd₉ (by omega : L < 8) (by omega : c < 12) (by rw [kC z₉]; exact ne)
  rw [kC z₉, v₁] at h₉
  have r₁ : M₁ 20 B L c = N a := by rw [kM z₀ 20 (by omega)]; exact g₂₀
  have r₃ : M₃ 22 B L c = N u := by rw [kM z₃ 22 (by omega)]; exact g₂₂
  have r₅ : M₅ 21 B L c = N b := by rw [kM z₅ 21 (by omega)]; exact g₂₁
  refine ⟨Ra.2.2.1, Mb, Rb, ?_, kwFk_trans (kwFk_o o₁) (kwFk_trans (kwFk_o oa) (kwFk_o ob')), kwRu_le (kwRu_trans (kwRu_o o₁ f₁ (Nat.le_refl _)) (kwRu_trans (kwRu_o oa fa y₁) (kwRu_o ob' fb (by omega)))) (Nat.le_refl _) (by omega) (by omega), kwNx_k fb na, by rw [fb.2.1, ala, al₁], fun f x2 x3 x4 x5 x6 x7 x8 x9 x10 x14 x16 => ?_⟩
  · obtain ⟨v₀, ⟨p₁, p₂, p₃, p₄⟩, p₅⟩ := sb
    exact ⟨v₀, ⟨by omega, p₂, by omega, p₄⟩, p₅⟩
  · have hB₀ : (rsO r 14 4).2.1.1 B = true := hB
    have hE₀ : (rsO r 14 4).2.1.1 E = true := hE
    have hBb : Rb.2.1.1 B = true := by rw [fb.2.1]; exact aB za
    have hEb : Rb.2.1.1 E = true := by rw [fb.2.1]; exact aE za
    unfold kwEp
    rw [h₁, hB₀, ccMckT, hE₀, ccMckT, h₂, ccBv, aB z₀, ccMckT, aE z₀, ccMckT, ccMckIn (by omega : L < 10) (by omega), ccMckIn (by omega : c < 14) (by omega), mix_N (by omega), mix_N (by omega), r₁, N_add, kwCh (by omega), kwObj (kwZz_k z₀), c₂, kwBr, aB z₂, ccMckT, aE z₂, ccMckT, kwObj (kwZz_k z₂), c₃, kwBr, aB z₃, ccMckT, aE z₃, ccMckT, ccMckIn (by omega : L < 10) (by omega), ccMckIn (by omega : c < 14) (by omega), kwObj (kwZz_k z₃), r₃, c₄, kwBr, aB z₄, ccMckT, aE z₄, ccMckT, kwObj (kwZz_k z₄), c₅, kwBr, aB z₅, ccMckT, aE z₅, ccMckT, ccMckIn (by omega : L < 10) (by omega), ccMckIn (by omega : c < 14) (by omega), r₅, N_add, kwCh (by omega), kwObj (kwZz_k z₅), c₆, kwBr, aB z₆, ccMckT, aE z₆, ccMckT, kwObj (kwZz_k z₆), c₇, kwBr, aB z₇, ccMckT, aE z₇, ccMckT, h₈, ccBi, aB z₇, ccMckT, aE z₇, ccMckT, kwObj (kwZz_k z₇), c₈, kwBr, aB z₈, ccMckT, aE z₈, ccMckT, kwObj (kwZz_k z₈), c₉, kwBr, aB z₉, ccMckT, aE z₉, ccMckT, h₉, ccBi, aB z₉, ccMckT, aE z₉, ccMckT, kwObj (kwZz_k z₉), ca, kwBr, aB za, ccMckT, aE za, ccMckT, kwObj (kwZz_k za), cb, kwBr, hBb, ccMckT, hEb, ccMckT]
