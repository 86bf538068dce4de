/-! THE LAW COMPARES the heap; a long row of whole numbers. -/
theorem kwH733 {f B : Nat} {x2 x3 x4 x5 x6 : Int32} {mi : mMi} {rs : mRs} : H240_733 B (f + 1) x2 x3 x4 x5 x6 mi rs = mckO (rs.2.1.1 B) (mifO (decide ((mi 6 B 0 18) ≤ x6)) (bN 20 (N 13) mi rs (fun n30 m30 r30 => mckO (r30.2.1.1 B) (mckO (mIsArr (r30.2.1.2.1 n30) 20 (N 0)) (bI (H176 B (mset m30 9 n30 0 0 (m30 6 B 0 17)) r30) (fun v32 m32 r32 => mckO (r32.2.1.1 B) (mckO (mIsArr (r32.2.1.2.1 n30) 20 (N 1)) (mckO (mIsArr (r32.2.1.2.1 n30) 20 (N 2)) (mckO (mIsArr (r32.2.1.2.1 n30) 20 (N 3)) (mckO (mIsArr (r32.2.1.2.1 n30) 20 (N 4)) (mckO (mIsArr (r32.2.1.2.1 n30) 20 (N 5)) (mckO (mIsArr (r32.2.1.2.1 n30) 20 (N 6)) (mckO (mIn (N 0) 4) (mckO (mIsArr (r32.2.1.2.1 n30) 20 (N 7)) (mckO (mIn (N 1) 4) (mckO (mIsArr (r32.2.1.2.1 n30) 20 (N 8)) (mckO (mIn (N 2) 4) (mckO (mIsArr (r32.2.1.2.1 n30) 20 (N 9)) (mckO (mIn (N 3) 4) (mckO (mIsArr (r32.2.1.2.1 n30) 20 (N 10)) (mckO (mIsArr (r32.2.1.2.1 n30) 20 (N 11)) (mckO (mIsArr (r32.2.1.2.1 n30) 20 (N 12)) (H240_873 B n30 FU x2 x3 x4 x5 (N 0) (mset (mset (mset (mset (mset (mset (mset (mset (mset (mset (mset (mset m32 9 n30 0 (mix (N 1)) v32) 9 n30 0 2 (m32 6 B 0 18)) 9 n30 0 3 x2) 9 n30 0 4 x3) 9 n30 0 5 (m32 6 B 0 19)) 9 n30 0 6 (m32 6 B 0 20)) 9 n30 0 7 (m32 6 B 16 0)) 9 n30 0 8 (m32 6 B 16 1)) 9 n30 0 9 (m32 6 B 16 2)) 9 n30 0 10 (m32 6 B 16 3)) 9 n30 0 11 (m32 6 B 0 21)) 9 n30 0 12 x4) r32)))))))))))))))))))))) (bI (F126 x6 mi rs) (fun v34 m34 r34 => mckO (r34.2.1.1 B) (mckO (mIn x6 40) (mifO (decide (v34 = (m34 6 B 9 (mix x6)))) (H240_733 B f x2 x3 x4 x5 (x6 + (N 1)) m34 r34) (some (.inl (some (mI (N 0))), m34, r34))))))) := rfl
theorem kwL733 {m : mMi} {r : mRs} {B w l n lm dp cl bd T Z D h : Nat} {β : Nat → Int32} {W : Nat → Nat} {x2 x3 x4 x5 : Int32} {X : mRz} (q : kwI m r B w l n lm dp cl bd β W T Z D) (h₁ : m 0 0 10 5 = N h) (h₂ : m 6 B 0 18 = N h) (h₃ : h ≤ 40) (h₄ : ∀ u, u < h → m 6 B 9 u = m 0 0 14 u) (hX : ∀ f, H240_733 B (f + 1) x2 x3 x4 x5 (N h) m r = X) : ∀ d u f, u + d = h → H240_733 B (f + d + 1) x2 x3 x4 x5 (N u) m r = X := by
  have hB := q.2.2.2.2
  have h₀ := (kwI_0 q).1
  intro d
  induction d with
  | zero =>
    intro u f y
    have e₁ : u = h := by omega
    subst e₁
    exact hX f
  | succ d i₁ =>
    intro u f y
    have e₀ : f + (d + 1) + 1 = f + d + 1 + 1 := by omega
    have e₂ : ¬ N h ≤ N u := by rw [N_le (by omega) (by omega)]; omega
    rw [e₀, kwH733, hB, ccMckT, h₂, ccIte, if_neg e₂, kwE126 h₀ h₁ (by omega) h₃, ccBi, hB, ccMckT, ccMckIn (by omega : u < 40) (by omega), mix_N (by omega), h₄ u (by omega), ccIte, if_pos rfl, N_add]
    exact i₁ (u + 1) f (by omega)
theorem kwH905 {f B a6 : Nat} {x2 x3 x4 x5 x7 : Int32} {mi : mMi} {rs : mRs} : H240_905 B a6 (f + 1) x2 x3 x4 x5 x7 mi rs = mckO (rs.2.1.1 B) (mifO (decide ((N 6) ≤ x7)) (bN 20 (N 2) mi rs (fun n2 m2 r2 => mckO (r2.2.1.1 B) (mckO (mIsArr (r2.2.1.2.1 n2) 20 (N 0)) (mckO (mIsArr (r2.2.1.2.1 n2) 20 (N 1)) (bI (H238 n2 (N 5) (mset (mset m2 9 n2 0 0 x5) 9 n2 0 1 (N 0)) r2) (fun v4 m4 r4 => mckO (r4.2.1.1 B) (mifO (decide (v4 ≠ (N 2))) (mckO (mZ (N 0) || false) (some (.inl (some (mI (N 0))), m4, r4))) (bN 20 (N 1) m4 r4 (fun n6 m6 r6 => mckO (r6.2.1.1 B) (bI (H176 B m6 r6) (fun v8 m8 r8 => mckO (r8.2.1.1 B) (mckO (mIsArr (r8.2.1.2.1 n6) 20 (N 0)) (bI (H238 n6 (N 6) (mset m8 9 n6 0 (mix (N 0)) v8) r8) (fun v10 m10 r10 => mckO (r10.2.1.1 B) (mifO (decide (v10 ≠ (N 2))) (mckO (mZ (N 0) || false) (some (.inl (some (mI (N 0))), m10, r10))) (bN 20 (N 1) m10 r10 (fun n12 m12 r12 => mckO (r12.2.1.1 B) (mckO (mIsArr (r12.2.1.2.1 n12) 20 (N 0)) (bI (H238 n12 (N 7) (mset m12 9 n12 0 0 (m12 6 B 0 18)) r12) (fun v14 m14 r14 => mckO (r14.2.1.1 B) (mifO (decide (v14 ≠ (N 2))) (mckO (mZ (N 0) || false) (some (.inl (some (mI (N 0))), m14, r14))) (bN 20 (N 2) m14 r14 (fun n16 m16 r16 => mckO (r16.2.1.1 B) (mckO (mIsArr (r16.2.1.2.1 n16) 20 (N 0)) (mckO (mIsArr (r16.2.1.2.1 n16) 20 (N 1)) (bI (H238 n16 (N 2) (mset (mset m16 9 n16 0 0 (m16 6 B 0 17)) 9 n16 0 1 (N 0)) r16) (fun v18 m18 r18 => mckO (r18.2.1.1 B) (mifO (decide (v18 ≠ (N 2))) (mckO (mZ (N 0) || false) (some (.inl (some (mI (N 0))), m18, r18))) (bN 20 (N 3) m18 r18 (fun n20 m20 r20 => mckO (r20.2.1.1 B) (mckO (mIn (N 1) 6) (mckO (mIsArr (r20.2.1.2.1 n20) 20 (N 0)) (mckO (mIsArr (r20.2.1.2.1 n20) 20 (N 1)) (mckO (mIsArr (r20.2.1.2.1 n20) 20 (N 2)) (bI (H238 n20 (N 3) (mset (mset (mset m20 9 n20 0 0 (m20 6 B 1 1)) 9 n20 0 1 (N 0)) 9 n20 0 2 (N 0)) r20) (fun v22 m22 r22 => mckO (r22.2.1.1 B) (mifO (decide (v22 ≠ (N 2))) (mckO (mZ (N 0) || false) (some (.inl (some (mI (N 0))), m22, r22))) (mckO (mZ (N 1) || false) (some (.inl (some (mI (N 1))), m22, r22)))))))))))))))))))))))))))))))))))))))) (bI (F118 x7 mi rs) (fun v24 m24 r24 => mckO (r24.2.1.1 B) (mckO (mIn x7 6) (mifO (decide (v24 = (m24 6 B 1 (mix x7)))) (H240_905 B a6 f x2 x3 x4 x5 (x7 + (N 1)) m24 r24) (some (.inl (some (mI (N 0))), m24, r24))))))) := rfl
theorem kwL905 {m : mMi} {r : mRs} {B a6 w l n lm dp cl bd T Z D : Nat} {β : Nat → Int32} {W : Nat → Nat} {x2 x3 x4 x5 : Int32} {X : mRz} (q : kwI m r B w l n lm dp cl bd β W T Z D) (h₁ : ∀ k, k < 6 → m 6 B 1 k = m 1 0 1 k) (hX : ∀ f, H240_905 B a6 (f + 1) x2 x3 x4 x5 (N 6) m r = X) : ∀ d u f, u + d = 6 → H240_905 B a6 (f + d + 1) x2 x3 x4 x5 (N u) m r = X := by
  have hB := q.2.2.2.2
  have h₀ := (kwI_0 q).1
  intro d
  induction d with
  | zero =>
    intro u f y
    have e₁ : u = 6 := by omega
    subst e₁
    exact hX f
  | succ d i₁ =>
    intro u f y
    have e₀ : f + (d + 1) + 1 = f + d + 1 + 1 := by omega
    have e₂ : ¬ N 6 ≤ N u := by rw [N_le (by omega) (by omega)]; omega
    rw [e₀, kwH905, hB, ccMckT, ccIte, if_neg e₂, kwE118 h₀ (by omega), ccBi, hB, ccMckT, ccMckIn (by omega : u < 6) (by omega), mix_N (by omega), h₁ u (by omega), ccIte, if_pos rfl, N_add]
    exact i₁ (u + 1) f (by omega)
/-- the settings of both -/
theorem kwSet6 {m : mMi} {r : mRs} {B w l n lm dp cl bd T Z D : Nat} {β : Nat → Int32} {W : Nat → Nat} (q : kwI m r B w l n lm dp cl bd β W T Z D) : ∀ k, k < 6 → m 6 B 1 k = m 1 0 1 k := fun k hk => by
  obtain ⟨s₁, s₂, s₃, s₄, s₅, s₆, _⟩ := kwI_S q
  obtain ⟨r₁, r₂, _⟩ := (kwI_0 q).2
  obtain ⟨hh, t, j₀, c₀⟩ := q.1
  obtain ⟨c₁, c₂, c₃, c₄⟩ := c₀.2.2.1
  have g : k = 0 ∨ k = 1 ∨ k = 2 ∨ k = 3 ∨ k = 4 ∨ k = 5 := by omega
  rcases g with rfl | rfl | rfl | rfl | rfl | rfl
  · rw [s₁, r₁]
  · rw [s₂, r₂]
  · rw [s₃, c₁]
  · rw [s₄, c₂]
  · rw [s₅, c₃]
  · rw [s₆, c₄]
