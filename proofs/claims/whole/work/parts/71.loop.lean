/-! THE LAW'S LOOP, by program (gen_arms.py). -/
theorem ccIteQ {Q : mRz → Prop} {c : Prop} {i₁ : Decidable c} {a b : mRz} (h₁ : c → Q a) (h₂ : ¬ c → Q b) : Q (if c then a else b) := by
  by_cases h : c
  · rw [if_pos h]
    exact h₁ h
  · rw [if_neg h]
    exact h₂ h
theorem ccTswQ {Q : mRz → Prop} {x : Int32} {pc : Nat} {d lw hi : Int} {offs : Array Int} {F : Nat → mRz} (T : List Nat) (hT : (d :: offs.toList).map (mTgt pc) = T) (hn : hi - lw < offs.size) (h : ∀ t, t ∈ T → Q (F t)) : Q (mTswO x pc d lw hi offs F) := by
  have h₀ : ∀ z, z ∈ d :: offs.toList → Q (F (mTgt pc z)) := fun z hz => h _ (by rw [← hT]; exact List.mem_map_of_mem hz)
  unfold mTswO
  cases hb : (decide (x.toInt < lw) || decide (hi < x.toInt))
  · have h₁ := (Bool.or_eq_false_iff.mp hb).1
    have h₂ := (Bool.or_eq_false_iff.mp hb).2
    have h₃ := of_decide_eq_false h₁
    have h₄ := of_decide_eq_false h₂
    have h₅ : (x.toInt - lw).toNat < offs.size := by omega
    show Q (match offs[(x.toInt - lw).toNat]? with
    | some off => F (mTgt pc off)
    | none => none)
    rw [Array.getElem?_eq_getElem h₅]
    exact h₀ _ (List.mem_cons_of_mem _ (Array.getElem_mem_toList h₅))
  · exact h₀ d List.mem_cons_self
theorem ccStep {B L f : Nat} {x5 : Int32} {m : mMi} {rs : mRs} (hB : B ≤ 900000000) (h₁ : ccTop B m) (lim : ccLim m) (g₀ : ¬ ((Int32.ofNat L) - (N 6)) < x5) (g₁ : mIn x5 L = true) (hL : ∀ k, 1 ≤ k → k ≤ 5 → mIn (x5 + (N k)) L = true) : ccTo B (fun m r => F357_28 L f (x5 + (N 6)) m r) m rs (F357_28 L (f + 1) x5 m rs) := by
  have e₁ : F357_28 L (f + 1) x5 m rs = mifO _ _ (mckO _ (mTswO _ _ _ _ _ _ _)) := rfl
  rw [e₁, ccIte, if_neg g₀, ccMck g₁]
  refine ccTswQ [3346, 272, 345, 401, 414, 427, 440, 496, 552, 608, 676, 756, 836, 904, 960, 1016, 1091, 1166, 1210, 1254, 1298, 1366, 1434, 1490, 1534, 1599, 1665, 1745, 1789, 1857, 1913, 1969, 2013, 2081, 2137, 2193, 2261, 2317, 2385, 2429, 2485, 2589, 2669, 2725, 2793, 2861, 2917, 2985, 3041, 3121, 3177, 3221, 3234, 3290] rfl (by decide) (fun t ht => ?_)
  refine ccIteQ (fun _ => ccAm_V5 (Fw := F99) (Fm := F172) (fun m r => F357_28 L f (x5 + (N 6)) m r) hL (fun _ _ _ _ _ => ccOk_99 h₁)) (fun n₀₀ => ?_)
  refine ccIteQ (fun _ => ccAm_I1 (Fw := F309) (Fm := F176) (fun m r => F357_28 L f (x5 + (N 6)) m r) hL (fun _ => ccAr_309 h₁ lim)) (fun n₀₁ => ?_)
  refine ccIteQ (fun _ => ccAm_V0 (Fw := F100) (Fm := F174) (fun m r => F357_28 L f (x5 + (N 6)) m r) hL (ccOk_100 h₁)) (fun n₀₂ => ?_)
  refine ccIteQ (fun _ => ccAm_V0 (Fw := F101) (Fm := F175) (fun m r => F357_28 L f (x5 + (N 6)) m r) hL (ccOk_101 h₁)) (fun n₀₃ => ?_)
  refine ccIteQ (fun _ => ccAm_V0 (Fw := F102) (Fm := F173) (fun m r => F357_28 L f (x5 + (N 6)) m r) hL (ccOk_102 h₁)) (fun n₀₄ => ?_)
  refine ccIteQ (fun _ => ccAm_I1 (Fw := F310) (Fm := F229) (fun m r => F357_28 L f (x5 + (N 6)) m r) hL (fun _ => ccAr_310 h₁)) (fun n₀₅ => ?_)
  refine ccIteQ (fun _ => ccAm_I1 (Fw := F311) (Fm := F231) (fun m r => F357_28 L f (x5 + (N 6)) m r) hL (fun _ => ccAr_311 h₁)) (fun n₀₆ => ?_)
  refine ccIteQ (fun _ => ccAm_I1 (Fw := F312) (Fm := F236) (fun m r => F357_28 L f (x5 + (N 6)) m r) hL (fun _ => ccAr_312 h₁)) (fun n₀₇ => ?_)
  refine ccIteQ (fun _ => ccAm_I2 (Fw := F313) (Fm := F237) (fun m r => F357_28 L f (x5 + (N 6)) m r) hL (fun _ _ => ccAr_313 h₁)) (fun n₀₈ => ?_)
  refine ccIteQ (fun _ => ccAm_I3 (Fw := F314) (Fm := F240) (fun m r => F357_28 L f (x5 + (N 6)) m r) hL (fun _ _ _ => ccAr_314 h₁)) (fun n₀₉ => ?_)
  refine ccIteQ (fun _ => ccAm_I3 (Fw := F315) (Fm := F242) (fun m r => F357_28 L f (x5 + (N 6)) m r) hL (fun _ _ _ => ccAr_315 h₁)) (fun n₁₀ => ?_)
  refine ccIteQ (fun _ => ccAm_I2 (Fw := F316) (Fm := F243) (fun m r => F357_28 L f (x5 + (N 6)) m r) hL (fun _ _ => ccAr_316 hB h₁)) (fun n₁₁ => ?_)
  refine ccIteQ (fun _ => ccAm_I1 (Fw := F317) (Fm := F246) (fun m r => F357_28 L f (x5 + (N 6)) m r) hL (fun _ => ccAr_317 h₁)) (fun n₁₂ => ?_)
  refine ccIteQ (fun _ => ccAm_I1 (Fw := F318) (Fm := F247) (fun m r => F357_28 L f (x5 + (N 6)) m r) hL (fun _ => ccAr_318 h₁)) (fun n₁₃ => ?_)
  refine ccIteQ (fun _ => ccAm_B2 (Fw := F319) (Fm := F248) (fun m r => F357_28 L f (x5 + (N 6)) m r) hL (fun _ _ => ccAr_319 h₁)) (fun n₁₄ => ?_)
  refine ccIteQ (fun _ => ccAm_B2 (Fw := F320) (Fm := F249) (fun m r => F357_28 L f (x5 + (N 6)) m r) hL (fun _ _ => ccAr_320 h₁)) (fun n₁₅ => ?_)
  refine ccIteQ (fun _ => ccAm_I0 (Fw := F321) (Fm := F250) (fun m r => F357_28 L f (x5 + (N 6)) m r) hL (ccAr_321 h₁)) (fun n₁₆ => ?_)
  refine ccIteQ (fun _ => ccAm_I0 (Fw := F322) (Fm := F251) (fun m r => F357_28 L f (x5 + (N 6)) m r) hL (ccAr_322 h₁)) (fun n₁₇ => ?_)
  refine ccIteQ (fun _ => ccAm_I0 (Fw := F323) (Fm := F253) (fun m r => F357_28 L f (x5 + (N 6)) m r) hL (ccAr_323 h₁)) (fun n₁₈ => ?_)
  refine ccIteQ (fun _ => ccAm_I2 (Fw := F324) (Fm := F254) (fun m r => F357_28 L f (x5 + (N 6)) m r) hL (fun _ _ => ccAr_324 hB h₁)) (fun n₁₉ => ?_)
  refine ccIteQ (fun _ => ccAm_I2 (Fw := F325) (Fm := F257) (fun m r => F357_28 L f (x5 + (N 6)) m r) hL (fun _ _ => ccAr_325 hB h₁)) (fun n₂₀ => ?_)
  refine ccIteQ (fun _ => ccAm_I1 (Fw := F326) (Fm := F259) (fun m r => F357_28 L f (x5 + (N 6)) m r) hL (fun _ => ccAr_326 h₁)) (fun n₂₁ => ?_)
  refine ccIteQ (fun _ => ccAm_I0 (Fw := F327) (Fm := F260) (fun m r => F357_28 L f (x5 + (N 6)) m r) hL (ccAr_327 h₁)) (fun n₂₂ => ?_)
  refine ccIteQ (fun _ => ccAm_D0 (Fw := F328) (Fm := F261) (fun m r => F357_28 L f (x5 + (N 6)) m r) hL (ccAr_328 h₁)) (fun n₂₃ => ?_)
  refine ccIteQ (fun _ => ccAm_F0 (Fw := F329) (Fm := F262) (fun m r => F357_28 L f (x5 + (N 6)) m r) hL (ccAr_329 h₁)) (fun n₂₄ => ?_)
  refine ccIteQ (fun _ => ccAm_I3 (Fw := F330) (Fm := F263) (fun m r => F357_28 L f (x5 + (N 6)) m r) hL (fun _ _ _ => ccAr_330 h₁)) (fun n₂₅ => ?_)
  refine ccIteQ (fun _ => ccAm_I0 (Fw := F331) (Fm := F265) (fun m r => F357_28 L f (x5 + (N 6)) m r) hL (ccAr_331 h₁)) (fun n₂₆ => ?_)
  refine ccIteQ (fun _ => ccAm_I2 (Fw := F332) (Fm := F266) (fun m r => F357_28 L f (x5 + (N 6)) m r) hL (fun _ _ => ccAr_332 hB h₁)) (fun n₂₇ => ?_)
  refine ccIteQ (fun _ => ccAm_I1 (Fw := F333) (Fm := F271) (fun m r => F357_28 L f (x5 + (N 6)) m r) hL (fun _ => ccAr_333 hB h₁)) (fun n₂₈ => ?_)
  refine ccIteQ (fun _ => ccAm_I1 (Fw := F334) (Fm := F272) (fun m r => F357_28 L f (x5 + (N 6)) m r) hL (fun _ => ccAr_334 hB h₁)) (fun n₂₉ => ?_)
  refine ccIteQ (fun _ => ccAm_I0 (Fw := F335) (Fm := F273) (fun m r => F357_28 L f (x5 + (N 6)) m r) hL (ccAr_335 h₁)) (fun n₃₀ => ?_)
  refine ccIteQ (fun _ => ccAm_I2 (Fw := F336) (Fm := F274) (fun m r => F357_28 L f (x5 + (N 6)) m r) hL (fun _ _ => ccAr_336 hB h₁)) (fun n₃₁ => ?_)
  refine ccIteQ (fun _ => ccAm_I1 (Fw := F337) (Fm := F275) (fun m r => F357_28 L f (x5 + (N 6)) m r) hL (fun _ => ccAr_337 hB h₁)) (fun n₃₂ => ?_)
  refine ccIteQ (fun _ => ccAm_I1 (Fw := F338) (Fm := F277) (fun m r => F357_28 L f (x5 + (N 6)) m r) hL (fun _ => ccAr_338 hB h₁)) (fun n₃₃ => ?_)
  refine ccIteQ (fun _ => ccAm_I2 (Fw := F339) (Fm := F280) (fun m r => F357_28 L f (x5 + (N 6)) m r) hL (fun _ _ => ccAr_339 h₁)) (fun n₃₄ => ?_)
  refine ccIteQ (fun _ => ccAm_I1 (Fw := F340) (Fm := F281) (fun m r => F357_28 L f (x5 + (N 6)) m r) hL (fun _ => ccAr_340 h₁)) (fun n₃₅ => ?_)
  refine ccIteQ (fun _ => ccAm_I2 (Fw := F341) (Fm := F283) (fun m r => F357_28 L f (x5 + (N 6)) m r) hL (fun _ _ => ccAr_341 h₁)) (fun n₃₆ => ?_)
  refine ccIteQ (fun _ => ccAm_I0 (Fw := F342) (Fm := F286) (fun m r => F357_28 L f (x5 + (N 6)) m r) hL (ccAr_342 hB h₁)) (fun n₃₇ => ?_)
  refine ccIteQ (fun _ => ccAm_I1 (Fw := F343) (Fm := F288) (fun m r => F357_28 L f (x5 + (N 6)) m r) hL (fun _ => ccAr_343 h₁)) (fun n₃₈ => ?_)
  refine ccIteQ (fun _ => ccAm_I5 (Fw := F344) (Fm := F289) (fun m r => F357_28 L f (x5 + (N 6)) m r) hL (fun _ _ _ _ _ => ccAr_344 hB h₁)) (fun n₃₉ => ?_)
  refine ccIteQ (fun _ => ccAm_I3 (Fw := F345) (Fm := F293) (fun m r => F357_28 L f (x5 + (N 6)) m r) hL (fun _ _ _ => ccAr_345 hB h₁)) (fun n₄₀ => ?_)
  refine ccIteQ (fun _ => ccAm_I1 (Fw := F346) (Fm := F294) (fun m r => F357_28 L f (x5 + (N 6)) m r) hL (fun _ => ccAr_346 hB h₁)) (fun n₄₁ => ?_)
  refine ccIteQ (fun _ => ccAm_I2 (Fw := F347) (Fm := F295) (fun m r => F357_28 L f (x5 + (N 6)) m r) hL (fun _ _ => ccAr_347 hB h₁)) (fun n₄₂ => ?_)
  refine ccIteQ (fun _ => ccAm_I2 (Fw := F348) (Fm := F296) (fun m r => F357_28 L f (x5 + (N 6)) m r) hL (fun _ _ => ccAr_348 hB h₁)) (fun n₄₃ => ?_)
  refine ccIteQ (fun _ => ccAm_I1 (Fw := F349) (Fm := F297) (fun m r => F357_28 L f (x5 + (N 6)) m r) hL (fun _ => ccAr_349 hB h₁)) (fun n₄₄ => ?_)
  refine ccIteQ (fun _ => ccAm_I2 (Fw := F350) (Fm := F298) (fun m r => F357_28 L f (x5 + (N 6)) m r) hL (fun _ _ => ccAr_350 hB h₁)) (fun n₄₅ => ?_)
  refine ccIteQ (fun _ => ccAm_I1 (Fw := F351) (Fm := F299) (fun m r => F357_28 L f (x5 + (N 6)) m r) hL (fun _ => ccAr_351 hB h₁)) (fun n₄₆ => ?_)
  refine ccIteQ (fun _ => ccAm_I3 (Fw := F352) (Fm := F302) (fun m r => F357_28 L f (x5 + (N 6)) m r) hL (fun _ _ _ => ccAr_352 hB h₁)) (fun n₄₇ => ?_)
  refine ccIteQ (fun _ => ccAm_I1 (Fw := F353) (Fm := F303) (fun m r => F357_28 L f (x5 + (N 6)) m r) hL (fun _ => ccAr_353 hB h₁)) (fun n₄₈ => ?_)
  refine ccIteQ (fun _ => ccAm_I0 (Fw := F354) (Fm := F304) (fun m r => F357_28 L f (x5 + (N 6)) m r) hL (ccAr_354 h₁)) (fun n₄₉ => ?_)
  refine ccIteQ (fun _ => ccAm_V0 (Fw := F103) (Fm := F306) (fun m r => F357_28 L f (x5 + (N 6)) m r) hL (ccOk_103 h₁)) (fun n₅₀ => ?_)
  refine ccIteQ (fun _ => ccAm_I1 (Fw := F355) (Fm := F307) (fun m r => F357_28 L f (x5 + (N 6)) m r) hL (fun _ => ccAr_355 h₁)) (fun n₅₁ => ?_)
  refine ccIteQ (fun _ => ccAm_I1 (Fw := F356) (Fm := F308) (fun m r => F357_28 L f (x5 + (N 6)) m r) hL (fun _ => ccAr_356 h₁)) (fun n₅₂ => ?_)
  refine ccIteQ (fun _ => ⟨m, rs, rfl, ccTop_B (by omega) h₁, fun _ _ _ => rfl, by omega, by omega⟩) (fun n₅₃ => ?_)
  exact absurd ht (by simp only [List.mem_cons, List.not_mem_nil, or_false, not_or, not_false_eq_true, and_true, n₀₀, n₀₁, n₀₂, n₀₃, n₀₄, n₀₅, n₀₆, n₀₇, n₀₈, n₀₉, n₁₀, n₁₁, n₁₂, n₁₃, n₁₄, n₁₅, n₁₆, n₁₇, n₁₈, n₁₉, n₂₀, n₂₁, n₂₂, n₂₃, n₂₄, n₂₅, n₂₆, n₂₇, n₂₈, n₂₉, n₃₀, n₃₁, n₃₂, n₃₃, n₃₄, n₃₅, n₃₆, n₃₇, n₃₈, n₃₉, n₄₀, n₄₁, n₄₂, n₄₃, n₄₄, n₄₅, n₄₆, n₄₇, n₄₈, n₄₉, n₅₀, n₅₁, n₅₂, n₅₃])
theorem ccGo {L i : Nat} (h₁ : L ≤ 3072) (h₂ : i ≤ 3072) : ((Int32.ofNat L) - (N 6)) < N i ↔ L < i + 6 := by
  by_cases h₃ : 6 ≤ L
  · have e₁ : (Int32.ofNat L) - (N 6) = N (L - 6) := N_sub h₃
    rw [e₁, N_lt (by omega) (by omega)]
    omega
  · have e₁ : ((Int32.ofNat L) - (N 6)) < N 0 := by
      have e₂ : L = 0 ∨ L = 1 ∨ L = 2 ∨ L = 3 ∨ L = 4 ∨ L = 5 := by omega
      rcases e₂ with e₂ | e₂ | e₂ | e₂ | e₂ | e₂ <;> subst e₂ <;> decide
    have e₃ : N 0 ≤ N i := by rw [N_le (by omega) (by omega)]; omega
    exact ⟨fun _ => by omega, fun _ => Int32.lt_of_lt_of_le e₁ e₃⟩
theorem ccLaw {L : Nat} (hL : L ≤ 3072) : ∀ f i m rs, L ≤ 6 * (i + f) → 6 * i ≤ 3072 → ccTop (192 * i) m → ccLim m → ∃ m₂ r₂, F357_28 L (f + 1) (N (6 * i)) m rs = rI (N 1) m₂ r₂ ∧ r₂.2.2.2.1 ≤ rs.2.2.2.1 + f ∧ r₂.2.2.2.2 ≤ rs.2.2.2.2 + 6 * f := by
  have ex : ∀ f i m rs, L < 6 * i + 6 → 6 * i ≤ 3072 → F357_28 L (f + 1) (N (6 * i)) m rs = rI (N 1) m rs := fun f i m rs g₁ g₂ => by
    have e₁ : F357_28 L (f + 1) (N (6 * i)) m rs = mifO _ _ (mckO _ (mTswO _ _ _ _ _ _ _)) := rfl
    rw [e₁, ccIte, if_pos ((ccGo hL g₂).mpr g₁)]
  intro f
  induction f with
  | zero =>
    intro i m rs g₁ g₂ g₃ g₄
    exact ⟨m, rs, ex 0 i m rs (by omega) g₂, by omega, by omega⟩
  | succ f ih =>
    intro i m rs g₁ g₂ g₃ g₄
    by_cases g₅ : L < 6 * i + 6
    · exact ⟨m, rs, ex (f + 1) i m rs g₅ g₂, by omega, by omega⟩
    · obtain ⟨m₂, r₂, e₁, e₂, e₃, e₄, e₅⟩ := ccStep (f := f + 1) (x5 := N (6 * i)) (rs := rs) (by omega) g₃ g₄ (fun h => g₅ ((ccGo hL g₂).mp h)) (mIn_N (by omega) (by omega)) (fun k y₁ y₂ => by rw [N_add]; exact mIn_N (by omega) (by omega))
      have e₆ : N (6 * i) + N 6 = N (6 * (i + 1)) := by rw [N_add]; rfl
      have e₇ : 192 * i + 192 = 192 * (i + 1) := by omega
      rw [e₇] at e₂
      obtain ⟨m₃, r₃, c₁, c₂, c₃⟩ := ih (i + 1) m₂ r₂ (by omega) (by omega) e₂ (fun k y₁ => by rw [e₃, e₃]; exact g₄ k y₁)
      refine ⟨m₃, r₃, ?_, by omega, by omega⟩
      rw [e₁]
      show F357_28 L (f + 1) (N (6 * i) + N 6) m₂ r₂ = _
      rw [e₆]
      exact c₁
