/-! ROWS OF ROWS, as one step. -/
theorem mMul_ok {own ix : Nat} (h : mMul own ix = true) : Jvm.Cond.classLink (mCN own) ix ("[" ++ (FieldType.array .int).toString) ∈ gTbl := by
  unfold mMul at h
  rw [Bool.and_eq_true] at h
  rw [Nat.eq_of_beq_eq_true h.1, Nat.eq_of_beq_eq_true h.2]
  exact gTbl_of 586 (by decide +kernel) rfl
theorem mMsz_spec {j : Nat} {n n2 : Int32} (h : mMsz j n n2 = true) : 10 ≤ j ∧ j < 16 ∧ ¬ n < 0 ∧ ¬ n2 < 0 ∧ n.toNatClampNeg ≤ 30 ∧ n2.toNatClampNeg ≤ 14 := by
  unfold mMsz at h
  split at h
  · rename_i hb
    have := Nat.eq_of_beq_eq_true hb
    simp only [Bool.and_eq_true, decide_eq_true_eq] at h
    obtain ⟨rfl, rfl⟩ := h
    exact ⟨by omega, by omega, by decide, by decide, by decide, by decide⟩
  · simp only [Bool.and_eq_true, decide_eq_true_eq] at h
    obtain ⟨⟨⟨g1, g2⟩, rfl⟩, rfl⟩ := h
    have g1 := Nat.le_of_ble_eq_true g1
    have g2 : j < 15 := Nat.le_of_ble_eq_true g2
    exact ⟨g1, by omega, by decide, by decide, by decide, by decide⟩
theorem mMul_adx {A i j k : Nat} (h1 : 10 ≤ j) (h2 : j < 16) : mAdx A (10 + j) i k = i + mWat j + 1 + k ∧ mAdx A 6 i j = i + mWat j := by
  have h : j = 10 ∨ j = 11 ∨ j = 12 ∨ j = 13 ∨ j = 14 ∨ j = 15 := by omega
  rcases h with rfl | rfl | rfl | rfl | rfl | rfl
  · exact ⟨by show i + (13 + 11 * (20 - 20) + k) = i + 12 + 1 + k; omega, rfl⟩
  · exact ⟨by show i + (13 + 11 * (21 - 20) + k) = i + 23 + 1 + k; omega, rfl⟩
  · exact ⟨by show i + (13 + 11 * (22 - 20) + k) = i + 34 + 1 + k; omega, rfl⟩
  · exact ⟨by show i + (13 + 11 * (23 - 20) + k) = i + 45 + 1 + k; omega, rfl⟩
  · exact ⟨by show i + (13 + 11 * (24 - 20) + k) = i + 56 + 1 + k; omega, rfl⟩
  · exact ⟨by show i + (68 + k) = i + 67 + 1 + k; omega, rfl⟩
theorem mBlt {a b : Nat} (h : a < b) : Nat.blt a b = true := Nat.ble_eq_true_of_le h
theorem mAnd3 {a b c : Bool} (h : (a && b && c) = true) : a = true ∧ b = true ∧ c = true := by
  cases a <;> cases b <;> cases c <;> first | exact ⟨rfl, rfl, rfl⟩ | cases h
def muNm (i j k : Nat) : mRf := match k with
  | 0 => (6, i, j)
  | k + 1 => (10 + j, i, k)
def muKd (k : Nat) : Nat := match k with
  | 0 => 23
  | _ + 1 => 20
def muLn (n n2 k : Nat) : Nat := match k with
  | 0 => n
  | _ + 1 => n2
theorem mu_out {i j n f' i' j' : Nat} (h : ∀ k, k < 1 + n → ¬ muNm i j k = (f', i', j')) : (Nat.beq f' 6 && Nat.beq i' i && Nat.beq j' j) = false ∧ (Nat.beq f' (10 + j) && Nat.beq i' i && Nat.blt j' n) = false := by
  constructor
  · rw [Bool.eq_false_iff]
    intro e
    obtain ⟨e1, e2, e3⟩ := mAnd3 e
    refine h 0 (by omega) ?_
    rw [Nat.eq_of_beq_eq_true e1, Nat.eq_of_beq_eq_true e2, Nat.eq_of_beq_eq_true e3]
    rfl
  · rw [Bool.eq_false_iff]
    intro e
    obtain ⟨e1, e2, e3⟩ := mAnd3 e
    have e3 : j' < n := Nat.le_of_ble_eq_true e3
    refine h (j' + 1) (by omega) ?_
    rw [Nat.eq_of_beq_eq_true e1, Nat.eq_of_beq_eq_true e2]
    rfl
theorem mu_at (i j : Nat) : (Nat.beq 6 6 && Nat.beq i i && Nat.beq j j) = true := by simp [Nat.beq_refl]
theorem mu_in6 {i j k n : Nat} (h1 : 10 ≤ j) (hk : k < n) : (Nat.beq (10 + j) 6 && Nat.beq i i && Nat.beq k j) = false ∧ (Nat.beq (10 + j) (10 + j) && Nat.beq i i && Nat.blt k n) = true := by
  constructor
  · have : Nat.beq (10 + j) 6 = false := by
      rw [Bool.eq_false_iff]
      intro e
      have := Nat.eq_of_beq_eq_true e
      omega
    rw [this]
    rfl
  · rw [mBlt hk]
    simp [Nat.beq_refl]
section MJ3
variable {p : Program} {l : Launch} {e : Env} {R : Room} {s : State} {m : MethodId} {args : Array Value} {below : List Frame} {meth : Method} {c : Code} {D : va_G} {ad : mAd} {b0 y c0 s0 : Nat} {Z : State → Prop} {h : mH} {pc : Nat} {lo : mLo} {st : mSt}
theorem mi_multi (hF : mFr y p s m args meth c) (hE : mEv ad b0 D s) {ix f i j : Nat} {n n2 : Int32} (hd : cd y pc = some (.multianewarray ix 2)) {cf sf : Nat} (hR : cf - c0 ≤ R.cells ∧ sf - s0 ≤ R.slots)
    (ho : (mMul (mOwn y) ix && Nat.beq f 6 && mMsz j n n2 && Nat.beq (mNx h) ((mQ h).2 + mWat j) && Nat.beq i (mQ h).2) = true) (hct : mCt h + (1 + mix n) ≤ cf ∧ mSl h + (mix n + mix n * mix n2) ≤ sf)
    (k : mW p l e R s m args below meth c D ad b0 y c0 s0 Z ((mshM h.1.1 i j (mix n) (mix n2), mrfM h.1.2 i j (mix n)), (mmiM h.2.1 i j (mix n) (mix n2), (mQ h, mNx h + (1 + mix n), mCt h + (1 + mix n), mSl h + (mix n + mix n * mix n2)))) (pc + 4) lo (mR 6 i j :: st)) : mW p l e R s m args below meth c D ad b0 y c0 s0 Z h pc lo (.inl n2 :: .inl n :: st) := by
  intro H locs ls na h1 h2 h3 h4 h5
  have hdc := mDc hF.2.2.2.2.2.1.2 hd rfl rfl
  obtain ⟨hxx, hb, hml, hown, hts, -⟩ := hF
  simp only [Bool.and_eq_true] at ho
  obtain ⟨⟨⟨⟨g1, -⟩, g3⟩, g4⟩, g5⟩ := ho
  have g4 := Nat.eq_of_beq_eq_true g4
  have g5 := Nat.eq_of_beq_eq_true g5
  obtain ⟨z1, z2, z3, z4, z5, z6⟩ := mMsz_spec g3
  have hna : mNx h = na := h1.2.2.1
  have hV := hE.1
  refine W.multi (n := n) (k := n2) hxx hb hown (hts _ (mMul_ok g1)) hE.2.2.2.2.2.2.2.2.1.1 (hts _ (mArrC_ok .int (by simp))) rfl hdc rfl z3 z4 (by omega) (by omega) (by show _ + (1 + mix n) ≤ _; omega) (by show _ + (mix n + mix n * mix n2) ≤ _; omega) fun H1 cO cI w1 w2 w3 w4 w5 w6 w7 w8 => ?_
  obtain ⟨kO, w3, w3'⟩ := w3
  obtain ⟨kI, cc', w4, w4'⟩ := w4
  have hadr : ∀ q, ad (10 + j) i q = H.size + 1 + q := fun q => by
    rw [mAd_at hV.1 h1 (by omega), (mMul_adx z1 z2).1, h1.2.2.2.1]
    omega
  have hpush := mRel.pushN (N := 1 + mix n) (nm := muNm i j) (kd := muKd) (ln := muLn (mix n) (mix n2)) (h1 := ((mshM h.1.1 i j (mix n) (mix n2), mrfM h.1.2 i j (mix n)), (mmiM h.2.1 i j (mix n) (mix n2), (mQ h, mNx h + (1 + mix n), mCt h + (1 + mix n), mSl h + (mix n + mix n * mix n2))))) hV.1 h1
    (fun k hk => by
      cases k with
      | zero => exact ⟨by show (6 : Nat) ≠ 3; decide, by show mAdx _ 6 i j = na + 0; rw [(mMul_adx (k := 0) z1 z2).2]; omega⟩
      | succ k => exact ⟨by show 10 + j ≠ 3; omega, by show mAdx _ (10 + j) i k = na + (k + 1); rw [(mMul_adx z1 z2).1]; omega⟩)
    (by have w5 : H1.size = H.size + 1 + mix n := w5; omega) w7
    (fun f' i' j' hne => by
      obtain ⟨e1, e2⟩ := mu_out hne
      refine ⟨?_, ?_, ?_⟩
      · show mshM h.1.1 i j (mix n) (mix n2) f' i' j' = _
        unfold mshM
        rw [e1, e2]
        rfl
      · show mrfM h.1.2 i j (mix n) f' i' j' = _
        funext q
        unfold mrfM
        rw [e1]
        rfl
      · show mmiM h.2.1 i j (mix n) (mix n2) f' i' j' = _
        funext q
        unfold mmiM
        rw [e2]
        rfl)
    (fun k hk => by
      cases k with
      | zero =>
        refine ⟨?_, by decide, by decide⟩
        show mshM h.1.1 i j (mix n) (mix n2) 6 i j = _
        unfold mshM
        rw [mu_at]
        rfl
      | succ k =>
        obtain ⟨e1, e2⟩ := mu_in6 (i := i) (k := k) (n := mix n) z1 (by omega)
        refine ⟨?_, by show (20 : Nat) ≠ 30; decide, by show (20 : Nat) ≠ 24; decide⟩
        show mshM h.1.1 i j (mix n) (mix n2) (10 + j) i k = _
        unfold mshM
        rw [e1, e2]
        rfl)
    (by rw [← hna])
    (fun k hk => by
      cases k with
      | zero =>
        refine ⟨fun z => absurd z (by show ¬ (23 : Nat) = 30; decide), Or.inl (by show (23 : Nat) ≤ 25; decide), fun z => absurd z (by show ¬ (23 : Nat) < 16; decide), fun z => absurd z (by show ¬ (23 : Nat) = 20; decide), fun z => absurd z (by show ¬ (23 : Nat) = 21; decide), fun z => absurd z (by show ¬ (23 : Nat) = 22; decide), fun _ => ?_, fun z => absurd z (by show ¬ (23 : Nat) = 24; decide), fun z => absurd z (by show ¬ (23 : Nat) = 25; decide)⟩
        refine ⟨cO, w6.trans (congrArg some ?_), fun n z => ⟨fun k h => (by cases h), kO, w3, cI, w3'⟩, w1⟩
        rw [vp_cell_q]
        unfold muC
        refine mArrV_ext fun q hq => ?_
        have hq : q < mix n := hq
        rw [if_pos hq]
        show _ = va_rf (mOp ad (mrfM h.1.2 i j (mix n) 6 i j q))
        unfold mrfM
        rw [mu_at]
        show _ = Value.ref (ad (10 + j) i q)
        rw [hadr]
      | succ k =>
        refine ⟨fun z => absurd z (by show ¬ (20 : Nat) = 30; decide), Or.inl (by show (20 : Nat) ≤ 25; decide), fun z => absurd z (by show ¬ (20 : Nat) < 16; decide), fun _ => ?_, fun z => absurd z (by show ¬ (20 : Nat) = 21; decide), fun z => absurd z (by show ¬ (20 : Nat) = 22; decide), fun z => absurd z (by show ¬ (20 : Nat) = 23; decide), fun z => absurd z (by show ¬ (20 : Nat) = 24; decide), fun z => absurd z (by show ¬ (20 : Nat) = 25; decide)⟩
        have hk2 : k < mix n := by omega
        have w8 := w8 k hk2
        rw [show H.size + 1 + k = H.size + (k + 1) by omega] at w8
        refine ⟨cI, w8.trans (congrArg some ?_), fun n z => ⟨fun k h => (by cases h), kI, w4, cc', w4'⟩, w2⟩
        rw [vp_cell_i]
        unfold muI
        refine mArrV_ext fun q hq => ?_
        have hq : q < mix n2 := hq
        show Value.int 0 = Value.int (mmiM h.2.1 i j (mix n) (mix n2) (10 + j) i k q)
        unfold mmiM
        rw [(mu_in6 (i := i) (k := k) (n := mix n) z1 hk2).2, mBlt hq]
        rfl)
  have hn0 : ad 6 i j = H.size := by
    have := hpush.2 0 (by omega)
    simpa [muNm] using this
  have kk := k H1 (locs ++ (List.range (mix n)).map fun j => ⟨H.size, j⟩) ls (na + (1 + mix n)) hpush.1 ⟨by have := h2.1; have w5 : H1.size = H.size + 1 + mix n := w5; omega, fun q q1 q2 => (w7 q (Nat.lt_of_lt_of_le q1 h2.1)).trans (h2.2.1 q q1 q2), fun q hq => by
    rcases List.mem_append.mp hq with hq | hq
    · exact h2.2.2 q hq
    · obtain ⟨z, -, hz⟩ := List.mem_map.mp hq
      rw [← hz]
      show b0 ≤ H.size
      have := h1.2.2.2.1
      omega⟩ h3 (Nat.le_trans h4 (Nat.le_add_right _ _)) (Nat.le_trans h5 (Nat.le_add_right _ _))
  refine W.cs (cells' := mCt h + (1 + mix n) - c0) (slots' := mSl h + (mix n + mix n * mix n2) - s0) (by show _ + 1 + mix n = _; omega) (by show _ + mix n + mix n * mix n2 = _; omega) ?_
  rw [List.map_cons, rv_ref, hn0] at kk
  exact kk
end MJ3
