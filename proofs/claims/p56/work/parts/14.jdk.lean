/-! THE JDK'S METHODS THAT THE SMALL MACHINE KNOWS. -/
/-- String.length and charAt of the texts, Arrays.fill of whole numbers: contracts -/
def mJdk (l : Launch) (ad : mAd) (b0 : Nat) : Prop :=
  (∀ k, mTxO k = true → Met l yLen (Cond.code yLen bLen 1 (some .int) :: gTbl) { frames := 4, cells := 0, slots := 0, locals := 100 } (va_Pc [.ref (ad 3 3 k)] (fun U => mOldW ad b0 U U.heap)) (QcRead (Int32.ofNat (mTxt k).length)) 0 0 (fun _ => False)) ∧
  (∀ k x, mTxO k = true → mIn x (mTxt k).length = true → Met l yCha (Cond.code yCha bCha 2 (some .char) :: gTbl) { frames := 6, cells := 0, slots := 0, locals := 150 } (va_Pc [.ref (ad 3 3 k), .int x] (fun U => mOldW ad b0 U U.heap)) (QcRead ((mTxt k).getD (mix x) 0)) 0 0 (fun _ => False)) ∧
  (∀ a cA n (g : Nat → Int32) v, n < 2 ^ 31 → Met l yFil (Cond.code yFil bFil 4 none :: gTbl) { frames := 1, cells := 0, slots := 0, locals := 50 } (va_Pc [.ref a, .int v] (fun U => U.heap[a]? = some (vp_cell cA (n, .inl g)) ∧ ArrOfT U cA .int ∧ va_RA U cA .int)) (QcSet a (vp_cell cA (n, .inl (fun _ => v))) (.returned none)) 0 0 (fun x => x = a)) ∧
  (∀ k, mTxO k = true → Met l yCod (Cond.code yCod bCod 1 (some .byte) :: gTbl) { frames := 4, cells := 0, slots := 0, locals := 100 } (va_Pc [.ref (ad 3 3 k)] (fun U => mOldW ad b0 U U.heap)) (QcRead 0) 0 0 (fun _ => False)) ∧
  (∀ k a cA n (g : Nat → Int32) dp, mTxO k = true → b0 ≤ a → mSpanB (some (22, n)) dp (mTxt k).length = true → Met l yGby (Cond.code yGby bGby 4 none :: gTbl) { frames := 6, cells := 0, slots := 0, locals := 250 } (va_Pc [.ref (ad 3 3 k), .ref a, .int dp, .int 0] (fun U => mOldW ad b0 U U.heap ∧ U.heap[a]? = some (vp_cell cA (n, .inl g)) ∧ ArrOfT U cA .byte ∧ va_RA U cA .byte)) (QcSet a (vp_cell cA (n, .inl (fun q => if mix dp ≤ q ∧ q < mix dp + (mTxt k).length then (mTxt k).getD (q - mix dp) 0 else g q))) (.returned none)) 0 0 (fun x => x = a)) ∧
  (∀ x n : Int32, ¬ x < 0 → x < n → Met l yChk (Cond.code yChk bChk 2 none :: gTbl) { frames := 4, cells := 0, slots := 0, locals := 150 } (va_Pc [.int x, .int n] (fun U => mOldW ad b0 U U.heap)) (fun _ st oc t => oc = .returned none ∧ t.heap = st.heap) 0 0 (fun _ => False))
theorem mDeep_ok {ad : mAd} {st : mSt} (h : mDeep st = true) : ((st.map (rv ad)).map fun v => v.category).sum ≤ 8 := by
  unfold mDeep at h
  have h1 := Nat.le_of_ble_eq_true h
  have e : (st.map (rv ad)).map (fun v => v.category) = st.map mCat := by
    rw [List.map_map]
    apply List.map_congr_left
    intro v _
    exact rv_cat ad v
  rw [e]
  exact h1
theorem mcopy_at {mi : mMi} {f i j sp f2 i2 j2 dp n : Nat} : mcopy mi f i j sp f2 i2 j2 dp n f2 i2 j2 = va_cpy (mi f i j) (mi f2 i2 j2) sp dp n := by
  funext q
  unfold mcopy va_cpy
  rw [mBeqT, Bool.true_and]
  by_cases h : dp ≤ q ∧ q < dp + n
  · rw [if_pos h, Nat.ble_eq_true_of_le h.1, show Nat.blt q (dp + n) = true from Nat.ble_eq_true_of_le h.2]
    rfl
  · rw [if_neg h]
    have : (Nat.ble dp q && Nat.blt q (dp + n)) = false := by
      rw [Bool.eq_false_iff]
      intro e
      rw [Bool.and_eq_true] at e
      exact h ⟨Nat.le_of_ble_eq_true e.1, Nat.le_of_ble_eq_true e.2⟩
    rw [this]
theorem mSpanY_spec {o : Option (Nat × Nat)} {sp n : Int32} (h : mSpanY o sp n = true) : ∃ N, o = some (22, N) ∧ ¬ sp < 0 ∧ ¬ n < 0 ∧ sp.toNatClampNeg + n.toNatClampNeg ≤ N := by
  unfold mSpanY at h
  split at h
  · rename_i N
    simp only [Bool.and_eq_true, Bool.not_eq_true', decide_eq_false_iff_not] at h
    exact ⟨N, rfl, h.1.1, h.1.2, Nat.le_of_ble_eq_true h.2⟩
  · cases h
theorem mByteOk_at {mi : mMi} {f i j sp n q : Nat} (h : mByteOk mi f i j sp n = true) (hq : q < n) : mByte1 (mi f i j (sp + q)) = true := List.all_eq_true.mp h q (List.mem_range.mpr hq)
theorem mSpan_spec {o : Option (Nat × Nat)} {sp n : Int32} (h : mSpan o sp n = true) : ∃ N, o = some (20, N) ∧ ¬ sp < 0 ∧ ¬ n < 0 ∧ sp.toNatClampNeg + n.toNatClampNeg ≤ N := by
  unfold mSpan at h
  split at h
  · rename_i N
    simp only [Bool.and_eq_true, Bool.not_eq_true', decide_eq_false_iff_not] at h
    exact ⟨N, rfl, h.1.1, h.1.2, Nat.le_of_ble_eq_true h.2⟩
  · cases h
section MJ
variable {p : Program} {l : Launch} {e : Env} {R : Room} {s : State} {m : MethodId} {args : Array Value} {below : List Frame} {meth : Method} {c : Code} {D : va_G} {ad : mAd} {b0 y c0 s0 : Nat} {Z : State → Prop} {h : mH} {pc : Nat} {lo : mLo} {st : mSt}
theorem mi_ldc (hF : mFr y p s m args meth c) (hE : mEv ad b0 D s) {ix k : Nat} (hd : cd y pc = some (.ldc ix)) (hk : mStr (mOwn y) ix = some k) (kk : mW p l e R s m args below meth c D ad b0 y c0 s0 Z h (pc + 2) lo (mR 3 3 k :: st)) : mW p l e R s m args below meth c D ad b0 y c0 s0 Z h pc lo st := by
  intro H locs ls na h1 h2 h3 h4 h5
  exact va_ldcS hF.1 hF.2.1 hF.2.2.2.1 (hE.2.2.1 _ _ _ hk) (mDc hF.2.2.2.2.2.1.2 hd rfl rfl) (kk H locs ls na h1 h2 h3 h4 h5)
theorem mi_ldcwS (hF : mFr y p s m args meth c) (hE : mEv ad b0 D s) {ix k : Nat} (hd : cd y pc = some (.ldc_w ix)) (hk : mStr (mOwn y) ix = some k) (kk : mW p l e R s m args below meth c D ad b0 y c0 s0 Z h (pc + 3) lo (mR 3 3 k :: st)) : mW p l e R s m args below meth c D ad b0 y c0 s0 Z h pc lo st := by
  intro H locs ls na h1 h2 h3 h4 h5
  have hdc := mDc hF.2.2.2.2.2.1.2 hd rfl rfl
  have hZ := hE.2.2.1 _ _ _ hk
  intro T hT X
  obtain ⟨t, a1, b1⟩ := kk H locs ls na h1 h2 h3 h4 h5 T hT X
  exact ⟨t, X.ldcStringW hF.1 hF.2.2.2.1 (text := mTxS k) (a := ad 3 3 k) hZ.1 hZ.2 (g := F0 m pc ls _) rfl (by rw [hF.2.1]; exact hdc) t a1, b1⟩
theorem mCon_ok {own ix : Nat} {x : Int32} (h : mCon own ix = some x) : Jvm.Cond.constant (mCN own) ix x ∈ gTbl := by
  have hm := mLook_mem h
  have hlt := mGetD_mem hm
  have key : ∀ own, own < 24 → ∀ q ∈ mCon_L.getD own [], (own = 12 ∧ q = (17, 2147483647)) ∨ (own = 17 ∧ (q = (38, 2147483631) ∨ q = (39, 2147483647))) ∨ (own = 21 ∧ q = (200, 2147483639)) := by decide +kernel
  rcases key _ hlt _ hm with ⟨rfl, e⟩ | ⟨rfl, e | e⟩ | ⟨rfl, e⟩
  · cases e; exact gCon_12_17
  · cases e; exact gCon_17_38
  · cases e; exact gCon_17_39
  · cases e; exact gCon_21_200
theorem mi_ldcI (hF : mFr y p s m args meth c) {ix : Nat} {x : Int32} (hd : cd y pc = some (.ldc ix)) (hk : mCon (mOwn y) ix = some x) (kk : mW p l e R s m args below meth c D ad b0 y c0 s0 Z h (pc + 2) lo (mI x :: st)) : mW p l e R s m args below meth c D ad b0 y c0 s0 Z h pc lo st := by
  intro H locs ls na h1 h2 h3 h4 h5
  exact lv_ldc hF.1 hF.2.1 hF.2.2.2.1 (hF.2.2.2.2.1 _ (mCon_ok hk)) (mDc hF.2.2.2.2.2.1.2 hd rfl rfl) (kk H locs ls na h1 h2 h3 h4 h5)
theorem mi_ldcwI (hF : mFr y p s m args meth c) {ix : Nat} {x : Int32} (hd : cd y pc = some (.ldc_w ix)) (hk : mCon (mOwn y) ix = some x) (kk : mW p l e R s m args below meth c D ad b0 y c0 s0 Z h (pc + 3) lo (mI x :: st)) : mW p l e R s m args below meth c D ad b0 y c0 s0 Z h pc lo st := by
  intro H locs ls na h1 h2 h3 h4 h5
  exact lv_ldcw hF.1 hF.2.1 hF.2.2.2.1 (hF.2.2.2.2.1 _ (mCon_ok hk)) (mDc hF.2.2.2.2.2.1.2 hd rfl rfl) (kk H locs ls na h1 h2 h3 h4 h5)
theorem mi_ldc2 (hF : mFr y p s m args meth c) {ix : Nat} {x : Int64} (hd : cd y pc = some (.ldc2_w ix)) (hk : mLon (mOwn y) ix = some x) (kk : mW p l e R s m args below meth c D ad b0 y c0 s0 Z h (pc + 3) lo (mL x :: st)) : mW p l e R s m args below meth c D ad b0 y c0 s0 Z h pc lo st := by
  intro H locs ls na h1 h2 h3 h4 h5
  have hdc := mDc hF.2.2.2.2.2.1.2 hd rfl rfl
  have hm := mLook_mem hk
  have hlt := mGetD_mem hm
  have key : ∀ own, own < 24 → ∀ q ∈ mLon_L.getD own [], own = 16 ∧ q = (123, -99999) := by decide +kernel
  obtain ⟨e1, e2⟩ := key _ hlt _ hm
  cases e2
  have hown := hF.2.2.2.1
  rw [e1] at hown
  exact lv_ldc2 hF.1 hF.2.1 hown (hF.2.2.2.2.1 _ gLon) hdc (kk H locs ls na h1 h2 h3 h4 h5)
/-- what a static holds: a row that was there, or that texts are of one byte a letter -/
def mGv (k : Nat) : mV := match Nat.beq k 100 with
  | true => mI 1
  | false => mR 3 k 0
theorem mi_getstatic (hF : mFr y p s m args meth c) (hE : mEv ad b0 D s) {ix k : Nat} (hd : cd y pc = some (.getstatic ix)) (hk : mGet (mOwn y) ix = some k) (kk : mW p l e R s m args below meth c D ad b0 y c0 s0 Z h (pc + 3) lo (mGv k :: st)) : mW p l e R s m args below meth c D ad b0 y c0 s0 Z h pc lo st := by
  intro H locs ls na h1 h2 h3 h4 h5
  have hdc := mDc hF.2.2.2.2.2.1.2 hd rfl rfl
  have hm := mLook_mem hk
  have hown := hF.2.2.2.1
  have hlt := mGetD_mem hm
  have key : ∀ own, own < 24 → ∀ q ∈ mGet_L.getD own [], (own = 6 ∧ (q = (83, 1) ∨ q = (87, 2))) ∨ (own = 15 ∧ q = (38, 100)) ∨ (own = 17 ∧ q = (18, 100)) ∨ (own = 18 ∧ (q = (83, 4) ∨ q = (87, 5))) := by decide +kernel
  have hO := hE.2.1
  rcases key _ hlt _ hm with ⟨e1, e2 | e2⟩ | ⟨e1, e2⟩ | ⟨e1, e2⟩ | ⟨e1, e2 | e2⟩
  all_goals rw [e1] at hown
  all_goals cases e2
  · exact va_getsN hF.1 hF.2.1 hO.2.1 h2 hown (va_Nw.use rfl (hE.2.2.2.2.1 _ _ _ _ _ _ gSet_83)) (fun _ z => z) hdc (kk H locs ls na h1 h2 h3 h4 h5)
  · exact va_getsN hF.1 hF.2.1 hO.2.2.1 h2 hown (va_Nw.use rfl (hE.2.2.2.2.1 _ _ _ _ _ _ gSet_87)) (fun _ z => z) hdc (kk H locs ls na h1 h2 h3 h4 h5)
  · exact va_gets hF.1 hF.2.1 hO.2.2.2.2.2.2.2.1 h2 hown (hF.2.2.2.2.1 _ gSta_15_38) (fun _ z => z) hdc (kk H locs ls na h1 h2 h3 h4 h5)
  · exact va_gets hF.1 hF.2.1 hO.2.2.2.2.2.2.2.1 h2 hown (hF.2.2.2.2.1 _ gSta_17_18) (fun _ z => z) hdc (kk H locs ls na h1 h2 h3 h4 h5)
  · exact va_gets hF.1 hF.2.1 hO.2.2.2.2.2.1 h2 hown (hF.2.2.2.2.1 _ gSta_18_83) (fun _ z => z) hdc (kk H locs ls na h1 h2 h3 h4 h5)
  · exact va_gets hF.1 hF.2.1 hO.2.2.2.2.2.2.1 h2 hown (hF.2.2.2.2.1 _ gSta_18_87) (fun _ z => z) hdc (kk H locs ls na h1 h2 h3 h4 h5)
theorem mi_objinit (hF : mFr y p s m args meth c) (hR : 12 ≤ R.frames ∧ 300 ≤ R.locals) {ix n : Nat} {r : mRf} (hd : cd y pc = some (.invokespecial ix)) (hk : mMet (mOwn y) ix = some (1003, n)) (hst : mDeep st = true) (kk : mW p l e R s m args below meth c D ad b0 y c0 s0 Z h (pc + 3) lo st) : mW p l e R s m args below meth c D ad b0 y c0 s0 Z h pc lo (.inr (.inl (some r)) :: st) := by
  intro H locs ls na h1 h2 h3 h4 h5
  have hdc := mDc hF.2.2.2.2.2.1.2 hd rfl rfl
  obtain ⟨f, i, j⟩ := r
  have hdp := mDeep_ok (ad := ad) hst
  exact W.objInit hF.1 hF.2.1 hF.2.2.2.1 (hF.2.2.2.2.1 _ (mMetB_ok hk rfl).1) (hF.2.2.2.2.1 _ gObj_i) (hF.2.2.2.2.1 _ gObj_c) rfl (by rw [hF.2.2.1]; exact h3.2.1) rfl hdc (by omega) (by show 2 * 0 + _ + 12 ≤ _; omega) (kk H locs ls na h1 h2 h3 h4 h5)
theorem mi_abs (hF : mFr y p s m args meth c) (hR : 12 ≤ R.frames ∧ 300 ≤ R.locals) {cf sf : Nat} (hRc : cf - c0 ≤ R.cells ∧ sf - s0 ≤ R.slots) (hct : mCt h ≤ cf ∧ mSl h ≤ sf) {ix n : Nat} {x : Int32} (hd : cd y pc = some (.invokestatic ix)) (hk : mMet (mOwn y) ix = some (1008, n)) (hst : mDeep st = true) (kk : mW p l e R s m args below meth c D ad b0 y c0 s0 Z h (pc + 3) lo (mI (if 0 ≤ x then x else 0 - x) :: st)) : mW p l e R s m args below meth c D ad b0 y c0 s0 Z h pc lo (.inl x :: st) := by
  intro H locs ls na h1 h2 h3 h4 h5
  have hdc := mDc hF.2.2.2.2.2.1.2 hd rfl rfl
  have hdp := mDeep_ok (ad := ad) hst
  exact va_mabs hF.1 hF.2.1 (by rw [hF.2.2.1]; exact h3.2.1.symm) hF.2.2.2.1 (hF.2.2.2.2.1 _ (mMetB_ok hk rfl).1) (hF.2.2.2.2.1 _ gAbs_t) (hF.2.2.2.2.1 _ gMath_n) (hF.2.2.2.2.1 _ gAbs_c) (by omega) (by omega) (by omega) (by omega) hdc (kk H locs ls na h1 h2 h3 h4 h5)
theorem mi_max (hF : mFr y p s m args meth c) (hR : 12 ≤ R.frames ∧ 300 ≤ R.locals) {cf sf : Nat} (hRc : cf - c0 ≤ R.cells ∧ sf - s0 ≤ R.slots) (hct : mCt h ≤ cf ∧ mSl h ≤ sf) {ix n : Nat} {x z : Int32} (hd : cd y pc = some (.invokestatic ix)) (hk : mMet (mOwn y) ix = some (1007, n)) (hst : mDeep st = true) (kk : mW p l e R s m args below meth c D ad b0 y c0 s0 Z h (pc + 3) lo (mI (if x < z then z else x) :: st)) : mW p l e R s m args below meth c D ad b0 y c0 s0 Z h pc lo (.inl z :: .inl x :: st) := by
  intro H locs ls na h1 h2 h3 h4 h5
  have hdc := mDc hF.2.2.2.2.2.1.2 hd rfl rfl
  have hdp := mDeep_ok (ad := ad) hst
  exact va_mmax hF.1 hF.2.1 (by rw [hF.2.2.1]; exact h3.2.1.symm) hF.2.2.2.1 (hF.2.2.2.2.1 _ (mMetB_ok hk rfl).1) (hF.2.2.2.2.1 _ gMax_t) (hF.2.2.2.2.1 _ gMath_n) (hF.2.2.2.2.1 _ gMax_c) (by omega) (by omega) (by omega) (by omega) hdc (kk H locs ls na h1 h2 h3 h4 h5)
theorem mi_min (hF : mFr y p s m args meth c) (hR : 12 ≤ R.frames ∧ 300 ≤ R.locals) {cf sf : Nat} (hRc : cf - c0 ≤ R.cells ∧ sf - s0 ≤ R.slots) (hct : mCt h ≤ cf ∧ mSl h ≤ sf) {ix n : Nat} {x z : Int32} (hd : cd y pc = some (.invokestatic ix)) (hk : mMet (mOwn y) ix = some (1006, n)) (hst : mDeep st = true) (kk : mW p l e R s m args below meth c D ad b0 y c0 s0 Z h (pc + 3) lo (mI (if z < x then z else x) :: st)) : mW p l e R s m args below meth c D ad b0 y c0 s0 Z h pc lo (.inl z :: .inl x :: st) := by
  intro H locs ls na h1 h2 h3 h4 h5
  have hdc := mDc hF.2.2.2.2.2.1.2 hd rfl rfl
  have hdp := mDeep_ok (ad := ad) hst
  exact va_mmin hF.1 hF.2.1 (by rw [hF.2.2.1]; exact h3.2.1.symm) hF.2.2.2.1 (hF.2.2.2.2.1 _ (mMetB_ok hk rfl).1) (hF.2.2.2.2.1 _ gMin_t) (hF.2.2.2.2.1 _ gMath_n) (hF.2.2.2.2.1 _ gMin_c) (by omega) (by omega) (by omega) (by omega) hdc (kk H locs ls na h1 h2 h3 h4 h5)
theorem mi_copy (hF : mFr y p s m args meth c) (hV : mV0 ad b0 D s) (hR : 12 ≤ R.frames ∧ 300 ≤ R.locals) {ix n2 f i j f2 i2 j2 : Nat} {sp dp n : Int32} (hd : cd y pc = some (.invokestatic ix)) (hk : mMet (mOwn y) ix = some (1000, n2))
    (ho : ((mSpanY (mSh h f i j) sp n && mSpanY (mSh h f2 i2 j2) dp n && mByteOk h.2.1 f i j (mix sp) (mix n) || mSpan (mSh h f i j) sp n && mSpan (mSh h f2 i2 j2) dp n) && mDeep st) = true) (kk : mW p l e R s m args below meth c D ad b0 y c0 s0 Z (h.1, (mcopy h.2.1 f i j (mix sp) f2 i2 j2 (mix dp) (mix n), h.2.2)) (pc + 3) lo st) :
    mW p l e R s m args below meth c D ad b0 y c0 s0 Z h pc lo (.inl n :: .inl dp :: .inr (.inl (some (f2, i2, j2))) :: .inl sp :: .inr (.inl (some (f, i, j))) :: st) := by
  intro H locs ls na h1 h2 h3 h4 h5
  have hdc := mDc hF.2.2.2.2.2.1.2 hd rfl rfl
  simp only [Bool.and_eq_true, Bool.or_eq_true] at ho
  obtain ⟨ho, ho3⟩ := ho
  have hdp := mDeep_ok (ad := ad) ho3
  obtain ⟨kd, ty, N1, N2, hkd, e1, a1, a3, a4, e2, a2, a5, hfits⟩ : ∃ kd ty N1 N2, (kd = 20 ∧ ty = FieldType.int ∨ kd = 22 ∧ ty = FieldType.byte) ∧ mSh h f i j = some (kd, N1) ∧ ¬ sp < 0 ∧ ¬ n < 0 ∧ sp.toNatClampNeg + n.toNatClampNeg ≤ N1 ∧ mSh h f2 i2 j2 = some (kd, N2) ∧ ¬ dp < 0 ∧ dp.toNatClampNeg + n.toNatClampNeg ≤ N2 ∧ ∀ q, q < n.toNatClampNeg → fits ty (.int (mMiO h f i j (sp.toNatClampNeg + q))) = true := by
    rcases ho with ⟨⟨ho1, ho2⟩, ho4⟩ | ⟨ho1, ho2⟩
    · obtain ⟨N1, e1, a1, a3, a4⟩ := mSpanY_spec ho1
      obtain ⟨N2, e2, a2, -, a5⟩ := mSpanY_spec ho2
      exact ⟨22, .byte, N1, N2, Or.inr ⟨rfl, rfl⟩, e1, a1, a3, a4, e2, a2, a5, fun q hq => mByteOk_at ho4 hq⟩
    · obtain ⟨N1, e1, a1, a3, a4⟩ := mSpan_spec ho1
      obtain ⟨N2, e2, a2, -, a5⟩ := mSpan_spec ho2
      exact ⟨20, .int, N1, N2, Or.inl ⟨rfl, rfl⟩, e1, a1, a3, a4, e2, a2, a5, fun _ _ => rfl⟩
  have pick : ∀ {g1 g2 g3 N : Nat}, mSh h g1 g2 g3 = some (kd, N) → mArr (ad g1 g2 g3) s H ty (N, .inl (mMiO h g1 g2 g3)) := by
    intro g1 g2 g3 N eg
    rcases hkd with ⟨rfl, rfl⟩ | ⟨rfl, rfl⟩
    · exact (h1.at eg).2.2.2.1 rfl
    · exact (h1.at eg).2.2.2.2.2.1 rfl
  obtain ⟨cA1, q1, q2, q3⟩ := pick e1
  obtain ⟨cA2, r1, r2, r3⟩ := pick e2
  have hf3 := mKind_f h1.1 e2 (by rcases hkd with ⟨rfl, -⟩ | ⟨rfl, -⟩ <;> decide)
  obtain ⟨a, ha, ha2⟩ := mAd_ge hV.1 h1 e2 hf3
  have nn : ∀ z : Int32, ¬ z < 0 → z.toInt = (z.toNatClampNeg : Int) := by
    intro z hz
    have hz0 : (0 : Int) ≤ z.toInt := by
      have := Int32.not_lt.mp hz
      simpa using Int32.le_iff_toInt_le.mp this
    show z.toInt = ((z.toInt.toNat : Nat) : Int)
    omega
  intro T hT X
  obtain ⟨-, k0, hk0, cm0, hkk0⟩ := q2 N1 (fun q => .int (mMiO h f i j q))
  obtain ⟨-, k1, hk1, cm1, hkk1⟩ := r2 N2 (fun q => .int (mMiO h f2 i2 j2 q))
  obtain ⟨vm', X', step⟩ := X.arraycopy hF.1 hF.2.2.2.1 (hF.2.2.2.2.1 _ (mMetB_ok hk rfl).1) (hF.2.2.2.2.1 _ gCpy_v) (hF.2.2.2.2.1 _ gCpy_t) (hF.2.2.2.2.1 _ gCpy_n) (src := ad f i j) (dst := ad f2 i2 j2) (cs := vp_cell cA1 (N1, .inl (mMiO h f i j))) (cd := vp_cell cA2 (N2, .inl (mMiO h f2 i2 j2))) (srcPos := sp) (destPos := dp) (n := n) (by rw [hT]; exact q1) (by rw [hT]; exact r1)
    (fun _ h => by cases h) (fun _ h => by cases h) (fun h => by cases h) (fun h => by cases h) hk0 hk1 hkk0 hkk1 (by rcases hkd with ⟨-, rfl⟩ | ⟨-, rfl⟩ <;> simp [refKind]) a1 a2 a3
    (by rw [nn sp a1, nn n a3]; show ¬ _ > ((arrV cA1 N1 (fun q => .int (mMiO h f i j q))).slots.size : Int); rw [arrV_size]; omega)
    (by rw [nn dp a2, nn n a3]; show ¬ _ > ((arrV cA2 N2 (fun q => .int (mMiO h f2 i2 j2 q))).slots.size : Int); rw [arrV_size]; omega)
    (fun vm₁ _ z hz => by
      have e : (vp_cell cA1 (N1, .inl (mMiO h f i j))).slots.getD (sp.toNatClampNeg + z) .null = .int (mMiO h f i j (sp.toNatClampNeg + z)) := by
        show (arrV cA1 N1 (fun q => .int (mMiO h f i j q))).slots.getD _ _ = _
        rw [Array.getD_eq_getD_getElem?, arrV_read _ _ (by omega)]
        rfl
      refine ⟨?_, ?_⟩
      · rw [e]
        exact hfits z hz
      · rw [e]
        exact trivial)
    (g := F0 m pc ls (.int n :: .int dp :: .ref (ad f2 i2 j2) :: .int sp :: .ref (ad f i j) :: List.map (rv ad) st)) rfl (by rw [hF.2.2.1]; exact h3.2.1) (rest := List.map (rv ad) st) rfl (by rw [hF.2.1]; exact hdc) (by omega) (by show 2 * 0 + _ + _ ≤ _; exact Nat.le_trans (Nat.add_le_add (Nat.add_le_add (Nat.le_refl (2 * 0)) hdp) (Nat.add_le_add (show nativeFrameWords "java/lang/System" "arraycopy" 5 ≤ 100 by decide +kernel) (Nat.le_refl 11))) (by omega))
  have ec : copied (vp_cell cA1 (N1, .inl (mMiO h f i j))) (vp_cell cA2 (N2, .inl (mMiO h f2 i2 j2))) sp dp n = vp_cell cA2 (N2, .inl (va_cpy (mMiO h f i j) (mMiO h f2 i2 j2) sp.toNatClampNeg dp.toNatClampNeg n.toNatClampNeg)) := va_copied (fun z => .int z) cA1 cA2 _ _ a4
  rw [ec] at X' step
  have hl : ad f2 i2 j2 < H.size := (Array.getElem?_eq_some_iff.mp r1).1
  have hheap : ((T.setVm vm').setCell (ad f2 i2 j2) (vp_cell cA2 (N2, .inl (va_cpy (mMiO h f i j) (mMiO h f2 i2 j2) sp.toNatClampNeg dp.toNatClampNeg n.toNatClampNeg)))).heap = H.setIfInBounds (ad f2 i2 j2) (vp_cell cA2 (N2, .inl (va_cpy (mMiO h f i j) (mMiO h f2 i2 j2) sp.toNatClampNeg dp.toNatClampNeg n.toNatClampNeg))) := by rw [← hT]; rfl
  have oq : ∀ q : Nat, q ≠ ad f2 i2 j2 → (H.setIfInBounds (ad f2 i2 j2) (vp_cell cA2 (N2, .inl (va_cpy (mMiO h f i j) (mMiO h f2 i2 j2) sp.toNatClampNeg dp.toNatClampNeg n.toNatClampNeg))))[q]? = H[q]? := fun q hq => by simp [Array.getElem?_setIfInBounds, Ne.symm hq]
  have hrel : mRel D ad b0 na (h.1, (mcopy h.2.1 f i j (mix sp) f2 i2 j2 (mix dp) (mix n), h.2.2)) s (H.setIfInBounds (ad f2 i2 j2) (vp_cell cA2 (N2, .inl (va_cpy (mMiO h f i j) (mMiO h f2 i2 j2) sp.toNatClampNeg dp.toNatClampNeg n.toNatClampNeg)))) := by
    refine mRel.upd hV.1 h1 e2 hf3 (by simp) oq rfl rfl (fun _ _ _ _ => rfl) (fun f' i' j' hne => mcopy_ne hne) fun _ => ?_
    have hnew : (H.setIfInBounds (ad f2 i2 j2) (vp_cell cA2 (N2, .inl (va_cpy (mMiO h f i j) (mMiO h f2 i2 j2) sp.toNatClampNeg dp.toNatClampNeg n.toNatClampNeg))))[ad f2 i2 j2]? = some (vp_cell cA2 (N2, .inl (mcopy h.2.1 f i j (mix sp) f2 i2 j2 (mix dp) (mix n) f2 i2 j2))) := by
      rw [mcopy_at]
      simp [Array.getElem?_setIfInBounds, hl]
      rfl
    rcases hkd with ⟨rfl, rfl⟩ | ⟨rfl, rfl⟩
    · exact ⟨fun z => absurd z (by decide), Or.inl (by decide), fun z => absurd z (by decide), fun _ => ⟨cA2, hnew, r2, r3⟩, fun z => absurd z (by decide), fun z => absurd z (by decide), fun z => absurd z (by decide), fun z => absurd z (by decide), fun z => absurd z (by decide)⟩
    · exact ⟨fun z => absurd z (by decide), Or.inl (by decide), fun z => absurd z (by decide), fun z => absurd z (by decide), fun z => absurd z (by decide), fun _ => ⟨cA2, hnew, r2, r3⟩, fun z => absurd z (by decide), fun z => absurd z (by decide), fun z => absurd z (by decide)⟩
  obtain ⟨t, b1, b2⟩ := kk _ _ ls na hrel ⟨by simp; exact h2.1, fun q g1 g2 => by
      rw [oq q (fun e => g2 (by rw [e]; show b0 ≤ _; omega))]
      exact h2.2.1 q g1 g2, fun q hq => by
      rcases List.mem_append.mp hq with h | h
      · exact h2.2.2 q h
      · obtain ⟨z, -, hz⟩ := List.mem_map.mp h
        rw [← hz]
        show b0 ≤ ad f2 i2 j2; omega⟩ h3 h4 h5 _ hheap X'
  exact ⟨t, step t b1, b2⟩
theorem mi_fill (hF : mFr y p s m args meth c) (hV : mV0 ad b0 D s) (hJ : mJdk l ad b0) (hR : 12 ≤ R.frames ∧ 300 ≤ R.locals) {cf sf : Nat} (hRc : cf - c0 ≤ R.cells ∧ sf - s0 ≤ R.slots) (hct : mCt h ≤ cf ∧ mSl h ≤ sf) {ix n2 f i j n : Nat} {v : Int32} (hd : cd y pc = some (.invokestatic ix)) (hk : mMet (mOwn y) ix = some (1001, n2))
    (e1 : mSh h f i j = some (20, n)) (hn : n < 2 ^ 31) (hst : mDeep st = true) (kk : mW p l e R s m args below meth c D ad b0 y c0 s0 Z (h.1, (mfill h.2.1 f i j n v, h.2.2)) (pc + 3) lo st) : mW p l e R s m args below meth c D ad b0 y c0 s0 Z h pc lo (.inl v :: .inr (.inl (some (f, i, j))) :: st) := by
  intro H locs ls na h1 h2 h3 h4 h5
  have hdc := mDc hF.2.2.2.2.2.1.2 hd rfl rfl
  have hdp := mDeep_ok (ad := ad) hst
  obtain ⟨cA, q1, q2, q3⟩ := (h1.at e1).2.2.2.1 rfl
  have hf3 := mKind_f h1.1 e1 ⟨by omega, by omega⟩
  obtain ⟨a, ha, ha2⟩ := mAd_ge hV.1 h1 e1 hf3
  obtain ⟨hx, hb, hml, hown, hts, -⟩ := hF
  have hM := hJ.2.2.1 (ad f i j) cA n (mMiO h f i j) v hn
  have hg1 : GoodIn gTbl (va_wsS (mCN (mOwn y)) ix yFil (Cond.code yFil bFil 4 none :: gTbl)) := gGood fun w hw => by
    unfold va_wsS at hw
    simp only [List.cons_append, List.nil_append, List.mem_cons] at hw
    rcases hw with rfl | rfl | rfl | rfl | hw
    · exact (mMetB_ok hk rfl).1
    · exact gFil_t
    · exact gFil_n
    · exact gFil_c
    · exact hw
  refine W.callKL (q := ad f i j) (W.runS (As := [.ref (ad f i j), .int v]) (rest := List.map (rv ad) st) ⟨hx, hb, hml, hown, hts⟩ hM (va_cwS 2 hts hg1 rfl rfl rfl (by decide +kernel) ⟨by show 1 + 1 ≤ _; omega, by show 8 + (4 + 11) + 50 ≤ _; omega⟩) ⟨fun a U g mk q => by obtain ⟨z0, z1, z2, z3⟩ := q; exact ⟨z0, z1, z2, z3⟩, fun U hU hW => ⟨rfl, by rw [hU]; exact q1, arrOfT_moved hW.alike q2, q3.moved hW.alike⟩⟩ rfl rfl h3.2.1 rfl (lv_room hdp) hdc ⟨by omega, by omega⟩) fun H1 L hL z e3 oq => ?_
  refine kk H1 _ ls na ?_ ⟨by rw [z]; exact h2.1, fun q g1 g2 => (oq q (fun e => g2 (by rw [e]; show b0 ≤ _; omega))).trans (h2.2.1 q g1 g2), fun q hq => by
    rcases List.mem_append.mp hq with h | h
    · exact h2.2.2 q h
    · rw [hL q h]; show b0 ≤ _; omega⟩ h3 h4 h5
  refine mRel.upd hV.1 h1 e1 hf3 z oq rfl rfl (fun _ _ _ _ => rfl) (fun f' i' j' hne => mfill_ne hne) fun _ => ?_
  refine ⟨fun z => by omega, by omega, fun z => by omega, fun _ => ⟨cA, e3.trans (congrArg some ?_), q2, q3⟩, fun z => by omega, fun z => by omega, fun z => by omega, fun z => by omega, fun z => by omega⟩
  rw [vp_cell_i, vp_cell_i]
  exact mArrV_ext (fun q hq => by
    show Value.int v = Value.int (mfill h.2.1 f i j n v f i j q)
    rw [mfill_at hq])
/-- a method of String, on a text of the pools -/
theorem mStB_ok : ∀ y, y < 246 → (mStB y = 4 → mNm y = yLen) ∧ (mStB y = 5 → mNm y = yCha) ∧ (mStB y = 11 → mNm y = yCod) ∧ (mStB y = 12 → mNm y = yGby) := by decide +kernel
theorem mTxO_k {k : Nat} (h : 0 < (mTxt k).length) : mTxO k = true := by
  rcases Nat.lt_or_ge k 25 with z | z
  · have key : ∀ k, k < 25 → 0 < (mTxt k).length → mTxO k = true := by decide +kernel
    exact key k z h
  · have : mTxt k = [] := by
      unfold mTxt
      rw [List.getD_eq_getElem?_getD, List.getElem?_eq_none (by exact z)]
      rfl
    rw [this] at h
    cases h
theorem mi_len (hF : mFr y p s m args meth c) (hE : mEv ad b0 D s) (hJ : mJdk l ad b0) (hR : 12 ≤ R.frames ∧ 300 ≤ R.locals) {cf sf : Nat} (hRc : cf - c0 ≤ R.cells ∧ sf - s0 ≤ R.slots) (hct : mCt h ≤ cf ∧ mSl h ≤ sf) {ix k : Nat} (hd : cd y pc = some (.invokevirtual ix)) (hk : Jvm.Cond.methodLink (mCN (mOwn y)) ix yLen ∈ gTbl)
    (hn : mTxO k = true) (hst : mDeep st = true) (kk : mW p l e R s m args below meth c D ad b0 y c0 s0 Z h (pc + 3) lo (mI (Int32.ofNat (mTxt k).length) :: st)) : mW p l e R s m args below meth c D ad b0 y c0 s0 Z h pc lo (mR 3 3 k :: st) := by
  intro H locs ls na h1 h2 h3 h4 h5
  have hdc := mDc hF.2.2.2.2.2.1.2 hd rfl rfl
  have hdp := mDeep_ok (ad := ad) hst
  obtain ⟨hx, hb, hml, hown, hts, -⟩ := hF
  have hg1 : GoodIn gTbl (wsV (mCN (mOwn y)) ix yLen.cls yLen (Cond.code yLen bLen 1 (some .int) :: gTbl)) := gGood fun w hw => by
    unfold wsV at hw
    simp only [List.cons_append, List.nil_append, List.mem_cons] at hw
    rcases hw with rfl | rfl | rfl | rfl | rfl | hw
    · exact hk
    · exact gLen_i
    · exact gLen_s
    · exact gLen_n
    · exact gLen_c
    · exact hw
  have hO := hE.2.1.kept h2.1 h2.2.1
  obtain ⟨aV, ⟨cell, g1, g2, g3, -⟩, -⟩ := hO.2.2.2.2.2.2.2.2.2 k hn
  exact W.callR (W.runV (C := yLen.cls) (b := ad 3 3 k) (As := []) (rest := List.map (rv ad) st) ⟨hx, hb, hml, hown, hts⟩ (hJ.1 k hn) (cwV 0 hts hg1 rfl rfl rfl (by decide +kernel) ⟨by show 4 + 1 ≤ _; omega, by show 8 + (1 + 11) + 100 ≤ _; omega⟩) ⟨fun a U g mk q => ⟨q.1, q.2⟩, ⟨cell, g1, g2, g3⟩, fun U hU hW => ⟨rfl, by show mOldW ad b0 U U.heap; rw [hU]; exact mOldW.moved hW.alike hO⟩⟩ rfl rfl h3.2.1 rfl (lv_room hdp) hdc ⟨by omega, by omega⟩) (kk H locs ls na h1 h2 h3 h4 h5)
theorem mi_cha (hF : mFr y p s m args meth c) (hE : mEv ad b0 D s) (hJ : mJdk l ad b0) (hR : 12 ≤ R.frames ∧ 300 ≤ R.locals) {cf sf : Nat} (hRc : cf - c0 ≤ R.cells ∧ sf - s0 ≤ R.slots) (hct : mCt h ≤ cf ∧ mSl h ≤ sf) {ix k : Nat} {x : Int32} (hd : cd y pc = some (.invokevirtual ix)) (hk : Jvm.Cond.methodLink (mCN (mOwn y)) ix yCha ∈ gTbl)
    (hn : mIn x (mTxt k).length = true) (hst : mDeep st = true) (kk : mW p l e R s m args below meth c D ad b0 y c0 s0 Z h (pc + 3) lo (mI ((mTxt k).getD (mix x) 0) :: st)) : mW p l e R s m args below meth c D ad b0 y c0 s0 Z h pc lo (.inl x :: mR 3 3 k :: st) := by
  intro H locs ls na h1 h2 h3 h4 h5
  have hdc := mDc hF.2.2.2.2.2.1.2 hd rfl rfl
  have hdp := mDeep_ok (ad := ad) hst
  obtain ⟨hx, hb, hml, hown, hts, -⟩ := hF
  have hg1 : GoodIn gTbl (wsV (mCN (mOwn y)) ix yCha.cls yCha (Cond.code yCha bCha 2 (some .char) :: gTbl)) := gGood fun w hw => by
    unfold wsV at hw
    simp only [List.cons_append, List.nil_append, List.mem_cons] at hw
    rcases hw with rfl | rfl | rfl | rfl | rfl | hw
    · exact hk
    · exact gCha_i
    · exact gCha_s
    · exact gCha_n
    · exact gCha_c
    · exact hw
  have hO := hE.2.1.kept h2.1 h2.2.1
  have hn0 : 0 < (mTxt k).length := by
    have := mIn_spec hn
    rcases Nat.eq_zero_or_pos (mTxt k).length with z | z
    · rw [z] at this
      exact absurd (Or.inr (Nat.zero_le _)) this
    · exact z
  obtain ⟨aV, ⟨cell, g1, g2, g3, -⟩, -⟩ := hO.2.2.2.2.2.2.2.2.2 k (mTxO_k hn0)
  exact W.callR (W.runV (C := yCha.cls) (b := ad 3 3 k) (As := [.int x]) (rest := List.map (rv ad) st) ⟨hx, hb, hml, hown, hts⟩ (hJ.2.1 k x (mTxO_k hn0) hn) (cwV 1 hts hg1 rfl rfl rfl (by decide +kernel) ⟨by show 6 + 1 ≤ _; omega, by show 8 + (2 + 11) + 150 ≤ _; omega⟩) ⟨fun a U g mk q => ⟨q.1, q.2⟩, ⟨cell, g1, g2, g3⟩, fun U hU hW => ⟨rfl, by show mOldW ad b0 U U.heap; rw [hU]; exact mOldW.moved hW.alike hO⟩⟩ rfl rfl h3.2.1 rfl (lv_room hdp) hdc ⟨by omega, by omega⟩) (kk H locs ls na h1 h2 h3 h4 h5)
theorem mi_cod (hF : mFr y p s m args meth c) (hE : mEv ad b0 D s) (hJ : mJdk l ad b0) (hR : 12 ≤ R.frames ∧ 300 ≤ R.locals) {cf sf : Nat} (hRc : cf - c0 ≤ R.cells ∧ sf - s0 ≤ R.slots) (hct : mCt h ≤ cf ∧ mSl h ≤ sf) {ix k : Nat} (hd : cd y pc = some (.invokevirtual ix)) (hk : Jvm.Cond.methodLink (mCN (mOwn y)) ix yCod ∈ gTbl)
    (hn : mTxO k = true) (hst : mDeep st = true) (kk : mW p l e R s m args below meth c D ad b0 y c0 s0 Z h (pc + 3) lo (mI 0 :: st)) : mW p l e R s m args below meth c D ad b0 y c0 s0 Z h pc lo (mR 3 3 k :: st) := by
  intro H locs ls na h1 h2 h3 h4 h5
  have hdc := mDc hF.2.2.2.2.2.1.2 hd rfl rfl
  have hdp := mDeep_ok (ad := ad) hst
  obtain ⟨hx, hb, hml, hown, hts, -⟩ := hF
  have hg1 : GoodIn gTbl (wsV (mCN (mOwn y)) ix yCod.cls yCod (Cond.code yCod bCod 1 (some .byte) :: gTbl)) := gGood fun w hw => by
    unfold wsV at hw
    simp only [List.cons_append, List.nil_append, List.mem_cons] at hw
    rcases hw with rfl | rfl | rfl | rfl | rfl | hw
    · exact hk
    · exact gCod_i
    · exact gCod_s
    · exact gCod_n
    · exact gCod_c
    · exact hw
  have hO := hE.2.1.kept h2.1 h2.2.1
  obtain ⟨aV, ⟨cell, g1, g2, g3, -⟩, -⟩ := hO.2.2.2.2.2.2.2.2.2 k hn
  exact W.callR (W.runV (C := yCod.cls) (b := ad 3 3 k) (As := []) (rest := List.map (rv ad) st) ⟨hx, hb, hml, hown, hts⟩ (hJ.2.2.2.1 k hn) (cwV 0 hts hg1 rfl rfl rfl (by decide +kernel) ⟨by show 4 + 1 ≤ _; omega, by show 8 + (1 + 11) + 100 ≤ _; omega⟩) ⟨fun a U g mk q => ⟨q.1, q.2⟩, ⟨cell, g1, g2, g3⟩, fun U hU hW => ⟨rfl, by show mOldW ad b0 U U.heap; rw [hU]; exact mOldW.moved hW.alike hO⟩⟩ rfl rfl h3.2.1 rfl (lv_room hdp) hdc ⟨by omega, by omega⟩) (kk H locs ls na h1 h2 h3 h4 h5)
theorem mSpanB_spec {o : Option (Nat × Nat)} {sp : Int32} {n : Nat} (h : mSpanB o sp n = true) : ∃ N, o = some (22, N) ∧ ¬ sp < 0 ∧ mix sp + n ≤ N := by
  unfold mSpanB at h
  split at h
  · rename_i N
    simp only [Bool.and_eq_true, Bool.not_eq_true', decide_eq_false_iff_not] at h
    exact ⟨N, rfl, h.1, Nat.le_of_ble_eq_true h.2⟩
  · cases h
theorem mput_ne {mi : mMi} {k f i j dp : Nat} {f' i' j' : Nat} (h : ¬ (f' = f ∧ i' = i ∧ j' = j)) : mput mi k f i j dp f' i' j' = mi f' i' j' := by
  funext q
  unfold mput
  rw [mBeq3 h]
  rfl
theorem mput_at {mi : mMi} {k f i j dp q : Nat} : mput mi k f i j dp f i j q = if dp ≤ q ∧ q < dp + (mTxt k).length then (mTxt k).getD (q - dp) 0 else mi f i j q := by
  unfold mput
  rw [mBeqT, Bool.true_and]
  by_cases h : dp ≤ q ∧ q < dp + (mTxt k).length
  · rw [if_pos h, Nat.ble_eq_true_of_le h.1, show Nat.blt q (dp + (mTxt k).length) = true from Nat.ble_eq_true_of_le h.2]
    rfl
  · rw [if_neg h]
    have : (Nat.ble dp q && Nat.blt q (dp + (mTxt k).length)) = false := by
      rw [Bool.eq_false_iff]
      intro e
      rw [Bool.and_eq_true] at e
      exact h ⟨Nat.le_of_ble_eq_true e.1, Nat.le_of_ble_eq_true e.2⟩
    rw [this]
theorem mi_gby (hF : mFr y p s m args meth c) (hE : mEv ad b0 D s) (hJ : mJdk l ad b0) (hR : 12 ≤ R.frames ∧ 300 ≤ R.locals) {cf sf : Nat} (hRc : cf - c0 ≤ R.cells ∧ sf - s0 ≤ R.slots) (hct : mCt h ≤ cf ∧ mSl h ≤ sf) {ix k f2 i2 j2 : Nat} {dp : Int32} (hd : cd y pc = some (.invokevirtual ix)) (hk : Jvm.Cond.methodLink (mCN (mOwn y)) ix yGby ∈ gTbl)
    (hn : mTxO k = true) (ho : mSpanB (mSh h f2 i2 j2) dp (mTxt k).length = true) (hst : mDeep st = true) (kk : mW p l e R s m args below meth c D ad b0 y c0 s0 Z (h.1, (mput h.2.1 k f2 i2 j2 (mix dp), h.2.2)) (pc + 3) lo st) : mW p l e R s m args below meth c D ad b0 y c0 s0 Z h pc lo (.inl 0 :: .inl dp :: .inr (.inl (some (f2, i2, j2))) :: mR 3 3 k :: st) := by
  intro H locs ls na h1 h2 h3 h4 h5
  have hdc := mDc hF.2.2.2.2.2.1.2 hd rfl rfl
  have hdp := mDeep_ok (ad := ad) hst
  obtain ⟨N2, e1, a2, a5⟩ := mSpanB_spec ho
  obtain ⟨cA, q1, q2, q3⟩ := (h1.at e1).2.2.2.2.2.1 rfl
  have hf3 := mKind_f h1.1 e1 ⟨by omega, by omega⟩
  obtain ⟨a, ha, ha2⟩ := mAd_ge hE.1.1 h1 e1 hf3
  obtain ⟨hx, hb, hml, hown, hts, -⟩ := hF
  have hM := hJ.2.2.2.2.1 k (ad f2 i2 j2) cA N2 (mMiO h f2 i2 j2) dp hn (by omega) (by rw [← e1]; exact ho)
  have hg1 : GoodIn gTbl (wsV (mCN (mOwn y)) ix yGby.cls yGby (Cond.code yGby bGby 4 none :: gTbl)) := gGood fun w hw => by
    unfold wsV at hw
    simp only [List.cons_append, List.nil_append, List.mem_cons] at hw
    rcases hw with rfl | rfl | rfl | rfl | rfl | hw
    · exact hk
    · exact gGby_i
    · exact gGby_s
    · exact gGby_n
    · exact gGby_c
    · exact hw
  have hO := hE.2.1.kept h2.1 h2.2.1
  obtain ⟨aV, ⟨cell, g1, g2, g3, -⟩, -⟩ := hO.2.2.2.2.2.2.2.2.2 k hn
  refine W.callKL (q := ad f2 i2 j2) (W.runV (C := yGby.cls) (b := ad 3 3 k) (As := [.ref (ad f2 i2 j2), .int dp, .int 0]) (rest := List.map (rv ad) st) ⟨hx, hb, hml, hown, hts⟩ hM (cwV 3 hts hg1 rfl rfl rfl (by decide +kernel) ⟨by show 6 + 1 ≤ _; omega, by show 8 + (4 + 11) + 250 ≤ _; omega⟩) ⟨fun a U g mk q => ⟨q.1, q.2⟩, ⟨cell, g1, g2, g3⟩, fun U hU hW => ⟨rfl, by show mOldW ad b0 U U.heap; rw [hU]; exact mOldW.moved hW.alike hO, by rw [hU]; exact q1, arrOfT_moved hW.alike q2, q3.moved hW.alike⟩⟩ rfl rfl h3.2.1 rfl (lv_room hdp) hdc ⟨by omega, by omega⟩) fun H1 L hL z e3 oq => ?_
  refine kk H1 _ ls na ?_ ⟨by rw [z]; exact h2.1, fun q g1 g2 => (oq q (fun e => g2 (by rw [e]; show b0 ≤ _; omega))).trans (h2.2.1 q g1 g2), fun q hq => by
    rcases List.mem_append.mp hq with h | h
    · exact h2.2.2 q h
    · rw [hL q h]; show b0 ≤ _; omega⟩ h3 h4 h5
  refine mRel.upd hE.1.1 h1 e1 hf3 z oq rfl rfl (fun _ _ _ _ => rfl) (fun f' i' j' hne => mput_ne hne) fun _ => ?_
  refine ⟨fun z => by omega, by omega, fun z => by omega, fun z => by omega, fun z => by omega, fun _ => ⟨cA, e3.trans (congrArg some ?_), q2, q3⟩, fun z => by omega, fun z => by omega, fun z => by omega⟩
  rw [vp_cell_i, vp_cell_i]
  exact mArrV_ext (fun q hq => congrArg Value.int mput_at.symm)
end MJ
