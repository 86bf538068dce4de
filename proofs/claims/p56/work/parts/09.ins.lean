/-! THE SMALL MACHINE'S INSTRUCTIONS ARE THE MACHINE'S: locals, and what holds of a frame. -/
def mLenI (i : Instr) : Nat := match i with
  | .bipush _ => 2
  | .iload _ => 2
  | .istore _ => 2
  | .aload _ => 2
  | .astore _ => 2
  | .fload _ => 2
  | .dload _ => 2
  | .fstore _ => 2
  | .dstore _ => 2
  | .ldc _ => 2
  | .newarray _ => 2
  | .sipush _ => 3
  | .iinc _ _ => 3
  | .goto _ => 3
  | .ifCond _ _ => 3
  | .if_icmp _ _ => 3
  | .getfield _ => 3
  | .putfield _ => 3
  | .getstatic _ => 3
  | .invokevirtual _ => 3
  | .invokestatic _ => 3
  | .invokespecial _ => 3
  | .new _ => 3
  | .anewarray _ => 3
  | .ldc_w _ => 3
  | .ldc2_w _ => 3
  | .ifnonnull _ => 3
  | .checkcast _ => 3
  | .multianewarray _ _ => 4
  | _ => 1
def mSwi (i : Instr) : Bool := match i with
  | .tableswitch _ _ _ _ => true
  | _ => false
def mDecH (y : Nat) : Prop := ∀ (pc : Nat) (ins : Instr), cd y pc = some ins → ∃ n, decode (mByt y) pc = .ok (ins, n) ∧ (n = mLenI ins ∨ mSwi ins = true)
def mLv (ad : mAd) (lo : mLo) : List (Nat × Value) := (List.range lo.length).filterMap fun i => match lo[i]? with
  | some (some v) => some (i, rv ad v)
  | _ => none
theorem mem_mLv {ad : mAd} {lo : mLo} {q : Nat × Value} : q ∈ mLv ad lo ↔ ∃ v, lo[q.1]? = some (some v) ∧ q.2 = rv ad v := by
  unfold mLv
  rw [List.mem_filterMap]
  constructor
  · rintro ⟨i, hi, h⟩
    split at h
    · rename_i v hv
      cases h
      exact ⟨v, hv, rfl⟩
    · cases h
  · rintro ⟨v, hv, hq⟩
    have hlt : q.1 < lo.length := (List.getElem?_eq_some_iff.mp hv).1
    refine ⟨q.1, List.mem_range.mpr hlt, ?_⟩
    rw [hv]
    show some (q.1, rv ad v) = some q
    rw [← hq]
def mLoc (ad : mAd) (nL : Nat) (lo : mLo) (ls : Array Slot) : Prop := lo.length = nL ∧ lv_has ls nL (mLv ad lo)
theorem mLoc.at {ad : mAd} {nL : Nat} {lo : mLo} {ls : Array Slot} (h : mLoc ad nL lo ls) {i : Nat} {v : mV} (e : lo[i]? = some (some v)) : ls[i]? = some (.val (rv ad v)) :=
  h.2.2.2 (i, rv ad v) (mem_mLv.mpr ⟨v, e, rfl⟩)
theorem mLoc.put1 {ad : mAd} {nL : Nat} {lo : mLo} {ls ls' : Array Slot} {i : Nat} {v : mV} (h : mLoc ad nL lo ls) (h' : lv_has ls' nL ((i, rv ad v) :: (mLv ad lo).filter (fun q => !(q.1 == i) && !(q.1 + 1 == i && q.2.category == 2)))) (ho : mOkSt lo i = true) : mLoc ad nL (mPut lo i v) ls' := by
  refine ⟨by unfold mPut; rw [List.length_set]; exact h.1, h'.1, h'.2.1, fun q hq => h'.2.2 q ?_⟩
  obtain ⟨v', e, e2⟩ := mem_mLv.mp hq
  unfold mPut at e
  by_cases hi : i = q.1
  · subst hi
    rw [List.getElem?_set_self' ] at e
    obtain ⟨z, -, ez⟩ := Option.map_eq_some_iff.mp e
    cases ez
    rw [← e2]
    exact List.mem_cons_self
  · rw [List.getElem?_set_ne hi] at e
    refine List.mem_cons_of_mem _ (List.mem_filter.mpr ⟨mem_mLv.mpr ⟨v', e, e2⟩, ?_⟩)
    have a1 : (q.1 == i) = false := by rw [beq_eq_false_iff_ne]; exact fun z => hi z.symm
    rw [a1]
    cases hk : (q.1 + 1 == i && q.2.category == 2) with
    | false => rfl
    | true =>
      exfalso
      rw [Bool.and_eq_true, beq_iff_eq, beq_iff_eq] at hk
      obtain ⟨k1, k2⟩ := hk
      subst k1
      rw [e2, rv_cat] at k2
      replace ho : (!(mCat2 lo[q.1]?)) = true := ho
      rw [e] at ho
      unfold mCat2 at ho
      dsimp only at ho
      rw [k2] at ho
      cases ho
theorem mLoc.put2 {ad : mAd} {nL : Nat} {lo : mLo} {ls ls' : Array Slot} {i : Nat} {v : mV} (h : mLoc ad nL lo ls) (h' : lv_has ls' nL ((i, rv ad v) :: (mLv ad lo).filter (fun q => !(q.1 == i) && (!(q.1 == i + 1) && !(q.1 + 1 == i && q.2.category == 2))))) (ho : mOkSt lo i = true) : mLoc ad nL (mPut2 lo i v) ls' := by
  refine ⟨by unfold mPut2; rw [List.length_set, List.length_set]; exact h.1, h'.1, h'.2.1, fun q hq => h'.2.2 q ?_⟩
  obtain ⟨v', e, e2⟩ := mem_mLv.mp hq
  unfold mPut2 at e
  by_cases hj : i + 1 = q.1
  · rw [← hj, List.getElem?_set_self'] at e
    obtain ⟨z, -, ez⟩ := Option.map_eq_some_iff.mp e
    cases ez
  rw [List.getElem?_set_ne hj] at e
  by_cases hi : i = q.1
  · subst hi
    rw [List.getElem?_set_self' ] at e
    obtain ⟨z, -, ez⟩ := Option.map_eq_some_iff.mp e
    cases ez
    rw [← e2]
    exact List.mem_cons_self
  · rw [List.getElem?_set_ne hi] at e
    refine List.mem_cons_of_mem _ (List.mem_filter.mpr ⟨mem_mLv.mpr ⟨v', e, e2⟩, ?_⟩)
    have a1 : (q.1 == i) = false := by rw [beq_eq_false_iff_ne]; exact fun z => hi z.symm
    have a2 : (q.1 == i + 1) = false := by rw [beq_eq_false_iff_ne]; exact fun z => hj z.symm
    rw [a1, a2]
    cases hk : (q.1 + 1 == i && q.2.category == 2) with
    | false => rfl
    | true =>
      exfalso
      rw [Bool.and_eq_true, beq_iff_eq, beq_iff_eq] at hk
      obtain ⟨k1, k2⟩ := hk
      subst k1
      rw [e2, rv_cat] at k2
      replace ho : (!(mCat2 lo[q.1]?)) = true := ho
      rw [e] at ho
      unfold mCat2 at ho
      dsimp only at ho
      rw [k2] at ho
      cases ho
/-- a handler's first store: nothing is known of the place any more -/
theorem mLoc.drop1 {ad : mAd} {nL : Nat} {lo : mLo} {ls ls' : Array Slot} {i : Nat} {x : Value} (h : mLoc ad nL lo ls) (h' : lv_has ls' nL ((i, x) :: (mLv ad lo).filter (fun q => !(q.1 == i) && !(q.1 + 1 == i && q.2.category == 2)))) (ho : mOkSt lo i = true) : mLoc ad nL (lo.set i none) ls' := by
  refine ⟨by rw [List.length_set]; exact h.1, h'.1, h'.2.1, fun q hq => h'.2.2 q ?_⟩
  obtain ⟨v', e, e2⟩ := mem_mLv.mp hq
  by_cases hi : i = q.1
  · subst hi
    rw [List.getElem?_set_self' ] at e
    obtain ⟨z, -, ez⟩ := Option.map_eq_some_iff.mp e
    cases ez
  · rw [List.getElem?_set_ne hi] at e
    refine List.mem_cons_of_mem _ (List.mem_filter.mpr ⟨mem_mLv.mpr ⟨v', e, e2⟩, ?_⟩)
    have a1 : (q.1 == i) = false := by rw [beq_eq_false_iff_ne]; exact fun z => hi z.symm
    rw [a1]
    cases hk : (q.1 + 1 == i && q.2.category == 2) with
    | false => rfl
    | true =>
      exfalso
      rw [Bool.and_eq_true, beq_iff_eq, beq_iff_eq] at hk
      obtain ⟨k1, k2⟩ := hk
      subst k1
      rw [e2, rv_cat] at k2
      replace ho : (!(mCat2 lo[q.1]?)) = true := ho
      rw [e] at ho
      unfold mCat2 at ho
      dsimp only at ho
      rw [k2] at ho
      cases ho
/-- a frame of the method y -/
def mFr (y : Nat) (p : Program) (s : State) (m : MethodId) (args : Array Value) (meth : Method) (c : Code) : Prop :=
  p.tables.exec = Jvm.exec ∧ c.code = mByt y ∧ c.maxLocals = mMaxL y ∧ s.vm.findClass (mCN (mOwn y)) = some m.cls ∧ (∀ w ∈ gTbl, w.before args s = true) ∧ (y < 246 ∧ mDecH y) ∧ (mInit y = true → meth.name = "<init>")
/-- the machine, at a frame of y, over the memory h: c0, s0 what was counted at the method's start -/
def mW (p : Program) (l : Launch) (e : Env) (R : Room) (s : State) (m : MethodId) (args : Array Value) (below : List Frame) (meth : Method) (c : Code) (D : va_G) (ad : mAd) (b0 : Nat) (y c0 s0 : Nat) (Z : State → Prop) (h : mH) (pc : Nat) (lo : mLo) (st : mSt) : Prop :=
  ∀ (H : Heap) (locs : List Loc) (ls : Array Slot) (na : Nat), mRel D ad b0 na h s H → va_S (fun q => b0 ≤ q) s.heap H locs → mLoc ad (mMaxL y) lo ls → c0 ≤ mCt h → s0 ≤ mSl h →
    W p l e R s m args below meth c H locs (mCt h - c0) (mSl h - s0) Z (F0 m pc ls (st.map (rv ad)))
theorem mDc {y pc n : Nat} {ins : Instr} (hy : mDecH y) (hc : cd y pc = some ins) (hs : mSwi ins = false) (hn : mLenI ins = n) : decode (mByt y) pc = .ok (ins, n) := by
  obtain ⟨n', h1, h2⟩ := hy _ _ hc
  rcases h2 with h2 | h2
  · rw [h1, h2, hn]
  · rw [hs] at h2; cases h2
theorem mTgt_ok {pc : Nat} {off : Int} (h : mFw pc off = true) : (pc : Int) + off = (mTgt pc off : Int) := by
  unfold mTgt
  unfold mFw at h
  cases off with
  | ofNat n =>
    rw [Int.ofNat_eq_natCast]
    omega
  | negSucc n =>
    have := Nat.le_of_ble_eq_true h
    omega
section MI
variable {p : Program} {l : Launch} {e : Env} {R : Room} {s : State} {m : MethodId} {args : Array Value} {below : List Frame} {meth : Method} {c : Code} {D : va_G} {ad : mAd} {b0 y c0 s0 : Nat} {Z : State → Prop} {h : mH} {pc : Nat} {lo : mLo} {st : mSt}
theorem mi_aload_n (hF : mFr y p s m args meth c) {i : Fin 4} {r : mRf} (hd : cd y pc = some (.aload_n i)) (hl : lo[(i : Nat)]? = some (some (.inr (.inl (some r))))) (k : mW p l e R s m args below meth c D ad b0 y c0 s0 Z h (pc + 1) lo (.inr (.inl (some r)) :: st)) : mW p l e R s m args below meth c D ad b0 y c0 s0 Z h pc lo st := by
  intro H locs ls na h1 h2 h3 h4 h5
  have hdc := mDc hF.2.2.2.2.2.1.2 hd rfl rfl
  obtain ⟨f, i2, j⟩ := r
  exact lv_aload_n hF.1 hF.2.1 hdc rfl (h3.at hl) (k H locs ls na h1 h2 h3 h4 h5)
theorem mi_aload (hF : mFr y p s m args meth c) {i : Nat} {r : mRf} (hd : cd y pc = some (.aload i)) (hl : lo[i]? = some (some (.inr (.inl (some r))))) (k : mW p l e R s m args below meth c D ad b0 y c0 s0 Z h (pc + 2) lo (.inr (.inl (some r)) :: st)) : mW p l e R s m args below meth c D ad b0 y c0 s0 Z h pc lo st := by
  intro H locs ls na h1 h2 h3 h4 h5
  have hdc := mDc hF.2.2.2.2.2.1.2 hd rfl rfl
  obtain ⟨f, i2, j⟩ := r
  exact lv_aload hF.1 hF.2.1 hdc (h3.at hl) (k H locs ls na h1 h2 h3 h4 h5)
theorem mi_iload_n (hF : mFr y p s m args meth c) {i : Fin 4} {x : Int32} (hd : cd y pc = some (.iload_n i)) (hl : lo[(i : Nat)]? = some (some (.inl x))) (k : mW p l e R s m args below meth c D ad b0 y c0 s0 Z h (pc + 1) lo (.inl x :: st)) : mW p l e R s m args below meth c D ad b0 y c0 s0 Z h pc lo st := by
  intro H locs ls na h1 h2 h3 h4 h5
  have hdc := mDc hF.2.2.2.2.2.1.2 hd rfl rfl
  exact lv_iload_n hF.1 hF.2.1 hdc rfl (h3.at hl) (k H locs ls na h1 h2 h3 h4 h5)
theorem mi_iload (hF : mFr y p s m args meth c) {i : Nat} {x : Int32} (hd : cd y pc = some (.iload i)) (hl : lo[i]? = some (some (.inl x))) (k : mW p l e R s m args below meth c D ad b0 y c0 s0 Z h (pc + 2) lo (.inl x :: st)) : mW p l e R s m args below meth c D ad b0 y c0 s0 Z h pc lo st := by
  intro H locs ls na h1 h2 h3 h4 h5
  have hdc := mDc hF.2.2.2.2.2.1.2 hd rfl rfl
  exact lv_iload hF.1 hF.2.1 hdc (h3.at hl) (k H locs ls na h1 h2 h3 h4 h5)
theorem mi_fload (hF : mFr y p s m args meth c) {i : Nat} {x : UInt32} (hd : cd y pc = some (.fload i)) (hl : lo[i]? = some (some (mF x))) (k : mW p l e R s m args below meth c D ad b0 y c0 s0 Z h (pc + 2) lo (mF x :: st)) : mW p l e R s m args below meth c D ad b0 y c0 s0 Z h pc lo st := by
  intro H locs ls na h1 h2 h3 h4 h5
  have hdc := mDc hF.2.2.2.2.2.1.2 hd rfl rfl
  exact lv_fload hF.1 hF.2.1 hdc (h3.at hl) (k H locs ls na h1 h2 h3 h4 h5)
theorem mi_dload (hF : mFr y p s m args meth c) {i : Nat} {x : UInt64} (hd : cd y pc = some (.dload i)) (hl : lo[i]? = some (some (mD x))) (k : mW p l e R s m args below meth c D ad b0 y c0 s0 Z h (pc + 2) lo (mD x :: st)) : mW p l e R s m args below meth c D ad b0 y c0 s0 Z h pc lo st := by
  intro H locs ls na h1 h2 h3 h4 h5
  have hdc := mDc hF.2.2.2.2.2.1.2 hd rfl rfl
  exact lv_dload hF.1 hF.2.1 hdc (h3.at hl) (k H locs ls na h1 h2 h3 h4 h5)
theorem mi_istore_n (hF : mFr y p s m args meth c) {i : Fin 4} {x : Int32} (hd : cd y pc = some (.istore_n i)) (hl : (Nat.blt (i : Nat) lo.length && mOkSt lo (i : Nat)) = true) (k : mW p l e R s m args below meth c D ad b0 y c0 s0 Z h (pc + 1) (mPut lo (i : Nat) (.inl x)) st) : mW p l e R s m args below meth c D ad b0 y c0 s0 Z h pc lo (.inl x :: st) := by
  intro H locs ls na h1 h2 h3 h4 h5
  have hdc := mDc hF.2.2.2.2.2.1.2 hd rfl rfl
  rw [Bool.and_eq_true] at hl
  exact lv_istore_n hF.1 hF.2.1 hdc rfl h3.2 (by rw [← h3.1]; exact Nat.le_of_ble_eq_true hl.1) rfl (fun ls2 hls => k H locs ls2 na h1 h2 (h3.put1 hls hl.2) h4 h5)
theorem mi_istore (hF : mFr y p s m args meth c) {i : Nat} {x : Int32} (hd : cd y pc = some (.istore i)) (hl : (Nat.blt i lo.length && mOkSt lo i) = true) (k : mW p l e R s m args below meth c D ad b0 y c0 s0 Z h (pc + 2) (mPut lo i (.inl x)) st) : mW p l e R s m args below meth c D ad b0 y c0 s0 Z h pc lo (.inl x :: st) := by
  intro H locs ls na h1 h2 h3 h4 h5
  have hdc := mDc hF.2.2.2.2.2.1.2 hd rfl rfl
  rw [Bool.and_eq_true] at hl
  exact lv_istore hF.1 hF.2.1 hdc h3.2 (by rw [← h3.1]; exact Nat.le_of_ble_eq_true hl.1) rfl (fun ls2 hls => k H locs ls2 na h1 h2 (h3.put1 hls hl.2) h4 h5)
theorem mi_astore_n (hF : mFr y p s m args meth c) {i : Fin 4} {r : mRf} (hd : cd y pc = some (.astore_n i)) (hl : (Nat.blt (i : Nat) lo.length && mOkSt lo (i : Nat)) = true) (k : mW p l e R s m args below meth c D ad b0 y c0 s0 Z h (pc + 1) (mPut lo (i : Nat) (.inr (.inl (some r)))) st) : mW p l e R s m args below meth c D ad b0 y c0 s0 Z h pc lo (.inr (.inl (some r)) :: st) := by
  intro H locs ls na h1 h2 h3 h4 h5
  have hdc := mDc hF.2.2.2.2.2.1.2 hd rfl rfl
  obtain ⟨f, i2, j⟩ := r
  rw [Bool.and_eq_true] at hl
  exact lv_astore_n hF.1 hF.2.1 hdc rfl h3.2 (by rw [← h3.1]; exact Nat.le_of_ble_eq_true hl.1) rfl (fun ls2 hls => k H locs ls2 na h1 h2 (h3.put1 hls hl.2) h4 h5)
theorem mi_astore (hF : mFr y p s m args meth c) {i : Nat} {r : mRf} (hd : cd y pc = some (.astore i)) (hl : (Nat.blt i lo.length && mOkSt lo i) = true) (k : mW p l e R s m args below meth c D ad b0 y c0 s0 Z h (pc + 2) (mPut lo i (.inr (.inl (some r)))) st) : mW p l e R s m args below meth c D ad b0 y c0 s0 Z h pc lo (.inr (.inl (some r)) :: st) := by
  intro H locs ls na h1 h2 h3 h4 h5
  have hdc := mDc hF.2.2.2.2.2.1.2 hd rfl rfl
  obtain ⟨f, i2, j⟩ := r
  rw [Bool.and_eq_true] at hl
  exact lv_astore hF.1 hF.2.1 hdc h3.2 (by rw [← h3.1]; exact Nat.le_of_ble_eq_true hl.1) rfl (fun ls2 hls => k H locs ls2 na h1 h2 (h3.put1 hls hl.2) h4 h5)
theorem mi_fstore (hF : mFr y p s m args meth c) {i : Nat} {x : UInt32} (hd : cd y pc = some (.fstore i)) (hl : (Nat.blt i lo.length && mOkSt lo i) = true) (k : mW p l e R s m args below meth c D ad b0 y c0 s0 Z h (pc + 2) (mPut lo i (mF x)) st) : mW p l e R s m args below meth c D ad b0 y c0 s0 Z h pc lo (mF x :: st) := by
  intro H locs ls na h1 h2 h3 h4 h5
  have hdc := mDc hF.2.2.2.2.2.1.2 hd rfl rfl
  rw [Bool.and_eq_true] at hl
  exact lv_fstore hF.1 hF.2.1 hdc h3.2 (by rw [← h3.1]; exact Nat.le_of_ble_eq_true hl.1) rfl (fun ls2 hls => k H locs ls2 na h1 h2 (h3.put1 hls hl.2) h4 h5)
theorem mi_dstore (hF : mFr y p s m args meth c) {i : Nat} {x : UInt64} (hd : cd y pc = some (.dstore i)) (hl : (Nat.blt (i + 1) lo.length && mOkSt lo i && !(mCat2 lo[i + 1]?)) = true) (k : mW p l e R s m args below meth c D ad b0 y c0 s0 Z h (pc + 2) (mPut2 lo i (mD x)) st) : mW p l e R s m args below meth c D ad b0 y c0 s0 Z h pc lo (mD x :: st) := by
  intro H locs ls na h1 h2 h3 h4 h5
  have hdc := mDc hF.2.2.2.2.2.1.2 hd rfl rfl
  rw [Bool.and_eq_true, Bool.and_eq_true] at hl
  exact lv_dstore hF.1 hF.2.1 hdc h3.2 (by rw [← h3.1]; exact Nat.le_of_ble_eq_true hl.1.1) rfl (fun ls2 hls => k H locs ls2 na h1 h2 (h3.put2 hls hl.1.2) h4 h5)
theorem mi_iconst (hF : mFr y p s m args meth c) {n : Int} (hd : cd y pc = some (.iconst n)) (k : mW p l e R s m args below meth c D ad b0 y c0 s0 Z h (pc + 1) lo (mI (Int32.ofInt n) :: st)) : mW p l e R s m args below meth c D ad b0 y c0 s0 Z h pc lo st := by
  intro H locs ls na h1 h2 h3 h4 h5
  have hdc := mDc hF.2.2.2.2.2.1.2 hd rfl rfl
  exact lv_iconst hF.1 hF.2.1 hdc rfl (k H locs ls na h1 h2 h3 h4 h5)
theorem mi_bipush (hF : mFr y p s m args meth c) {n : Int} (hd : cd y pc = some (.bipush n)) (k : mW p l e R s m args below meth c D ad b0 y c0 s0 Z h (pc + 2) lo (mI ((Int8.ofInt n).toInt32) :: st)) : mW p l e R s m args below meth c D ad b0 y c0 s0 Z h pc lo st := by
  intro H locs ls na h1 h2 h3 h4 h5
  have hdc := mDc hF.2.2.2.2.2.1.2 hd rfl rfl
  exact lv_bipush hF.1 hF.2.1 hdc rfl (k H locs ls na h1 h2 h3 h4 h5)
theorem mi_sipush (hF : mFr y p s m args meth c) {n : Int} (hd : cd y pc = some (.sipush n)) (k : mW p l e R s m args below meth c D ad b0 y c0 s0 Z h (pc + 3) lo (mI ((Int16.ofInt n).toInt32) :: st)) : mW p l e R s m args below meth c D ad b0 y c0 s0 Z h pc lo st := by
  intro H locs ls na h1 h2 h3 h4 h5
  have hdc := mDc hF.2.2.2.2.2.1.2 hd rfl rfl
  exact lv_sipush hF.1 hF.2.1 hdc rfl (k H locs ls na h1 h2 h3 h4 h5)
theorem mi_lconst (hF : mFr y p s m args meth c) {n : Fin 2} (hd : cd y pc = some (.lconst n)) (k : mW p l e R s m args below meth c D ad b0 y c0 s0 Z h (pc + 1) lo (mL (Int64.ofNat (n : Nat)) :: st)) : mW p l e R s m args below meth c D ad b0 y c0 s0 Z h pc lo st := by
  intro H locs ls na h1 h2 h3 h4 h5
  have hdc := mDc hF.2.2.2.2.2.1.2 hd rfl rfl
  exact lv_lconst hF.1 hF.2.1 hdc rfl (k H locs ls na h1 h2 h3 h4 h5)
theorem mi_fconst (hF : mFr y p s m args meth c)  (hd : cd y pc = some (.fconst 0)) (k : mW p l e R s m args below meth c D ad b0 y c0 s0 Z h (pc + 1) lo (mF 0 :: st)) : mW p l e R s m args below meth c D ad b0 y c0 s0 Z h pc lo st := by
  intro H locs ls na h1 h2 h3 h4 h5
  have hdc := mDc hF.2.2.2.2.2.1.2 hd rfl rfl
  exact lv_fconst0 hF.1 hF.2.1 hdc (k H locs ls na h1 h2 h3 h4 h5)
theorem mi_dconst (hF : mFr y p s m args meth c)  (hd : cd y pc = some (.dconst 0)) (k : mW p l e R s m args below meth c D ad b0 y c0 s0 Z h (pc + 1) lo (mD 0 :: st)) : mW p l e R s m args below meth c D ad b0 y c0 s0 Z h pc lo st := by
  intro H locs ls na h1 h2 h3 h4 h5
  have hdc := mDc hF.2.2.2.2.2.1.2 hd rfl rfl
  exact lv_dconst0 hF.1 hF.2.1 hdc (k H locs ls na h1 h2 h3 h4 h5)
theorem mi_dup (hF : mFr y p s m args meth c) {v : mV} (hd : cd y pc = some (.dup)) (hv : Nat.beq (mCat v) 1 = true) (k : mW p l e R s m args below meth c D ad b0 y c0 s0 Z h (pc + 1) lo (v :: v :: st)) : mW p l e R s m args below meth c D ad b0 y c0 s0 Z h pc lo (v :: st) := by
  intro H locs ls na h1 h2 h3 h4 h5
  have hdc := mDc hF.2.2.2.2.2.1.2 hd rfl rfl
  exact lv_dup hF.1 hF.2.1 hdc (by rw [rv_cat]; exact Nat.eq_of_beq_eq_true hv) (k H locs ls na h1 h2 h3 h4 h5)
theorem mi_pop (hF : mFr y p s m args meth c) {v : mV} (hd : cd y pc = some (.pop)) (hv : Nat.beq (mCat v) 1 = true) (k : mW p l e R s m args below meth c D ad b0 y c0 s0 Z h (pc + 1) lo st) : mW p l e R s m args below meth c D ad b0 y c0 s0 Z h pc lo (v :: st) := by
  intro H locs ls na h1 h2 h3 h4 h5
  have hdc := mDc hF.2.2.2.2.2.1.2 hd rfl rfl
  exact lv_pop hF.1 hF.2.1 hdc (by rw [rv_cat]; exact Nat.eq_of_beq_eq_true hv) (k H locs ls na h1 h2 h3 h4 h5)
theorem mi_dup2 (hF : mFr y p s m args meth c) {v u : mV} (hd : cd y pc = some (.dup2)) (hv : (Nat.beq (mCat v) 1 && Nat.beq (mCat u) 1) = true) (k : mW p l e R s m args below meth c D ad b0 y c0 s0 Z h (pc + 1) lo (v :: u :: v :: u :: st)) : mW p l e R s m args below meth c D ad b0 y c0 s0 Z h pc lo (v :: u :: st) := by
  intro H locs ls na h1 h2 h3 h4 h5
  have hdc := mDc hF.2.2.2.2.2.1.2 hd rfl rfl
  rw [Bool.and_eq_true] at hv
  exact lv_dup2_11 hF.1 hF.2.1 hdc (by rw [rv_cat]; exact Nat.eq_of_beq_eq_true hv.1) (by rw [rv_cat]; exact Nat.eq_of_beq_eq_true hv.2) (k H locs ls na h1 h2 h3 h4 h5)
theorem mi_iadd (hF : mFr y p s m args meth c) {x z : Int32} (hd : cd y pc = some (.iadd)) (k : mW p l e R s m args below meth c D ad b0 y c0 s0 Z h (pc + 1) lo (mI (x + z) :: st)) : mW p l e R s m args below meth c D ad b0 y c0 s0 Z h pc lo (.inl z :: .inl x :: st) := by
  intro H locs ls na h1 h2 h3 h4 h5
  have hdc := mDc hF.2.2.2.2.2.1.2 hd rfl rfl
  exact lv_iadd hF.1 hF.2.1 hdc (k H locs ls na h1 h2 h3 h4 h5)
theorem mi_isub (hF : mFr y p s m args meth c) {x z : Int32} (hd : cd y pc = some (.isub)) (k : mW p l e R s m args below meth c D ad b0 y c0 s0 Z h (pc + 1) lo (mI (x - z) :: st)) : mW p l e R s m args below meth c D ad b0 y c0 s0 Z h pc lo (.inl z :: .inl x :: st) := by
  intro H locs ls na h1 h2 h3 h4 h5
  have hdc := mDc hF.2.2.2.2.2.1.2 hd rfl rfl
  exact lv_isub hF.1 hF.2.1 hdc (k H locs ls na h1 h2 h3 h4 h5)
theorem mi_imul (hF : mFr y p s m args meth c) {x z : Int32} (hd : cd y pc = some (.imul)) (k : mW p l e R s m args below meth c D ad b0 y c0 s0 Z h (pc + 1) lo (mI (x * z) :: st)) : mW p l e R s m args below meth c D ad b0 y c0 s0 Z h pc lo (.inl z :: .inl x :: st) := by
  intro H locs ls na h1 h2 h3 h4 h5
  have hdc := mDc hF.2.2.2.2.2.1.2 hd rfl rfl
  exact lv_imul hF.1 hF.2.1 hdc (k H locs ls na h1 h2 h3 h4 h5)
theorem mi_iand (hF : mFr y p s m args meth c) {x z : Int32} (hd : cd y pc = some (.iand)) (k : mW p l e R s m args below meth c D ad b0 y c0 s0 Z h (pc + 1) lo (mI (x &&& z) :: st)) : mW p l e R s m args below meth c D ad b0 y c0 s0 Z h pc lo (.inl z :: .inl x :: st) := by
  intro H locs ls na h1 h2 h3 h4 h5
  have hdc := mDc hF.2.2.2.2.2.1.2 hd rfl rfl
  exact lv_iand hF.1 hF.2.1 hdc (k H locs ls na h1 h2 h3 h4 h5)
theorem mi_ishr (hF : mFr y p s m args meth c) {x z : Int32} (hd : cd y pc = some (.ishr)) (k : mW p l e R s m args below meth c D ad b0 y c0 s0 Z h (pc + 1) lo (mI (x >>> (z &&& 31)) :: st)) : mW p l e R s m args below meth c D ad b0 y c0 s0 Z h pc lo (.inl z :: .inl x :: st) := by
  intro H locs ls na h1 h2 h3 h4 h5
  have hdc := mDc hF.2.2.2.2.2.1.2 hd rfl rfl
  exact lv_ishr hF.1 hF.2.1 hdc (k H locs ls na h1 h2 h3 h4 h5)
theorem mi_ior (hF : mFr y p s m args meth c) {x z : Int32} (hd : cd y pc = some (.ior)) (k : mW p l e R s m args below meth c D ad b0 y c0 s0 Z h (pc + 1) lo (mI (x ||| z) :: st)) : mW p l e R s m args below meth c D ad b0 y c0 s0 Z h pc lo (.inl z :: .inl x :: st) := by
  intro H locs ls na h1 h2 h3 h4 h5
  have hdc := mDc hF.2.2.2.2.2.1.2 hd rfl rfl
  exact lv_ior hF.1 hF.2.1 hdc (k H locs ls na h1 h2 h3 h4 h5)
theorem mi_ishl (hF : mFr y p s m args meth c) {x z : Int32} (hd : cd y pc = some (.ishl)) (k : mW p l e R s m args below meth c D ad b0 y c0 s0 Z h (pc + 1) lo (mI (x <<< (z &&& 31)) :: st)) : mW p l e R s m args below meth c D ad b0 y c0 s0 Z h pc lo (.inl z :: .inl x :: st) := by
  intro H locs ls na h1 h2 h3 h4 h5
  have hdc := mDc hF.2.2.2.2.2.1.2 hd rfl rfl
  exact lv_ishl hF.1 hF.2.1 hdc (k H locs ls na h1 h2 h3 h4 h5)
theorem mi_idiv (hF : mFr y p s m args meth c) {x z : Int32} (hd : cd y pc = some (.idiv)) (hz : (!(decide (z = 0))) = true) (k : mW p l e R s m args below meth c D ad b0 y c0 s0 Z h (pc + 1) lo (mI (x / z) :: st)) : mW p l e R s m args below meth c D ad b0 y c0 s0 Z h pc lo (.inl z :: .inl x :: st) := by
  intro H locs ls na h1 h2 h3 h4 h5
  have hdc := mDc hF.2.2.2.2.2.1.2 hd rfl rfl
  exact lv_idiv hF.1 hF.2.1 hdc (by simpa using hz) (k H locs ls na h1 h2 h3 h4 h5)
theorem mi_irem (hF : mFr y p s m args meth c) {x z : Int32} (hd : cd y pc = some (.irem)) (hz : (!(decide (z = 0))) = true) (k : mW p l e R s m args below meth c D ad b0 y c0 s0 Z h (pc + 1) lo (mI (x - x / z * z) :: st)) : mW p l e R s m args below meth c D ad b0 y c0 s0 Z h pc lo (.inl z :: .inl x :: st) := by
  intro H locs ls na h1 h2 h3 h4 h5
  have hdc := mDc hF.2.2.2.2.2.1.2 hd rfl rfl
  exact lv_irem hF.1 hF.2.1 hdc (by simpa using hz) (k H locs ls na h1 h2 h3 h4 h5)
theorem mi_ineg (hF : mFr y p s m args meth c) {x : Int32} (hd : cd y pc = some (.ineg)) (k : mW p l e R s m args below meth c D ad b0 y c0 s0 Z h (pc + 1) lo (mI (-x) :: st)) : mW p l e R s m args below meth c D ad b0 y c0 s0 Z h pc lo (.inl x :: st) := by
  intro H locs ls na h1 h2 h3 h4 h5
  have hdc := mDc hF.2.2.2.2.2.1.2 hd rfl rfl
  exact lv_ineg hF.1 hF.2.1 hdc (k H locs ls na h1 h2 h3 h4 h5)
theorem mi_i2b (hF : mFr y p s m args meth c) {x : Int32} (hd : cd y pc = some (.i2b)) (k : mW p l e R s m args below meth c D ad b0 y c0 s0 Z h (pc + 1) lo (mI x.toInt8.toInt32 :: st)) : mW p l e R s m args below meth c D ad b0 y c0 s0 Z h pc lo (.inl x :: st) := by
  intro H locs ls na h1 h2 h3 h4 h5
  have hdc := mDc hF.2.2.2.2.2.1.2 hd rfl rfl
  exact lv_i2b hF.1 hF.2.1 hdc rfl (k H locs ls na h1 h2 h3 h4 h5)
theorem mi_i2l (hF : mFr y p s m args meth c) {x : Int32} (hd : cd y pc = some (.i2l)) (k : mW p l e R s m args below meth c D ad b0 y c0 s0 Z h (pc + 1) lo (mL x.toInt64 :: st)) : mW p l e R s m args below meth c D ad b0 y c0 s0 Z h pc lo (.inl x :: st) := by
  intro H locs ls na h1 h2 h3 h4 h5
  have hdc := mDc hF.2.2.2.2.2.1.2 hd rfl rfl
  exact lv_i2l hF.1 hF.2.1 hdc rfl (k H locs ls na h1 h2 h3 h4 h5)
theorem mi_i2f (hF : mFr y p s m args meth c) {x : Int32} (hd : cd y pc = some (.i2f)) (k : mW p l e R s m args below meth c D ad b0 y c0 s0 Z h (pc + 1) lo (mF (FP.i2f x) :: st)) : mW p l e R s m args below meth c D ad b0 y c0 s0 Z h pc lo (.inl x :: st) := by
  intro H locs ls na h1 h2 h3 h4 h5
  have hdc := mDc hF.2.2.2.2.2.1.2 hd rfl rfl
  exact lv_i2f hF.1 hF.2.1 hdc (k H locs ls na h1 h2 h3 h4 h5)
theorem mi_i2d (hF : mFr y p s m args meth c) {x : Int32} (hd : cd y pc = some (.i2d)) (k : mW p l e R s m args below meth c D ad b0 y c0 s0 Z h (pc + 1) lo (mD (FP.i2d x) :: st)) : mW p l e R s m args below meth c D ad b0 y c0 s0 Z h pc lo (.inl x :: st) := by
  intro H locs ls na h1 h2 h3 h4 h5
  have hdc := mDc hF.2.2.2.2.2.1.2 hd rfl rfl
  exact lv_i2d hF.1 hF.2.1 hdc (k H locs ls na h1 h2 h3 h4 h5)
theorem mNN32 {x : UInt32} (h : (!(isNaN32 x)) = true) : vf_n32 x := by
  unfold isNaN32 at h
  unfold vf_n32
  simpa using h
theorem mNN64 {x : UInt64} (h : (!(isNaN64 x)) = true) : vf_n64 x := by
  unfold isNaN64 at h
  unfold vf_n64
  simpa using h
theorem mi_f2d (hF : mFr y p s m args meth c) {x : UInt32} (hd : cd y pc = some (.f2d)) (hz : (!(isNaN64 (FP.f2d x))) = true) (k : mW p l e R s m args below meth c D ad b0 y c0 s0 Z h (pc + 1) lo (mD (FP.f2d x) :: st)) : mW p l e R s m args below meth c D ad b0 y c0 s0 Z h pc lo (mF x :: st) := by
  intro H locs ls na h1 h2 h3 h4 h5
  have hdc := mDc hF.2.2.2.2.2.1.2 hd rfl rfl
  exact lv_f2d hF.1 hF.2.1 hdc (mNN64 hz) (k H locs ls na h1 h2 h3 h4 h5)
theorem mi_fdiv (hF : mFr y p s m args meth c) {x z : UInt32} (hd : cd y pc = some (.fdiv)) (hz : (!(isNaN32 (FP.fdiv x z))) = true) (k : mW p l e R s m args below meth c D ad b0 y c0 s0 Z h (pc + 1) lo (mF (FP.fdiv x z) :: st)) : mW p l e R s m args below meth c D ad b0 y c0 s0 Z h pc lo (mF z :: mF x :: st) := by
  intro H locs ls na h1 h2 h3 h4 h5
  have hdc := mDc hF.2.2.2.2.2.1.2 hd rfl rfl
  exact lv_fdiv hF.1 hF.2.1 hdc (mNN32 hz) (k H locs ls na h1 h2 h3 h4 h5)
theorem mi_ddiv (hF : mFr y p s m args meth c) {x z : UInt64} (hd : cd y pc = some (.ddiv)) (hz : (!(isNaN64 (FP.ddiv x z))) = true) (k : mW p l e R s m args below meth c D ad b0 y c0 s0 Z h (pc + 1) lo (mD (FP.ddiv x z) :: st)) : mW p l e R s m args below meth c D ad b0 y c0 s0 Z h pc lo (mD z :: mD x :: st) := by
  intro H locs ls na h1 h2 h3 h4 h5
  have hdc := mDc hF.2.2.2.2.2.1.2 hd rfl rfl
  exact lv_ddiv hF.1 hF.2.1 hdc (mNN64 hz) (k H locs ls na h1 h2 h3 h4 h5)
theorem mi_fcmp (hF : mFr y p s m args meth c) {x z : UInt32} {op : CmpOp} (hd : cd y pc = some (.fcmp op)) (k : mW p l e R s m args below meth c D ad b0 y c0 s0 Z h (pc + 1) lo (mI (Op.cmpValue (FP.fcmp x z) op) :: st)) : mW p l e R s m args below meth c D ad b0 y c0 s0 Z h pc lo (mF z :: mF x :: st) := by
  intro H locs ls na h1 h2 h3 h4 h5
  have hdc := mDc hF.2.2.2.2.2.1.2 hd rfl rfl
  exact lv_fcmp hF.1 hF.2.1 hdc (k H locs ls na h1 h2 h3 h4 h5)
theorem mi_dcmp (hF : mFr y p s m args meth c) {x z : UInt64} {op : CmpOp} (hd : cd y pc = some (.dcmp op)) (k : mW p l e R s m args below meth c D ad b0 y c0 s0 Z h (pc + 1) lo (mI (Op.cmpValue (FP.dcmp x z) op) :: st)) : mW p l e R s m args below meth c D ad b0 y c0 s0 Z h pc lo (mD z :: mD x :: st) := by
  intro H locs ls na h1 h2 h3 h4 h5
  have hdc := mDc hF.2.2.2.2.2.1.2 hd rfl rfl
  exact lv_dcmp hF.1 hF.2.1 hdc (k H locs ls na h1 h2 h3 h4 h5)
theorem mLcmp (x z : Int64) : lg_cmp x z = if x < z then -1 else if x = z then 0 else 1 := by
  unfold lg_cmp
  rcases lg_tri x z with q | q | q
  · rw [if_neg (show ¬ x > z from lg_lt_not q), if_neg (lg_lt_ne q), if_pos q]
  · subst q
    rw [if_neg (show ¬ x > x from fun q => lg_lt_ne q rfl), if_pos rfl, if_neg (fun q => lg_lt_ne q rfl), if_pos rfl]
  · rw [if_pos (show x > z from q), if_neg (lg_lt_not q), if_neg (fun q2 => lg_lt_ne q q2.symm)]
theorem mi_lcmp (hF : mFr y p s m args meth c) {x z : Int64} (hd : cd y pc = some (.lcmp)) (k : mW p l e R s m args below meth c D ad b0 y c0 s0 Z h (pc + 1) lo (mI (if x < z then -1 else if x = z then 0 else 1) :: st)) : mW p l e R s m args below meth c D ad b0 y c0 s0 Z h pc lo (mL z :: mL x :: st) := by
  intro H locs ls na h1 h2 h3 h4 h5
  have hdc := mDc hF.2.2.2.2.2.1.2 hd rfl rfl
  refine W.lcmp hF.1 hF.2.1 hdc ?_
  rw [mLcmp]
  exact (k H locs ls na h1 h2 h3 h4 h5)
theorem mi_iinc (hF : mFr y p s m args meth c) {i : Nat} {n : Int} {x : Int32} (hd : cd y pc = some (.iinc i n)) (hl : lo[i]? = some (some (.inl x))) (hq : (Nat.blt i lo.length && mOkSt lo i) = true) (k : mW p l e R s m args below meth c D ad b0 y c0 s0 Z h (pc + 3) (mPut lo i (.inl (x + Int32.ofInt n))) st) : mW p l e R s m args below meth c D ad b0 y c0 s0 Z h pc lo st := by
  intro H locs ls na h1 h2 h3 h4 h5
  have hdc := mDc hF.2.2.2.2.2.1.2 hd rfl rfl
  rw [Bool.and_eq_true] at hq
  obtain ⟨kk, hk⟩ := List.getElem?_of_mem (mem_mLv.mpr ⟨.inl x, hl, rfl⟩ : (i, Value.int x) ∈ mLv ad lo)
  exact lv_iinc hF.1 hF.2.1 hdc h3.2 hk rfl (by rw [← h3.1]; exact Nat.le_of_ble_eq_true hq.1) rfl (fun ls2 hls => k H locs ls2 na h1 h2 (h3.put1 (v := .inl (x + Int32.ofInt n)) hls hq.2) h4 h5)
theorem mi_goto (hF : mFr y p s m args meth c) {off : Int} (hd : cd y pc = some (.goto off)) (hf : mFw pc off = true) (k : mW p l e R s m args below meth c D ad b0 y c0 s0 Z h (mTgt pc off) lo st) : mW p l e R s m args below meth c D ad b0 y c0 s0 Z h pc lo st := by
  intro H locs ls na h1 h2 h3 h4 h5
  have hdc := mDc hF.2.2.2.2.2.1.2 hd rfl rfl
  exact lv_goto hF.1 hF.2.1 hdc (mTgt_ok hf) (k H locs ls na h1 h2 h3 h4 h5)
theorem mi_aconst_null (hF : mFr y p s m args meth c)  (hd : cd y pc = some (.aconst_null)) (k : mW p l e R s m args below meth c D ad b0 y c0 s0 Z h (pc + 1) lo (.inr (.inl none) :: st)) : mW p l e R s m args below meth c D ad b0 y c0 s0 Z h pc lo st := by
  intro H locs ls na h1 h2 h3 h4 h5
  have hdc := mDc hF.2.2.2.2.2.1.2 hd rfl rfl
  exact lv_null hF.1 hF.2.1 hdc (k H locs ls na h1 h2 h3 h4 h5)
theorem mi_ifnonnull (hF : mFr y p s m args meth c) {off : Int} {r : mRf} (hd : cd y pc = some (.ifnonnull off)) (hf : mFw pc off = true) (k : mW p l e R s m args below meth c D ad b0 y c0 s0 Z h (mTgt pc off) lo st) : mW p l e R s m args below meth c D ad b0 y c0 s0 Z h pc lo (.inr (.inl (some r)) :: st) := by
  intro H locs ls na h1 h2 h3 h4 h5
  have hdc := mDc hF.2.2.2.2.2.1.2 hd rfl rfl
  obtain ⟨f, i2, j⟩ := r
  exact lv_ifnonnull hF.1 hF.2.1 hdc (mTgt_ok hf) (k H locs ls na h1 h2 h3 h4 h5)
theorem mi_dup_x1 (hF : mFr y p s m args meth c) {v u : mV} (hd : cd y pc = some (.dup_x1)) (hv : (Nat.beq (mCat v) 1 && Nat.beq (mCat u) 1) = true) (k : mW p l e R s m args below meth c D ad b0 y c0 s0 Z h (pc + 1) lo (v :: u :: v :: st)) : mW p l e R s m args below meth c D ad b0 y c0 s0 Z h pc lo (v :: u :: st) := by
  intro H locs ls na h1 h2 h3 h4 h5
  have hdc := mDc hF.2.2.2.2.2.1.2 hd rfl rfl
  rw [Bool.and_eq_true] at hv
  exact lv_dup_x1 hF.1 hF.2.1 hdc (by rw [rv_cat]; exact Nat.eq_of_beq_eq_true hv.1) (by rw [rv_cat]; exact Nat.eq_of_beq_eq_true hv.2) (k H locs ls na h1 h2 h3 h4 h5)
theorem mI2c {x : Int32} (h : (!(decide (x < 0)) && Nat.blt (mix x) 65536) = true) : (x.toUInt32 % 65536).toInt32 = x := by
  rw [Bool.and_eq_true, Bool.not_eq_true', decide_eq_false_iff_not] at h
  have h0 : 0 ≤ x.toInt := by
    have := Int32.not_lt.mp h.1
    simpa using Int32.le_iff_toInt_le.mp this
  have h1 : x.toInt < 65536 := by
    have q : x.toInt.toNat < 65536 := Nat.le_of_ble_eq_true h.2
    omega
  exact lg_i2c_small h0 h1
theorem mi_i2c (hF : mFr y p s m args meth c) {x : Int32} (hd : cd y pc = some (.i2c)) (hz : (!(decide (x < 0)) && Nat.blt (mix x) 65536) = true) (k : mW p l e R s m args below meth c D ad b0 y c0 s0 Z h (pc + 1) lo (mI x :: st)) : mW p l e R s m args below meth c D ad b0 y c0 s0 Z h pc lo (.inl x :: st) := by
  intro H locs ls na h1 h2 h3 h4 h5
  have hdc := mDc hF.2.2.2.2.2.1.2 hd rfl rfl
  exact lv_i2c hF.1 hF.2.1 hdc (mI2c hz) (k H locs ls na h1 h2 h3 h4 h5)
theorem mi_ifCond (hF : mFr y p s m args meth c) {cn : ClassFile.Cond} {off : Int} {x : Int32} (hd : cd y pc = some (.ifCond cn off)) (hf : mFw pc off = true) (k : mif (mCmp cn x 0) (mW p l e R s m args below meth c D ad b0 y c0 s0 Z h (mTgt pc off) lo st) (mW p l e R s m args below meth c D ad b0 y c0 s0 Z h (pc + 3) lo st)) : mW p l e R s m args below meth c D ad b0 y c0 s0 Z h pc lo (.inl x :: st) := by
  intro H locs ls na h1 h2 h3 h4 h5
  have hdc := mDc hF.2.2.2.2.2.1.2 hd rfl rfl
  unfold mif at k
  cases cn
  · refine lv_if_eq hF.1 hF.2.1 hdc (mTgt_ok hf) (fun q => ?_) (fun q => ?_)
    · rw [show mCmp .eq x 0 = true from decide_eq_true q] at k
      exact k H locs ls na h1 h2 h3 h4 h5
    · rw [show mCmp .eq x 0 = false from decide_eq_false (q)] at k
      exact k H locs ls na h1 h2 h3 h4 h5
  · refine lv_if_ne hF.1 hF.2.1 hdc (mTgt_ok hf) (fun q => ?_) (fun q => ?_)
    · rw [show mCmp .ne x 0 = true from decide_eq_true q] at k
      exact k H locs ls na h1 h2 h3 h4 h5
    · rw [show mCmp .ne x 0 = false from decide_eq_false (fun z => z q)] at k
      exact k H locs ls na h1 h2 h3 h4 h5
  · refine lv_if_lt hF.1 hF.2.1 hdc (mTgt_ok hf) (fun q => ?_) (fun q => ?_)
    · rw [show mCmp .lt x 0 = true from decide_eq_true q] at k
      exact k H locs ls na h1 h2 h3 h4 h5
    · rw [show mCmp .lt x 0 = false from decide_eq_false (q)] at k
      exact k H locs ls na h1 h2 h3 h4 h5
  · refine lv_if_ge hF.1 hF.2.1 hdc (mTgt_ok hf) (fun q => ?_) (fun q => ?_)
    · rw [show mCmp .ge x 0 = true from decide_eq_true q] at k
      exact k H locs ls na h1 h2 h3 h4 h5
    · rw [show mCmp .ge x 0 = false from decide_eq_false (q)] at k
      exact k H locs ls na h1 h2 h3 h4 h5
  · refine lv_if_gt hF.1 hF.2.1 hdc (mTgt_ok hf) (fun q => ?_) (fun q => ?_)
    · rw [show mCmp .gt x 0 = true from decide_eq_true q] at k
      exact k H locs ls na h1 h2 h3 h4 h5
    · rw [show mCmp .gt x 0 = false from decide_eq_false (q)] at k
      exact k H locs ls na h1 h2 h3 h4 h5
  · refine lv_if_le hF.1 hF.2.1 hdc (mTgt_ok hf) (fun q => ?_) (fun q => ?_)
    · rw [show mCmp .le x 0 = true from decide_eq_true q] at k
      exact k H locs ls na h1 h2 h3 h4 h5
    · rw [show mCmp .le x 0 = false from decide_eq_false (q)] at k
      exact k H locs ls na h1 h2 h3 h4 h5
theorem mi_if_icmp (hF : mFr y p s m args meth c) {cn : ClassFile.Cond} {off : Int} {x z : Int32} (hd : cd y pc = some (.if_icmp cn off)) (hf : mFw pc off = true) (k : mif (mCmp cn x z) (mW p l e R s m args below meth c D ad b0 y c0 s0 Z h (mTgt pc off) lo st) (mW p l e R s m args below meth c D ad b0 y c0 s0 Z h (pc + 3) lo st)) : mW p l e R s m args below meth c D ad b0 y c0 s0 Z h pc lo (.inl z :: .inl x :: st) := by
  intro H locs ls na h1 h2 h3 h4 h5
  have hdc := mDc hF.2.2.2.2.2.1.2 hd rfl rfl
  unfold mif at k
  cases cn
  · refine lv_icmp_eq hF.1 hF.2.1 hdc (mTgt_ok hf) (fun q => ?_) (fun q => ?_)
    · rw [show mCmp .eq x z = true from decide_eq_true q] at k
      exact k H locs ls na h1 h2 h3 h4 h5
    · rw [show mCmp .eq x z = false from decide_eq_false (q)] at k
      exact k H locs ls na h1 h2 h3 h4 h5
  · refine lv_icmp_ne hF.1 hF.2.1 hdc (mTgt_ok hf) (fun q => ?_) (fun q => ?_)
    · rw [show mCmp .ne x z = true from decide_eq_true q] at k
      exact k H locs ls na h1 h2 h3 h4 h5
    · rw [show mCmp .ne x z = false from decide_eq_false (fun z => z q)] at k
      exact k H locs ls na h1 h2 h3 h4 h5
  · refine lv_icmp_lt hF.1 hF.2.1 hdc (mTgt_ok hf) (fun q => ?_) (fun q => ?_)
    · rw [show mCmp .lt x z = true from decide_eq_true q] at k
      exact k H locs ls na h1 h2 h3 h4 h5
    · rw [show mCmp .lt x z = false from decide_eq_false (q)] at k
      exact k H locs ls na h1 h2 h3 h4 h5
  · refine lv_icmp_ge hF.1 hF.2.1 hdc (mTgt_ok hf) (fun q => ?_) (fun q => ?_)
    · rw [show mCmp .ge x z = true from decide_eq_true q] at k
      exact k H locs ls na h1 h2 h3 h4 h5
    · rw [show mCmp .ge x z = false from decide_eq_false (q)] at k
      exact k H locs ls na h1 h2 h3 h4 h5
  · refine lv_icmp_gt hF.1 hF.2.1 hdc (mTgt_ok hf) (fun q => ?_) (fun q => ?_)
    · rw [show mCmp .gt x z = true from decide_eq_true q] at k
      exact k H locs ls na h1 h2 h3 h4 h5
    · rw [show mCmp .gt x z = false from decide_eq_false (q)] at k
      exact k H locs ls na h1 h2 h3 h4 h5
  · refine lv_icmp_le hF.1 hF.2.1 hdc (mTgt_ok hf) (fun q => ?_) (fun q => ?_)
    · rw [show mCmp .le x z = true from decide_eq_true q] at k
      exact k H locs ls na h1 h2 h3 h4 h5
    · rw [show mCmp .le x z = false from decide_eq_false (q)] at k
      exact k H locs ls na h1 h2 h3 h4 h5
theorem mi_tableswitch (hF : mFr y p s m args meth c) {dflt lw hi : Int} {offs : Array Int} {x : Int32} (hd : cd y pc = some (.tableswitch dflt lw hi offs)) (k : mif (decide (x.toInt < lw) || decide (hi < x.toInt)) (mck (mFw pc dflt) (mW p l e R s m args below meth c D ad b0 y c0 s0 Z h (mTgt pc dflt) lo st)) (match offs[(x.toInt - lw).toNat]? with
    | some off => mck (mFw pc off) (mW p l e R s m args below meth c D ad b0 y c0 s0 Z h (mTgt pc off) lo st)
    | none => False)) : mW p l e R s m args below meth c D ad b0 y c0 s0 Z h pc lo (.inl x :: st) := by
  intro H locs ls na h1 h2 h3 h4 h5
  obtain ⟨n, hdc, -⟩ := hF.2.2.2.2.2.1.2 _ _ hd
  unfold mif at k
  cases hb : (decide (x.toInt < lw) || decide (hi < x.toInt)) with
  | true =>
    rw [hb] at k
    dsimp only at k
    unfold mck at k
    cases hf : mFw pc dflt with
    | false => rw [hf] at k; exact k.elim
    | true =>
      rw [hf] at k
      exact lv_tableOut hF.1 hF.2.1 hdc (by simpa using hb) (mTgt_ok hf) (k H locs ls na h1 h2 h3 h4 h5)
  | false =>
    rw [hb] at k
    dsimp only at k
    cases ho : offs[(x.toInt - lw).toNat]? with
    | none => rw [ho] at k; exact k.elim
    | some off =>
      rw [ho] at k
      dsimp only at k
      unfold mck at k
      cases hf : mFw pc off with
      | false => rw [hf] at k; exact k.elim
      | true =>
        rw [hf] at k
        rw [Bool.or_eq_false_iff, decide_eq_false_iff_not, decide_eq_false_iff_not] at hb
        exact lv_tableIn hF.1 hF.2.1 hdc hb.1 hb.2 ho (mTgt_ok hf) (k H locs ls na h1 h2 h3 h4 h5)
end MI
