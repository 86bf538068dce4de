/-! CALLS OF THE SYSTEM'S OWN METHODS. -/
def mRTOk (y : Nat) : Prop := (mRet y = 0 → mRT y = none) ∧ (mRet y = 1 → mRT y = some .int) ∧ (mRet y = 2 → mRT y = some .boolean) ∧ (mRet y = 3 → mRT y = some .char) ∧ (mRet y = 4 → mRT y = some .float) ∧ (mRet y = 5 → mRT y = some .double) ∧ (mRet y = 6 → mRT y = some .long) ∧ (mRet y = 8 → mRT y = some .byte) ∧ (mRet y = 7 → ∃ t, mRT y = some t ∧ t.isReference = true)
theorem mOkM_spec {y : Nat} (h : y < 245) : (mNm y).cls = mCN (mOwn y) ∧ plainName (mNm y).cls = true ∧ ((mNm y).cls ≠ "java/lang/invoke/MethodHandle" ∧ (mNm y).cls ≠ "java/lang/invoke/VarHandle") ∧
    (parseMethodDescriptor (mNm y).desc).map (fun d => d.parameters.length) = some (match mStat y with
      | true => mArgs y
      | false => mArgs y - 1) ∧
    Jvm.Cond.initialized (mNm y).cls ∈ gTbl ∧ (mStat y = true → Jvm.Cond.static (mNm y) ∈ gTbl) ∧ (mStat y = false → Jvm.Cond.instanceMethod (mNm y) ∈ gTbl) ∧
    (Nat.beq (mSelP y) 9999 = false → Jvm.Cond.selects (mCN (mRcv y)) (mNm y) (mNm (mSelY y)) ∈ gTbl ∧ mArgs (mSelY y) = mArgs y) ∧ (mInit y = true → (mNm y).name = "<init>" ∧ mRet y = 0) ∧ (mStat y = false → 0 < mArgs y) ∧
    mRTOk y ∧ mArgs y ≤ mMaxL y ∧ mMaxL y ≤ 20 := by
  have h1 := mOkM_all h
  unfold mOkM at h1
  simp only [Bool.and_eq_true, decide_eq_true_eq] at h1
  obtain ⟨⟨⟨⟨⟨⟨⟨⟨⟨⟨⟨⟨a1, a2⟩, a3⟩, a4⟩, a5⟩, a6⟩, a7⟩, a8⟩, a9⟩, a10⟩, a11⟩, a12⟩, a13⟩ := h1
  refine ⟨a1, a2, ⟨a3, a4⟩, a5, gTbl_of _ a6 rfl, fun z => ?_, fun z => ?_, fun z => ?_, fun z => ?_, fun z => ?_, ?_, Nat.le_of_ble_eq_true a13, Nat.le_of_ble_eq_true a10⟩
  · rw [z] at a7
    exact gTbl_of _ a7 rfl
  · rw [z] at a7
    exact gTbl_of _ a7 rfl
  · rw [z] at a8
    dsimp only at a8
    simp only [Bool.and_eq_true, decide_eq_true_eq] at a8
    exact ⟨gTbl_of _ a8.1.1.1 rfl, Nat.eq_of_beq_eq_true a8.1.2⟩
  · rw [z] at a9
    dsimp only at a9
    rw [Bool.and_eq_true, decide_eq_true_eq] at a9
    exact ⟨a9.1, Nat.eq_of_beq_eq_true a9.2⟩
  · rw [z] at a11
    exact Nat.le_of_ble_eq_true a11
  · refine ⟨fun z => ?_, fun z => ?_, fun z => ?_, fun z => ?_, fun z => ?_, fun z => ?_, fun z => ?_, fun z => ?_, fun z => ?_⟩
    all_goals rw [z] at a12
    all_goals first
      | exact of_decide_eq_true a12
      | skip
    replace a12 : (match mRT y with
      | some (.object _) => true
      | some (.array _) => true
      | _ => false) = true := a12
    cases hrt : mRT y with
    | none => rw [hrt] at a12; cases a12
    | some ty =>
      rw [hrt] at a12
      cases ty <;> first | exact ⟨_, rfl, rfl⟩ | cases a12
set_option maxRecDepth 100000 in
theorem mRcv16 {y : Nat} (h : y < 245) (hs : Nat.beq (mSelP y) 9999 = false) (hn : (mHH y).isNone = true) : mRcv y < 16 ∧ mStat (mSelY y) = false ∧ mSelY y < 245 ∧ (mHH (mSelY y)).isNone = true ∧ (mOwn y = 17 ∨ mSelY y = y ∧ mRcv y = mOwn y) := by
  have key : ∀ y, y < 245 → Nat.beq (mSelP y) 9999 = false → mRcv y < 16 ∧ mStat (mSelY y) = false ∧ mSelY y < 245 ∧ ((mHH (mSelY y)).isNone = true ∨ (mHH y).isNone = false) ∧ (mOwn y = 17 ∨ mSelY y = y ∧ mRcv y = mOwn y) := by decide +kernel
  obtain ⟨k1, k2, k3, k4, k5⟩ := key y h hs
  exact ⟨k1, k2, k3, k4.resolve_right (by rw [hn]; decide), k5⟩
set_option maxRecDepth 100000 in
/-- a method of AbstractStringBuilder's: found where it is named, its words -/
theorem mSam_ok {y : Nat} (h : y < 245) (ho : mOwn y = 17) (hi : mInit y = false) : Jvm.Cond.sameMethod (mNm y).cls (mNm y).cls (mNm y).name (mNm y).desc ∈ gTbl ∧ (mHH y).isNone = true ∧ (mNm y).name ≠ "<init>" ∧ mStat y = false := by
  have key : ∀ y, y < 245 → mOwn y = 17 → mInit y = false → (lw_tbl[mLook1 [(209, 460), (210, 1725), (211, 1724), (212, 1719), (213, 1720), (214, 511), (215, 1722), (216, 1721), (217, 1606), (218, 1611)] y]? = some (.sameMethod (mNm y).cls (mNm y).cls (mNm y).name (mNm y).desc)) ∧ (mHH y).isNone = true ∧ (mNm y).name ≠ "<init>" ∧ mStat y = false := by decide +kernel
  obtain ⟨k1, k2⟩ := key y h ho hi
  exact ⟨gTbl_of _ k1 rfl, k2⟩
set_option maxRecDepth 100000 in
theorem mMet17 {own ix y n : Nat} (h : mMet own ix = some (y, n)) (hy : Nat.ble 1000 y = false) (ho : mOwn y = 17) : Jvm.Cond.methodLink (mCN own) ix (mNm y) ∈ gTbl := by
  have hm := mLook_mem h
  have hlt := mGetD_mem hm
  have hc := mMetC_ok own hlt _ hm
  have key : ∀ own, own < 24 → ∀ q ∈ mMet_L.getD own [], mOwn q.2.1 = 17 → (mLook (mMetP.getD own []) q.1).isSome = true := by decide +kernel
  have hk := key own hlt _ hm ho
  unfold mMetC at hc
  dsimp only at hc hk
  rw [hy] at hc
  dsimp only at hc
  simp only [Bool.and_eq_true] at hc
  obtain ⟨⟨h1, -⟩, -⟩ := hc
  cases hk2 : mLook (mMetP.getD own []) ix with
  | none => rw [hk2] at hk; cases hk
  | some k =>
    rw [hk2] at h1
    exact gTbl_of k (of_decide_eq_true h1) rfl
theorem gSup : Jvm.Cond.superclass "java/lang/StringBuilder" "java/lang/AbstractStringBuilder" ∈ gTbl := gTbl_of 469 (by decide +kernel) rfl
/-- the state of the world at a method's start, by pictures -/
def mPc (D : va_G) (ad : mAd) (b0 na : Nat) (h : mH) (as : List mV) : Array Value → State → Prop := va_Pc (as.map (rv ad)) (fun U => mRel D ad b0 na h U U.heap ∧ mEv ad b0 D U)
def mQo (D : va_G) (ad : mAd) (b0 : Nat) (hf : mH) (o : mOut) : Array Value → State → Outcome → State → Prop := fun _ st oc t => ∃ r, o = .inl r ∧ oc = .returned (r.map (rv ad)) ∧ (∃ na, mRel D ad b0 na hf t t.heap) ∧ va_F (mA b0) st t
def mXo (D : va_G) (ad : mAd) (b0 : Nat) (hf : mH) (o : mOut) : String → State → State → Prop := fun X st t => ∃ E, o = .inr E ∧ X = mXN E ∧ 0 < E ∧ E < 4 ∧ (∃ na, mRel D ad b0 na hf t t.heap) ∧ va_F (mA b0) st t
def mRoom (D' mc ms : Nat) : Room := { frames := D' + 12, cells := mc, slots := ms, locals := 60 * D' + 300 }
theorem mEv.carry {ad : mAd} {b0 : Nat} {D : va_G} {s U : State} (hE : mEv ad b0 D s) (hz : s.heap.size ≤ U.heap.size) (hq : ∀ a : Nat, a < s.heap.size → ¬ mA b0 a → U.heap[a]? = s.heap[a]?) (hW : s.WarmedH U.vm) : mEv ad b0 D U :=
  ⟨⟨hE.1.1, va_K.moved hW.alike hE.1.2⟩, mOldW.moved hW.alike (hE.2.1.kept hz hq), hE.2.2.warm hW⟩
theorem mPc_blind {D : va_G} {ad : mAd} {b0 na : Nat} {h : mH} {as : List mV} : FrameBlind (mPc D ad b0 na h as) := fun a U g mk q => by
  obtain ⟨q0, q1, ⟨q2, q3⟩, q4, q5⟩ := q
  exact ⟨q0, mRel.moved (u := U) (U := U.calling g mk a) (Vm.Alike.refl U.vm) q1, ⟨q2, va_K.moved (u := U) (U := U.calling g mk a) (Vm.Alike.refl U.vm) q3⟩, mOldW.moved (u := U) (U := U.calling g mk a) (Vm.Alike.refl U.vm) q4, mOldS.same (u := U) (U := U.calling g mk a) rfl q5⟩
/-- how a call stands: its instruction, what it links, what it hands over -/
def mCallOk (y : Nat) (h : mH) (ins : Instr) (st : mSt) (y' : Nat) (as : List mV) (st' : mSt) : Prop :=
  ∃ ix yr n, mMet (mOwn y) ix = some (yr, n) ∧ Nat.ble 1000 yr = false ∧ mDeep st' = true ∧ st = as.reverse ++ st' ∧ as.length = n ∧
    ((ins = .invokevirtual ix ∧ y' = mSelY yr ∧ mVirtK yr = true ∧ ∃ f i j r, as = .inr (.inl (some (f, i, j))) :: r ∧ mIsObj (mSh h f i j) (mRcv yr) = true) ∨
     (ins = .invokestatic ix ∧ y' = yr ∧ mStat yr = true) ∨
     (ins = .invokespecial ix ∧ y' = yr ∧ mInit yr = true ∧ mStat yr = false ∧ (mHH yr).isNone = true ∧ ∃ r0 r, as = .inr (.inl (some r0)) :: r) ∨
     (ins = .invokespecial ix ∧ y' = yr ∧ mInit yr = false ∧ mOwn y = 14 ∧ mSup yr = true ∧ mStat yr = false ∧ (mHH yr).isNone = true ∧ ∃ f i j r, as = .inr (.inl (some (f, i, j))) :: r ∧ mIsObj (mSh h f i j) 14 = true))
theorem mWord_none {y : Nat} (h : (mHH y).isNone = true) : mWord y = .code (mNm y) (mByt y) (mMaxL y) (mRT y) := by
  unfold mWord
  cases hh : mHH y with
  | none => rfl
  | some z => rw [hh] at h; cases h
theorem mWord_some {y : Nat} {hh : List (Nat × Nat × Nat × Nat)} (h : mHH y = some hh) : mWord y = .codeWith (mNm y) (mByt y) (mMaxL y) (mRT y) hh := by
  unfold mWord
  rw [h]
theorem mGoodW {y : Nat} (hy : y < 245) {ws : List Jvm.Cond} (h : ∀ w ∈ ws, w ∈ gTbl) : GoodIn gTbl (ws ++ (mWord y :: gTbl)) := gGood fun w hw => by
  rcases List.mem_append.mp hw with q | q
  · exact h w q
  · rcases List.mem_cons.mp q with rfl | q
    · exact mWord_in hy
    · exact q
section MC
variable {p : Program} {l : Launch} {e : Env} {R : Room} {s : State} {m : MethodId} {args : Array Value} {below : List Frame} {meth : Method} {c : Code} {D : va_G} {ad : mAd} {b0 y c0 s0 : Nat} {Z : State → Prop} {h : mH} {pc : Nat} {lo : mLo} {st : mSt}
/-- the call, as the kit runs it -/
theorem mi_run {ins : Instr} {y' D' mc ms na : Nat} {as : List mV} {st' : mSt} {H : Heap} {locs : List Loc} {ls : Array Slot} {cells slots : Nat} {Qc : Array Value → State → Outcome → State → Prop} {XC : String → State → State → Prop} (hF : mFr y p s m args meth c) (hE : mEv ad b0 D s) (hd : cd y pc = some ins) (hcall : mCallOk y h ins st y' as st')
    (hM : vx_Met l (mNm y') (mWord y' :: gTbl) (mRoom D' mc ms) (mPc D ad b0 na h as) Qc XC mc ms (mA b0)) (hR : D' + 13 ≤ R.frames ∧ 60 * D' + 360 ≤ R.locals) (hRc : cells + mc ≤ R.cells ∧ slots + ms ≤ R.slots)
    (h1 : mRel D ad b0 na h s H) (h2 : va_S (mA b0) s.heap H locs) (h3 : mLoc ad (mMaxL y) lo ls) :
    vx_Run p l e R s m args below meth c H locs cells slots mc ms (F0 m pc ls (st.map (rv ad))) (st'.map (rv ad)) (Qc (as.map (rv ad)).toArray) XC (mA b0) := by
  obtain ⟨ix, yr, n, hmet, hble, hdeep, rfl, hlen, hkind⟩ := hcall
  obtain ⟨hx, hb, hml, hown, hts, ⟨-, hdec⟩, -⟩ := hF
  obtain ⟨hyr, hn, hlink⟩ := mMet_ok hmet hble
  have hdp := mDeep_ok (ad := ad) hdeep
  have hU : ∀ U : State, U.heap = H → s.WarmedH U.vm → mPc D ad b0 na h as (as.map (rv ad)).toArray U := fun U hU hW => by
    refine ⟨rfl, ?_, hE.carry (by rw [hU]; exact h2.1) (by rw [hU]; exact h2.2.1) hW⟩
    show mRel D ad b0 na h U U.heap
    rw [hU]
    exact mRel.moved hW.alike h1
  rcases hkind with ⟨rfl, hys, hvk, f, i, j, r, rfl, hobj⟩ | ⟨rfl, rfl, hst⟩ | ⟨rfl, rfl, hin, hst, hnn, r0, r, rfl⟩ | ⟨rfl, rfl, hin, ho14, hsup, hst, hnn, f, i, j, r, rfl, hobj⟩
  · unfold mVirtK at hvk
    simp only [Bool.and_eq_true, Bool.not_eq_true'] at hvk
    obtain ⟨⟨hst, hsel⟩, hnn⟩ := hvk
    have hdc := mDc hdec hd rfl rfl
    obtain ⟨n2, e1⟩ := mIsObj_spec hobj
    obtain ⟨r1, r2, r3, r4, r5⟩ := mRcv16 hyr hsel hnn
    obtain ⟨a1, a2, a3, a4, a5, a6, a7, a8, a9, a10, -, a12, a13⟩ := mOkM_spec hyr
    rw [hst] at a4
    obtain ⟨a8, a8'⟩ := a8 hsel
    have hrecv : ∃ cellB : Cell, H[ad f i j]? = some cellB ∧ cellB.vm.isStatics = false ∧ s.vm.findClass (mCN (mRcv yr)) = some cellB.cls := by
      obtain ⟨cell, q1, q2, q3, -⟩ := (h1.at e1).2.2.1 r1
      have hfc := (hE.1.2.1 _ _ (mcl_at r1)).2.1
      exact ⟨cell, q1, by rw [q3]; rfl, by rw [q2]; exact hfc⟩
    have hstk : (List.map (rv ad) ((Sum.inr (Sum.inl (some (f, i, j))) :: r).reverse ++ st')) = (List.map (rv ad) r).reverse ++ .ref (ad f i j) :: List.map (rv ad) st' := by
      simp [rv]
    have hlr : (List.map (rv ad) r).length = mArgs yr - 1 := by
      rw [List.length_map]
      have : r.length + 1 = mArgs yr := by rw [← hn, ← hlen]; rfl
      omega
    rcases r5 with h17 | ⟨h5, h6⟩
    · have hin0 : mInit yr = false := by
        cases hi : mInit yr with
        | false => rfl
        | true =>
          exfalso
          have key : ∀ y, y < 245 → Nat.beq (mSelP y) 9999 = false → mInit y = true → False := by decide +kernel
          exact key yr hyr hsel hi
      obtain ⟨s1, s2, s3, s4⟩ := mSam_ok hyr h17 hin0
      have hlink := mMet17 hmet hble h17
      subst hys
      have hw := mWord_none r4
      obtain ⟨b1, b2, b3, b4, b5, b6, b7, b8, b9, b10, -, b12, b13⟩ := mOkM_spec r3
      have hfr : (mRoom D' mc ms).frames + 1 ≤ R.frames ∧ 8 + (mMaxL (mSelY yr) + 11) + (mRoom D' mc ms).locals ≤ R.locals := ⟨by show D' + 12 + 1 ≤ _; omega, by show 8 + (mMaxL (mSelY yr) + 11) + (60 * D' + 300) ≤ _; omega⟩
      have hcx := mWord_in hyr
      rw [mWord_none hnn] at hcx
      have hcode : Jvm.Cond.code (mNm (mSelY yr)) (mByt (mSelY yr)) (mMaxL (mSelY yr)) (mRT (mSelY yr)) ∈ gTbl := by
        have := mWord_in r3
        rw [hw] at this
        exact this
      refine vx_runU (x := mNm yr) (C := mCN (mRcv yr)) (owner := (mNm yr).cls) (b := ad f i j) (As := List.map (rv ad) r) (rest := List.map (rv ad) st') (bytes := mByt (mSelY yr)) (maxL := mMaxL (mSelY yr)) (ret := mRT (mSelY yr)) ⟨hx, hb, hml, hown, hts⟩ hM ⟨⟨rfl, rfl, hfr.1, hfr.2, pay_in hts (mGoodW (ws := []) r3 (fun _ q => by cases q)), by rw [hw]; exact List.mem_cons_self⟩, hts _ hcode, hts _ b5, ⟨a3.1, a3.2⟩, fun sig hs => ?_, hts _ hlink, hts _ s1, va_Decl.of (hts _ (a7 hst)) (hts _ hcx), hts _ a8, hts _ (b7 r2)⟩ ⟨mPc_blind, hrecv, hU⟩ rfl hlr h3.2.1 hstk (lv_room hdp) hdc hRc
      rw [hs] at a4
      exact (Option.some.inj a4).symm
    · rw [h5] at hys
      subst hys
      rw [h6, ← a1] at hrecv
      rw [h5, h6, ← a1] at a8
      have hw := mWord_none hnn
      have hfr : (mRoom D' mc ms).frames + 1 ≤ R.frames ∧ 8 + (mMaxL y' + 11) + (mRoom D' mc ms).locals ≤ R.locals := ⟨by show D' + 12 + 1 ≤ _; omega, by show 8 + (mMaxL y' + 11) + (60 * D' + 300) ≤ _; omega⟩
      rcases hlink with hlink | ⟨hlink, hnn2⟩
      · have hg : GoodIn gTbl (wsV (mCN (mOwn y)) ix (mNm y').cls (mNm y') (mWord y' :: gTbl)) := mGoodW hyr fun w hw => by
          simp only [List.mem_cons, List.not_mem_nil, or_false] at hw
          rcases hw with rfl | rfl | rfl | rfl
          · exact hlink
          · exact a7 hst
          · exact a8
          · exact a5
        exact vx_runV (C := (mNm y').cls) (b := ad f i j) (As := List.map (rv ad) r) (rest := List.map (rv ad) st') ⟨hx, hb, hml, hown, hts⟩ hM (cwV (mArgs y' - 1) hts hg (by rw [hw]) rfl rfl ⟨rfl, a3.1, a3.2, a4⟩ hfr) ⟨mPc_blind, hrecv, hU⟩ rfl hlr h3.2.1 hstk (lv_room hdp) hdc hRc
      · exact vx_runVN (C := (mNm y').cls) (b := ad f i j) (As := List.map (rv ad) r) (rest := List.map (rv ad) st') ⟨hx, hb, hml, hown, hts⟩ hM ⟨va_cnB (mArgs y' - 1) hts (mGoodW (ws := []) hyr (fun _ q => by cases q)) (by rw [hw]) rfl rfl (hE.2.2.2.1 _ _ _ _ hlink) (hts _ a5) ⟨a3.1, a3.2, a4⟩ hfr, hts _ (a7 hst), hts _ a8⟩ ⟨mPc_blind, hrecv, hU⟩ rfl hlr h3.2.1 hstk (lv_room hdp) hdc hRc
  · have hy' := hyr
    have hdc := mDc hdec hd rfl rfl
    obtain ⟨a1, a2, a3, a4, a5, a6, a7, a8, a9, a10, -, a12, a13⟩ := mOkM_spec hy'
    have hfr : (mRoom D' mc ms).frames + 1 ≤ R.frames ∧ 8 + (mMaxL y' + 11) + (mRoom D' mc ms).locals ≤ R.locals := ⟨by show D' + 12 + 1 ≤ _; omega, by show 8 + (mMaxL y' + 11) + (60 * D' + 300) ≤ _; omega⟩
    rw [hst] at a4
    have hstk : (List.map (rv ad) (as.reverse ++ st')) = (List.map (rv ad) as).reverse ++ List.map (rv ad) st' := by simp
    have hlr : (List.map (rv ad) as).length = mArgs y' := by rw [List.length_map, hlen, hn]
    rcases hlink with hlink | ⟨hlink, hnn2⟩
    · have hg : GoodIn gTbl (va_wsS (mCN (mOwn y)) ix (mNm y') (mWord y' :: gTbl)) := mGoodW hy' fun w hw => by
        simp only [List.mem_cons, List.not_mem_nil, or_false] at hw
        rcases hw with rfl | rfl | rfl
        · exact hlink
        · exact a6 hst
        · exact a5
      cases hhh : mHH y' with
      | none =>
        have hw := mWord_none (y := y') (by rw [hhh]; rfl)
        exact vx_runS (As := List.map (rv ad) as) (rest := List.map (rv ad) st') ⟨hx, hb, hml, hown, hts⟩ hM (va_cwS (mArgs y') hts hg (by rw [hw]) rfl rfl ⟨a3.1, a3.2, a4⟩ hfr) ⟨mPc_blind, hU⟩ rfl hlr h3.2.1 hstk (lv_room hdp) hdc hRc
      | some hh =>
        have hw := mWord_some hhh
        exact vx_runSX (As := List.map (rv ad) as) (rest := List.map (rv ad) st') ⟨hx, hb, hml, hown, hts⟩ hM (vx_cwSW (mArgs y') hts hg (by rw [hw]) rfl rfl ⟨a3.1, a3.2, a4⟩ hfr) ⟨mPc_blind, hU⟩ rfl hlr h3.2.1 hstk (lv_room hdp) hdc hRc
    · have hw := mWord_none hnn2
      exact vx_runSN (As := List.map (rv ad) as) (rest := List.map (rv ad) st') ⟨hx, hb, hml, hown, hts⟩ hM ⟨va_cnB (mArgs y') hts (mGoodW (ws := []) hy' (fun _ q => by cases q)) (by rw [hw]) rfl rfl (hE.2.2.2.1 _ _ _ _ hlink) (hts _ a5) ⟨a3.1, a3.2, a4⟩ hfr, hts _ (a6 hst), trivial⟩ ⟨mPc_blind, hU⟩ rfl hlr h3.2.1 hstk (lv_room hdp) hdc hRc
  · have hy' := hyr
    have hdc := mDc hdec hd rfl rfl
    have hw := mWord_none hnn
    obtain ⟨a1, a2, a3, a4, a5, a6, a7, a8, a9, a10, -, a12, a13⟩ := mOkM_spec hy'
    have hfr : (mRoom D' mc ms).frames + 1 ≤ R.frames ∧ 8 + (mMaxL y' + 11) + (mRoom D' mc ms).locals ≤ R.locals := ⟨by show D' + 12 + 1 ≤ _; omega, by show 8 + (mMaxL y' + 11) + (60 * D' + 300) ≤ _; omega⟩
    rw [hst] at a4
    obtain ⟨f, i, j⟩ := r0
    have hret : mRT y' = none := by
      have q := mOkM_spec hy'
      exact q.2.2.2.2.2.2.2.2.2.2.1.1 (a9 hin).2
    rw [hret] at hw
    have hstk : (List.map (rv ad) ((Sum.inr (Sum.inl (some (f, i, j))) :: r).reverse ++ st')) = (List.map (rv ad) r).reverse ++ .ref (ad f i j) :: List.map (rv ad) st' := by
      simp [rv]
    have hlr : (List.map (rv ad) r).length = mArgs y' - 1 := by
      rw [List.length_map]
      have : r.length + 1 = mArgs y' := by rw [← hn, ← hlen]; rfl
      omega
    rcases hlink with hlink | ⟨hlink, hnn2⟩
    · have hg : GoodIn gTbl ([Jvm.Cond.methodLink (mCN (mOwn y)) ix (mNm y'), .instanceMethod (mNm y')] ++ (mWord y' :: gTbl)) := mGoodW hy' fun w hw => by
        simp only [List.mem_cons, List.not_mem_nil, or_false] at hw
        rcases hw with rfl | rfl
        · exact hlink
        · exact a7 hst
      exact vx_runI (b := ad f i j) (As := List.map (rv ad) r) (rest := List.map (rv ad) st') ⟨hx, hb, hml, hown, hts⟩ hM ⟨callB_of (mArgs y' - 1) hts (mGoodW (ws := []) hy' (fun _ q => by cases q)) (by rw [hw]) rfl rfl (hts _ a5) (hts _ hlink) ⟨a3.1, a3.2, a4⟩ hfr, (a9 hin).1, hts _ (a7 hst)⟩ ⟨mPc_blind, hU⟩ rfl hlr h3.2.1 hstk (lv_room hdp) hdc hRc
    · exact vx_runIN (b := ad f i j) (As := List.map (rv ad) r) (rest := List.map (rv ad) st') ⟨hx, hb, hml, hown, hts⟩ hM ⟨va_cnB (mArgs y' - 1) hts (mGoodW (ws := []) hy' (fun _ q => by cases q)) (by rw [hw]) rfl rfl (hE.2.2.2.1 _ _ _ _ hlink) (hts _ a5) ⟨a3.1, a3.2, a4⟩ hfr, (a9 hin).1, hts _ (a7 hst)⟩ ⟨mPc_blind, hU⟩ rfl hlr h3.2.1 hstk (lv_room hdp) hdc hRc
  · have hdc := mDc hdec hd rfl rfl
    have hw := mWord_none hnn
    obtain ⟨a1, a2, a3, a4, a5, a6, a7, a8, a9, a10, -, a12, a13⟩ := mOkM_spec hyr
    have hfr : (mRoom D' mc ms).frames + 1 ≤ R.frames ∧ 8 + (mMaxL y' + 11) + (mRoom D' mc ms).locals ≤ R.locals := ⟨by show D' + 12 + 1 ≤ _; omega, by show 8 + (mMaxL y' + 11) + (60 * D' + 300) ≤ _; omega⟩
    rw [hst] at a4
    have h17 : mOwn y' = 17 := Nat.eq_of_beq_eq_true hsup
    obtain ⟨s1, -, s3, -⟩ := mSam_ok hyr h17 hin
    obtain ⟨n2, e1⟩ := mIsObj_spec hobj
    have hfc := (hE.1.2.1 _ _ (mcl_at (c := 14) (by decide))).2
    have hrecv : ∃ cellB : Cell, H[ad f i j]? = some cellB ∧ cellB.vm.isStatics = false ∧ s.vm.findClass "java/lang/StringBuilder" = some cellB.cls := by
      obtain ⟨cell, q1, q2, q3, -⟩ := (h1.at e1).2.2.1 (by decide)
      exact ⟨cell, q1, by rw [q3]; rfl, by rw [q2]; exact hfc.1⟩
    have hstk : (List.map (rv ad) ((Sum.inr (Sum.inl (some (f, i, j))) :: r).reverse ++ st')) = (List.map (rv ad) r).reverse ++ .ref (ad f i j) :: List.map (rv ad) st' := by
      simp [rv]
    have hlr : (List.map (rv ad) r).length = mArgs y' - 1 := by
      rw [List.length_map]
      have : r.length + 1 = mArgs y' := by rw [← hn, ← hlen]; rfl
      omega
    have hcls : (mNm y').cls = "java/lang/AbstractStringBuilder" := by rw [a1, h17]; rfl
    have ho : mCN (mOwn y) = "java/lang/StringBuilder" := by rw [ho14]; rfl
    have hlink := mMet17 hmet hble h17
    have hg : GoodIn gTbl (va_wsSU (mCN (mOwn y)) ix (mNm y') (mWord y' :: gTbl)) := mGoodW hyr fun w hw => by
      simp only [List.mem_cons, List.not_mem_nil, or_false] at hw
      rcases hw with rfl | rfl | rfl | rfl | rfl
      · exact hlink
      · exact s1
      · rw [ho, hcls]; exact gSup
      · exact a7 hst
      · exact a5
    exact vx_runSU (C := "java/lang/StringBuilder") (b := ad f i j) (As := List.map (rv ad) r) (rest := List.map (rv ad) st') hfc ⟨hx, hb, hml, hown, hts⟩ hM (va_cwSU (mArgs y' - 1) hts hg (by rw [hw]) rfl rfl ⟨s3, a4⟩ hfr) ⟨mPc_blind, hrecv, hU⟩ rfl hlr h3.2.1 hstk (lv_room hdp) hdc hRc
end MC
