/-! CALLS OF THE SYSTEM'S OWN METHODS. -/
theorem mOkM_spec {y : Nat} (h : y < 357) : (mNm y).cls = mCN (mOwn y) ∧ plainName (mNm y).cls = true ∧ ((mNm y).cls ≠ "java/lang/invoke/MethodHandle" ∧ (mNm y).cls ≠ "java/lang/invoke/VarHandle") ∧
    (parseMethodDescriptor (mNm y).desc).map (fun d => d.parameters.length) = some (match mStat y with
      | true => mArgs y
      | false => mArgs y - 1) ∧
    Jvm.Cond.initialized (mNm y).cls ∈ gTbl ∧ (mStat y = true → Jvm.Cond.static (mNm y) ∈ gTbl) ∧ (mStat y = false → Jvm.Cond.instanceMethod (mNm y) ∈ gTbl) ∧
    (Nat.beq (mSelP y) 9999 = false → Jvm.Cond.selects (mNm y).cls (mNm y) (mNm y) ∈ gTbl) ∧ (mInit y = true → (mNm y).name = "<init>" ∧ mRet y = 0) ∧ (mStat y = false → 0 < mArgs y) ∧
    mRT y = (match mRet y with
      | 0 => none
      | 1 => some .int
      | 2 => some .boolean
      | 3 => some .char
      | 4 => some .float
      | _ => some .double) ∧ mArgs y ≤ mMaxL y ∧ mMaxL y ≤ 20 := by
  have h1 := mOkM_all h
  unfold mOkM at h1
  simp only [Bool.and_eq_true, decide_eq_true_eq] at h1
  obtain ⟨⟨⟨⟨⟨⟨⟨⟨⟨⟨⟨⟨a1, a2⟩, a3⟩, a4⟩, a5⟩, a6⟩, a7⟩, a8⟩, a9⟩, a10⟩, a11⟩, a12⟩, a13⟩ := h1
  refine ⟨a1, a2, ⟨a3, a4⟩, a5, gTbl_of _ a6 rfl, fun z => ?_, fun z => ?_, fun z => ?_, fun z => ?_, fun z => ?_, a12, Nat.le_of_ble_eq_true a13, Nat.le_of_ble_eq_true a10⟩
  · rw [z] at a7
    exact gTbl_of _ a7 rfl
  · rw [z] at a7
    exact gTbl_of _ a7 rfl
  · rw [z] at a8
    exact gTbl_of _ (of_decide_eq_true a8) rfl
  · rw [z] at a9
    dsimp only at a9
    rw [Bool.and_eq_true, decide_eq_true_eq] at a9
    exact ⟨a9.1, Nat.eq_of_beq_eq_true a9.2⟩
  · rw [z] at a11
    exact Nat.le_of_ble_eq_true a11
set_option maxRecDepth 100000 in
theorem mOwn13 {y : Nat} (h : y < 357) (hs : mStat y = false) : mOwn y < 13 := by
  have key : ∀ y, y < 357 → mStat y = false → mOwn y < 13 := by decide +kernel
  exact key y h hs
/-- the state of the world at a method's start, by pictures -/
def mPc (D : va_G) (ad : mAd) (b0 na : Nat) (h : mH) (as : List mV) : Array Value → State → Prop := va_Pc (as.map (rv ad)) (fun U => mRel D ad b0 na h U U.heap ∧ mEv ad b0 D U)
def mQo (D : va_G) (ad : mAd) (b0 : Nat) (hf : mH) (o : mOut) : Array Value → State → Outcome → State → Prop := fun _ st oc t => ∃ r, o = .inl r ∧ oc = .returned (r.map (rv ad)) ∧ (∃ na, mRel D ad b0 na hf t t.heap) ∧ va_F (mA b0) st t
def mXo (D : va_G) (ad : mAd) (b0 : Nat) (hf : mH) (o : mOut) : String → State → State → Prop := fun X st t => ∃ E, o = .inr E ∧ X = mXN E ∧ 0 < E ∧ E < 4 ∧ (∃ na, mRel D ad b0 na hf t t.heap) ∧ va_F (mA b0) st t
def mRm (D' mc ms : Nat) : Room := { frames := D' + 12, cells := mc, slots := ms, locals := 60 * D' + 200 }
theorem mEv.carry {ad : mAd} {b0 : Nat} {D : va_G} {s U : State} (hE : mEv ad b0 D s) (hz : s.heap.size ≤ U.heap.size) (hq : ∀ a : Nat, a < s.heap.size → ¬ mA b0 a → U.heap[a]? = s.heap[a]?) (hW : s.WarmedH U.vm) : mEv ad b0 D U :=
  ⟨⟨hE.1.1, va_K.moved hW.alike hE.1.2⟩, mOldW.moved hW.alike (hE.2.1.kept hz hq), hE.2.2.warm hW⟩
theorem mPc_blind {D : va_G} {ad : mAd} {b0 na : Nat} {h : mH} {as : List mV} : FrameBlind (mPc D ad b0 na h as) := fun a U g mk q => by
  obtain ⟨q0, q1, ⟨q2, q3⟩, q4, q5⟩ := q
  exact ⟨q0, mRel.moved (u := U) (U := U.calling g mk a) (Vm.Alike.refl U.vm) q1, ⟨q2, va_K.moved (u := U) (U := U.calling g mk a) (Vm.Alike.refl U.vm) q3⟩, mOldW.moved (u := U) (U := U.calling g mk a) (Vm.Alike.refl U.vm) q4, mOldS.same (u := U) (U := U.calling g mk a) rfl q5⟩
/-- how a call stands: its instruction, what it links, what it hands over -/
def mCallOk (y : Nat) (h : mH) (ins : Instr) (st : mSt) (y' : Nat) (as : List mV) (st' : mSt) : Prop :=
  ∃ ix n, mMet (mOwn y) ix = some (y', n) ∧ Nat.ble 1000 y' = false ∧ mDeep st' = true ∧ st = as.reverse ++ st' ∧ as.length = n ∧
    ((ins = .invokevirtual ix ∧ mVirtK y' = true ∧ ∃ f i j r, as = .inr (.inl (some (f, i, j))) :: r ∧ mIsObj (mSh h f i j) (mOwn y') = true) ∨
     (ins = .invokestatic ix ∧ mStat y' = true) ∨
     (ins = .invokespecial ix ∧ mInit y' = true ∧ mStat y' = false ∧ (mHH y').isNone = true ∧ ∃ r0 r, as = .inr (.inl (some r0)) :: r))
theorem mWord_none {y : Nat} (h : (mHH y).isNone = true) : mWord y = .code (mNm y) (mByt y) (mMaxL y) (mRT y) := by
  unfold mWord
  cases hh : mHH y with
  | none => rfl
  | some z => rw [hh] at h; cases h
theorem mWord_some {y : Nat} {hh : List (Nat × Nat × Nat × Nat)} (h : mHH y = some hh) : mWord y = .codeWith (mNm y) (mByt y) (mMaxL y) (mRT y) hh := by
  unfold mWord
  rw [h]
theorem mGoodW {y : Nat} (hy : y < 357) {ws : List Jvm.Cond} (h : ∀ w ∈ ws, w ∈ gTbl) : GoodIn gTbl (ws ++ (mWord y :: gTbl)) := gGood fun w hw => by
  rcases List.mem_append.mp hw with q | q
  · exact h w q
  · rcases List.mem_cons.mp q with rfl | q
    · exact mWord_in hy
    · exact q
section MC
variable {p : Program} {l : Launch} {e : Env} {R : Room} {s : State} {m : MethodId} {args : Array Value} {below : List Frame} {meth : Method} {c : Code} {D : va_G} {ad : mAd} {b0 y c0 s0 : Nat} {Z : State → Prop} {h : mH} {pc : Nat} {lo : mLo} {st : mSt}
/-- the call, as the kit runs it -/
theorem mi_run {ins : Instr} {y' D' mc ms na : Nat} {as : List mV} {st' : mSt} {H : Heap} {locs : List Loc} {ls : Array Slot} {cells slots : Nat} {Qc : Array Value → State → Outcome → State → Prop} {XC : String → State → State → Prop} (hF : mFr y p s m args meth c) (hE : mEv ad b0 D s) (hd : cd y pc = some ins) (hcall : mCallOk y h ins st y' as st')
    (hM : vx_Met l (mNm y') (mWord y' :: gTbl) (mRm D' mc ms) (mPc D ad b0 na h as) Qc XC mc ms (mA b0)) (hR : D' + 13 ≤ R.frames ∧ 60 * D' + 260 ≤ R.locals) (hRc : cells + mc ≤ R.cells ∧ slots + ms ≤ R.slots)
    (h1 : mRel D ad b0 na h s H) (h2 : va_S (mA b0) s.heap H locs) (h3 : mLoc ad (mMaxL y) lo ls) :
    vx_Run p l e R s m args below meth c H locs cells slots mc ms (F0 m pc ls (st.map (rv ad))) (st'.map (rv ad)) (Qc (as.map (rv ad)).toArray) XC (mA b0) := by
  obtain ⟨ix, n, hmet, hble, hdeep, rfl, hlen, hkind⟩ := hcall
  obtain ⟨hx, hb, hml, hown, hts, ⟨-, hdec⟩, -⟩ := hF
  obtain ⟨hy', hn, hlink⟩ := mMet_ok hmet hble
  obtain ⟨a1, a2, a3, a4, a5, a6, a7, a8, a9, a10, -, a12, a13⟩ := mOkM_spec hy'
  have hdp := mDeep_ok (ad := ad) hdeep
  have hU : ∀ U : State, U.heap = H → s.WarmedH U.vm → mPc D ad b0 na h as (as.map (rv ad)).toArray U := fun U hU hW => by
    refine ⟨rfl, ?_, hE.carry (by rw [hU]; exact h2.1) (by rw [hU]; exact h2.2.1) hW⟩
    show mRel D ad b0 na h U U.heap
    rw [hU]
    exact mRel.moved hW.alike h1
  have hfr : (mRm D' mc ms).frames + 1 ≤ R.frames ∧ 8 + (mMaxL y' + 11) + (mRm D' mc ms).locals ≤ R.locals := ⟨by show D' + 12 + 1 ≤ _; omega, by show 8 + (mMaxL y' + 11) + (60 * D' + 200) ≤ _; omega⟩
  rcases hkind with ⟨rfl, hvk, f, i, j, r, rfl, hobj⟩ | ⟨rfl, hst⟩ | ⟨rfl, hin, hst, hnn, r0, r, rfl⟩
  · unfold mVirtK at hvk
    simp only [Bool.and_eq_true, Bool.not_eq_true'] at hvk
    obtain ⟨⟨hst, hsel⟩, hnn⟩ := hvk
    have hdc := mDc hdec hd rfl rfl
    have hw := mWord_none hnn
    obtain ⟨n2, e1⟩ := mIsObj_spec hobj
    rw [hst] at a4
    have hci : mOwn y' < 13 ∨ 13 ≤ mOwn y' := Nat.lt_or_ge _ _
    have hrecv : ∃ cellB : Cell, H[ad f i j]? = some cellB ∧ cellB.vm.isStatics = false ∧ s.vm.findClass (mNm y').cls = some cellB.cls := by
      have hci : mOwn y' < 13 := mOwn13 hy' hst
      obtain ⟨cell, q1, q2, q3, -⟩ := (h1.at e1).2.2.1 hci
      have hfc := (hE.1.2.1 _ _ (mcl_at hci)).2.1
      exact ⟨cell, q1, by rw [q3]; rfl, by rw [a1, q2]; exact hfc⟩
    have hstk : (List.map (rv ad) ((Sum.inr (Sum.inl (some (f, i, j))) :: r).reverse ++ st')) = (List.map (rv ad) r).reverse ++ .ref (ad f i j) :: List.map (rv ad) st' := by
      simp [rv]
    have hlr : (List.map (rv ad) r).length = mArgs y' - 1 := by
      rw [List.length_map]
      have : r.length + 1 = mArgs y' := by rw [← hn, ← hlen]; rfl
      omega
    rcases hlink with hlink | ⟨hlink, hnn2⟩
    · have hg : GoodIn gTbl (wsV (mCN (mOwn y)) ix (mNm y').cls (mNm y') (mWord y' :: gTbl)) := mGoodW hy' fun w hw => by
        simp only [List.mem_cons, List.not_mem_nil, or_false] at hw
        rcases hw with rfl | rfl | rfl | rfl
        · exact hlink
        · exact a7 hst
        · exact a8 hsel
        · exact a5
      exact vx_runV (C := (mNm y').cls) (b := ad f i j) (As := List.map (rv ad) r) (rest := List.map (rv ad) st') ⟨hx, hb, hml, hown, hts⟩ hM (cwV (mArgs y' - 1) hts hg (by rw [hw]) rfl rfl ⟨rfl, a3.1, a3.2, a4⟩ hfr) ⟨mPc_blind, hrecv, hU⟩ rfl hlr h3.2.1 hstk (lv_room hdp) hdc hRc
    · exact vx_runVN (C := (mNm y').cls) (b := ad f i j) (As := List.map (rv ad) r) (rest := List.map (rv ad) st') ⟨hx, hb, hml, hown, hts⟩ hM ⟨va_cnB (mArgs y' - 1) hts (mGoodW (ws := []) hy' (fun _ q => by cases q)) (by rw [hw]) rfl rfl (hE.2.2.2.1 _ _ _ _ hlink) (hts _ a5) ⟨a3.1, a3.2, a4⟩ hfr, hts _ (a7 hst), hts _ (a8 hsel)⟩ ⟨mPc_blind, hrecv, hU⟩ rfl hlr h3.2.1 hstk (lv_room hdp) hdc hRc
  · have hdc := mDc hdec hd rfl rfl
    rw [hst] at a4
    have hstk : (List.map (rv ad) (as.reverse ++ st')) = (List.map (rv ad) as).reverse ++ List.map (rv ad) st' := by simp
    have hlr : (List.map (rv ad) as).length = mArgs y' := by rw [List.length_map, hlen, hn]
    rcases hlink with hlink | ⟨hlink, hnn2⟩
    · have hg : GoodIn gTbl (va_wsS (mCN (mOwn y)) ix (mNm y') (mWord y' :: gTbl)) := mGoodW hy' fun w hw => by
        simp only [List.mem_cons, List.not_mem_nil, or_false] at hw
        rcases hw with rfl | rfl | rfl
        · exact hlink
        · exact a6 hst
        · exact a5
      cases hhh : mHH y' with
      | none =>
        have hw := mWord_none (y := y') (by rw [hhh]; rfl)
        exact vx_runS (As := List.map (rv ad) as) (rest := List.map (rv ad) st') ⟨hx, hb, hml, hown, hts⟩ hM (va_cwS (mArgs y') hts hg (by rw [hw]) rfl rfl ⟨a3.1, a3.2, a4⟩ hfr) ⟨mPc_blind, hU⟩ rfl hlr h3.2.1 hstk (lv_room hdp) hdc hRc
      | some hh =>
        have hw := mWord_some hhh
        exact vx_runSX (As := List.map (rv ad) as) (rest := List.map (rv ad) st') ⟨hx, hb, hml, hown, hts⟩ hM (vx_cwSW (mArgs y') hts hg (by rw [hw]) rfl rfl ⟨a3.1, a3.2, a4⟩ hfr) ⟨mPc_blind, hU⟩ rfl hlr h3.2.1 hstk (lv_room hdp) hdc hRc
    · have hw := mWord_none hnn2
      exact vx_runSN (As := List.map (rv ad) as) (rest := List.map (rv ad) st') ⟨hx, hb, hml, hown, hts⟩ hM ⟨va_cnB (mArgs y') hts (mGoodW (ws := []) hy' (fun _ q => by cases q)) (by rw [hw]) rfl rfl (hE.2.2.2.1 _ _ _ _ hlink) (hts _ a5) ⟨a3.1, a3.2, a4⟩ hfr, hts _ (a6 hst), trivial⟩ ⟨mPc_blind, hU⟩ rfl hlr h3.2.1 hstk (lv_room hdp) hdc hRc
  · have hdc := mDc hdec hd rfl rfl
    have hw := mWord_none hnn
    rw [hst] at a4
    obtain ⟨f, i, j⟩ := r0
    have hret : mRT y' = none := by
      have q := mOkM_spec hy'
      rw [q.2.2.2.2.2.2.2.2.2.2.1, (a9 hin).2]
      rfl
    rw [hret] at hw
    have hstk : (List.map (rv ad) ((Sum.inr (Sum.inl (some (f, i, j))) :: r).reverse ++ st')) = (List.map (rv ad) r).reverse ++ .ref (ad f i j) :: List.map (rv ad) st' := by
      simp [rv]
    have hlr : (List.map (rv ad) r).length = mArgs y' - 1 := by
      rw [List.length_map]
      have : r.length + 1 = mArgs y' := by rw [← hn, ← hlen]; rfl
      omega
    rcases hlink with hlink | ⟨hlink, hnn2⟩
    · have hg : GoodIn gTbl ([Jvm.Cond.methodLink (mCN (mOwn y)) ix (mNm y'), .instanceMethod (mNm y')] ++ (mWord y' :: gTbl)) := mGoodW hy' fun w hw => by
        simp only [List.mem_cons, List.not_mem_nil, or_false] at hw
        rcases hw with rfl | rfl
        · exact hlink
        · exact a7 hst
      exact vx_runI (b := ad f i j) (As := List.map (rv ad) r) (rest := List.map (rv ad) st') ⟨hx, hb, hml, hown, hts⟩ hM ⟨callB_of (mArgs y' - 1) hts (mGoodW (ws := []) hy' (fun _ q => by cases q)) (by rw [hw]) rfl rfl (hts _ a5) (hts _ hlink) ⟨a3.1, a3.2, a4⟩ hfr, (a9 hin).1, hts _ (a7 hst)⟩ ⟨mPc_blind, hU⟩ rfl hlr h3.2.1 hstk (lv_room hdp) hdc hRc
    · exact vx_runIN (b := ad f i j) (As := List.map (rv ad) r) (rest := List.map (rv ad) st') ⟨hx, hb, hml, hown, hts⟩ hM ⟨va_cnB (mArgs y' - 1) hts (mGoodW (ws := []) hy' (fun _ q => by cases q)) (by rw [hw]) rfl rfl (hE.2.2.2.1 _ _ _ _ hlink) (hts _ a5) ⟨a3.1, a3.2, a4⟩ hfr, (a9 hin).1, hts _ (a7 hst)⟩ ⟨mPc_blind, hU⟩ rfl hlr h3.2.1 hstk (lv_room hdp) hdc hRc
end MC
