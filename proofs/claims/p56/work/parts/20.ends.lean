/-! THE SYSTEM'S METHODS, BY THE SMALL MACHINE. -/
def mThN : List String := ["java/lang/RuntimeException", "java/lang/Exception"]
def mThD : List MethodName := ["java/lang/RuntimeException", "java/lang/Exception", "java/lang/Throwable"].map fun c => ⟨c, "<init>", "(Ljava/lang/String;)V"⟩
set_option maxRecDepth 100000 in
theorem mThD_ok : ∀ x ∈ mThD, Jvm.Cond.declares x ∈ lw_tbl := by decide +kernel
set_option maxRecDepth 100000 in
theorem mThG_2 : ∀ w ∈ (vx_atS "CardCastle" 401 "java/lang/IndexOutOfBoundsException" mThN).filter goodWord, w ∈ lw_tbl := by decide +kernel
set_option maxRecDepth 100000 in
theorem mThB_2 : ∀ w ∈ (vx_atS "CardCastle" 401 "java/lang/IndexOutOfBoundsException" mThN).filter (fun w => !goodWord w), w ∈ Jvm.Cond.castable "java/lang/IndexOutOfBoundsException" "java/lang/IndexOutOfBoundsException" :: mThD.map Jvm.Cond.declares := by decide +kernel
set_option maxRecDepth 100000 in
theorem mThO_2 : ∀ w ∈ Jvm.Cond.classLink "CardCastle" 397 "java/lang/IndexOutOfBoundsException" :: .initialized "java/lang/IndexOutOfBoundsException" :: vx_atS "CardCastle" 401 "java/lang/IndexOutOfBoundsException" mThN, vx_ot w = true := by decide +kernel
set_option maxRecDepth 100000 in
theorem mThC_2 : Jvm.Cond.classLink "CardCastle" 397 "java/lang/IndexOutOfBoundsException" ∈ lw_tbl ∧ Jvm.Cond.initialized "java/lang/IndexOutOfBoundsException" ∈ lw_tbl := by decide +kernel
set_option maxRecDepth 100000 in
theorem mThG_3 : ∀ w ∈ (vx_atS "CardCastle" 406 "java/lang/IllegalArgumentException" mThN).filter goodWord, w ∈ lw_tbl := by decide +kernel
set_option maxRecDepth 100000 in
theorem mThB_3 : ∀ w ∈ (vx_atS "CardCastle" 406 "java/lang/IllegalArgumentException" mThN).filter (fun w => !goodWord w), w ∈ Jvm.Cond.castable "java/lang/IllegalArgumentException" "java/lang/IllegalArgumentException" :: mThD.map Jvm.Cond.declares := by decide +kernel
set_option maxRecDepth 100000 in
theorem mThO_3 : ∀ w ∈ Jvm.Cond.classLink "CardCastle" 402 "java/lang/IllegalArgumentException" :: .initialized "java/lang/IllegalArgumentException" :: vx_atS "CardCastle" 406 "java/lang/IllegalArgumentException" mThN, vx_ot w = true := by decide +kernel
set_option maxRecDepth 100000 in
theorem mThC_3 : Jvm.Cond.classLink "CardCastle" 402 "java/lang/IllegalArgumentException" ∈ lw_tbl ∧ Jvm.Cond.initialized "java/lang/IllegalArgumentException" ∈ lw_tbl := by decide +kernel
set_option maxRecDepth 100000 in
theorem mThG_1 : ∀ w ∈ (vx_atS "CardCastle" 394 "java/lang/IllegalStateException" mThN).filter goodWord, w ∈ lw_tbl := by decide +kernel
set_option maxRecDepth 100000 in
theorem mThB_1 : ∀ w ∈ (vx_atS "CardCastle" 394 "java/lang/IllegalStateException" mThN).filter (fun w => !goodWord w), w ∈ Jvm.Cond.castable "java/lang/IllegalStateException" "java/lang/IllegalStateException" :: mThD.map Jvm.Cond.declares := by decide +kernel
set_option maxRecDepth 100000 in
theorem mThO_1 : ∀ w ∈ Jvm.Cond.classLink "CardCastle" 390 "java/lang/IllegalStateException" :: .initialized "java/lang/IllegalStateException" :: vx_atS "CardCastle" 394 "java/lang/IllegalStateException" mThN, vx_ot w = true := by decide +kernel
set_option maxRecDepth 100000 in
theorem mThC_1 : Jvm.Cond.classLink "CardCastle" 390 "java/lang/IllegalStateException" ∈ lw_tbl ∧ Jvm.Cond.initialized "java/lang/IllegalStateException" ∈ lw_tbl := by decide +kernel
section MM
variable {p : Program} {l : Launch} {e : Env} {R : Room} {s : State} {m : MethodId} {args : Array Value} {below : List Frame} {meth : Method} {c : Code} {D : va_G} {ad : mAd} {b0 y c0 s0 : Nat} {Z : State → Prop} {h : mH} {pc : Nat} {lo : mLo} {st : mSt}
theorem mThrowAt {H : Heap} {locs : List Loc} {ls : Array Slot} {rest : List Value} {na E ik is ic : Nat} {text cls : String} {out : mOut} {hf : mH} (hfl : l.stackTraces = false) (hF : mFr y p s m args meth c) (hE : mEv ad b0 D s) (hT : mTab y c) (hlocks : meth.locks = false) (hR : 12 ≤ R.frames ∧ 300 ≤ R.locals) (hRc : mCt hf - c0 ≤ R.cells ∧ mSl hf - s0 ≤ R.slots)
    (hE0 : 0 < E) (hE4 : E < 4) (hcls : mXN E = cls) (hfit : Bundle.fit cls = true) (how : mCN (mOwn y) = "CardCastle") (hnt : mHHl y = [])
    (hg : ∀ w ∈ (vx_atS "CardCastle" ic cls mThN).filter goodWord, w ∈ lw_tbl) (hb2 : ∀ w ∈ (vx_atS "CardCastle" ic cls mThN).filter (fun w => !goodWord w), w ∈ Jvm.Cond.castable cls cls :: mThD.map Jvm.Cond.declares) (hot : ∀ w ∈ Jvm.Cond.classLink "CardCastle" ik cls :: .initialized cls :: vx_atS "CardCastle" ic cls mThN, vx_ot w = true)
    (hw : Jvm.Cond.classLink "CardCastle" ik cls ∈ lw_tbl ∧ Jvm.Cond.initialized cls ∈ lw_tbl) (hmsg : (is, text) ∈ mMsg)
    (d0 : cd y pc = some (.new ik)) (d3 : cd y (pc + 3) = some .dup) (d4 : cd y (pc + 4) = some (.ldc_w is)) (d7 : cd y (pc + 7) = some (.invokespecial ic)) (d10 : cd y (pc + 10) = some .athrow)
    (ho : out = .inr E) (hh : hf = mThrown h) (h1 : mRel D ad b0 na h s H) (h2 : va_S (mA b0) s.heap H locs) (hls : ls.size = mMaxL y) (h4 : c0 ≤ mCt h) (h5 : s0 ≤ mSl h) (hrest : (rest.map fun v => v.category).sum ≤ 8) :
    W p l e R s m args below meth c H locs (mCt h - c0) (mSl h - s0) (vx_MQ below (mQo D ad b0 hf out) (mXo D ad b0 hf out) args s (mCt hf - c0) (mSl hf - s0) (mA b0)) (F0 m pc ls rest) := by
  obtain ⟨hx, hb, hml, hown, hts, ⟨-, hdec⟩, -⟩ := hF
  rw [how] at hown
  obtain ⟨sa, hsa⟩ := hE.2.2.2.2.2.2.2.2.2.1 _ hmsg
  subst hcls
  have hcf : mCt hf = mCt h + 1 ∧ mSl hf = mSl h + 6 := by rw [hh]; exact ⟨rfl, rfl⟩
  have hgt : ∀ w ∈ lw_tbl, goodWord w = true → w.before args s = true := fun w h1 h2 => hts w (List.mem_filter.mpr ⟨h1, h2⟩)
  have hat : ∀ w ∈ vx_atS "CardCastle" ic (mXN E) mThN, w.before args s = true := vx_hat (fun w hw => hgt w (hg w hw) (List.mem_filter.mp hw).2) hb2 (fun w hw => by
    rcases List.mem_cons.mp hw with rfl | hw
    · exact va_Nw.use rfl (hE.2.2.2.2.2.1 E hE0 hE4)
    · obtain ⟨x, hx, rfl⟩ := List.mem_map.mp hw
      exact va_Nw.use rfl (hE.2.2.2.2.2.2.2.2.2.2 x (mThD_ok x hx)))
  refine vx_throwSW (own := "CardCastle") (cls := mXN E) (text := text) (names := mThN) (ik := ik) (is := is) (ic := ic) (sa := sa) (A := mA b0) hx hb hfl hown hfit (by decide) (hgt _ hw.1 rfl) (hgt _ hw.2 rfl) hsa hat hot hE.2.1.2.2.2.1 hE.2.1.2.2.2.2.1 h2 (by rw [hls, hml])
    (mDc hdec d0 rfl rfl) (mDc hdec d3 rfl rfl) (mDc hdec d4 rfl rfl) (mDc hdec d7 rfl rfl) (mDc hdec d10 rfl rfl) (fun x hx => by rw [hT, hnt] at hx; cases hx) (by show 2 + 3 < _; omega) (by show _ + (13 * (2 + 1) + 43) ≤ _; omega) (by omega) (by omega) hlocks (fun t hal hz hq => ?_) h2.2.2 (by omega) (by omega)
  refine ⟨E, ho, rfl, hE0, hE4, ⟨na + 1, ?_⟩, by have := h2.1; omega, fun q q1 q2 => (hq q (Nat.lt_of_lt_of_le q1 h2.1)).trans (h2.2.1 q q1 q2)⟩
  rw [hh]
  exact mRel.moved hal (mRel.thrown hE.1.1 h1 hz hq)
theorem mEnds_MQ {out : mOut} {hf : mH} (hfl : l.stackTraces = false) (hF : mFr y p s m args meth c) (hE : mEv ad b0 D s) (hT : mTab y c) (hr : meth.sig.returnType = mRT y) (hlocks : meth.locks = false) (hy : y < 245) (hR : 12 ≤ R.frames ∧ 300 ≤ R.locals) (hRc : mCt hf - c0 ≤ R.cells ∧ mSl hf - s0 ≤ R.slots) :
    mEnds p l e R s m args below meth c D ad b0 y c0 s0 (vx_MQ below (mQo D ad b0 hf out) (mXo D ad b0 hf out) args s (mCt hf - c0) (mSl hf - s0) (mA b0)) out hf := by
  have hRT := (mOkM_spec hy).2.2.2.2.2.2.2.2.2.2.1
  refine ⟨fun r pc lo ins ho hd hrk H locs ls na h1 h2 h3 h4 h5 => ?_, fun E pc H locs ls rest na q ce ho hE0 hE4 h1 h2 hq hv hcl hn h4 h5 => ?_, fun pc ix ci n lo st h hd hn hle ho hh hdp H locs ls na h1 h2 h3 h4 h5 => ?_⟩
  · refine vx_ret ?_
    have hqq : ∀ t : State, t.heap = H → s.WarmedH t.vm → mQo D ad b0 hf out args s (.returned (r.map (rv ad))) t := fun t ht hW => ⟨r, ho, rfl, ⟨na, by rw [ht]; exact mRel.moved hW.alike h1⟩, va_S.F h2 ht⟩
    have hdec := hF.2.2.2.2.2.1.2
    unfold mRetOk at hrk
    split at hrk
    · exact W.vret hF.1 hF.2.1 (hr.trans (hRT.1 (Nat.eq_of_beq_eq_true hrk))) hqq h2.2.2 (mDc hdec hd rfl rfl) hlocks
    · rename_i x
      simp only [Bool.or_eq_true, Bool.and_eq_true] at hrk
      rcases hrk with ((⟨hrk, hx0⟩ | hrk) | ⟨hrk, hz⟩) | ⟨⟨hrk, hx0⟩, hx1⟩
      · refine W.zret hF.1 hF.2.1 (hr.trans (hRT.2.2.2.2.2.2.2.1 (Nat.eq_of_beq_eq_true hrk))) ?_ hqq h2.2.2 (mDc hdec hd rfl rfl) hlocks
        rw [decide_eq_true_eq] at hx0
        subst hx0
        rfl
      · exact W.iret hF.1 hF.2.1 (hr.trans (hRT.2.1 (Nat.eq_of_beq_eq_true hrk))) hqq h2.2.2 (mDc hdec hd rfl rfl) hlocks
      · refine W.zret hF.1 hF.2.1 (hr.trans (hRT.2.2.1 (Nat.eq_of_beq_eq_true hrk))) ?_ hqq h2.2.2 (mDc hdec hd rfl rfl) hlocks
        unfold mZ at hz
        rw [Bool.or_eq_true, decide_eq_true_eq, decide_eq_true_eq] at hz
        rcases hz with rfl | rfl <;> rfl
      · refine W.zret hF.1 hF.2.1 (hr.trans (hRT.2.2.2.1 (Nat.eq_of_beq_eq_true hrk))) ?_ hqq h2.2.2 (mDc hdec hd rfl rfl) hlocks
        have hx0' : ¬ x < 0 := by simpa using hx0
        have hx1' : x.toNatClampNeg < 65536 := Nat.le_of_ble_eq_true hx1
        have h0 : 0 ≤ x.toInt := by
          have := Int32.not_lt.mp hx0'
          simpa using Int32.le_iff_toInt_le.mp this
        have h1' : x.toInt < 65536 := by
          have : x.toInt.toNat < 65536 := hx1'
          omega
        show Value.int x.toUInt32.toUInt16.toUInt32.toInt32 = _
        rw [lg_i2c_small h0 h1']
    · exact W.fret hF.1 hF.2.1 (hr.trans (hRT.2.2.2.2.1 (Nat.eq_of_beq_eq_true hrk))) hqq h2.2.2 (mDc hdec hd rfl rfl) hlocks
    · exact W.lret hF.1 hF.2.1 (hr.trans (hRT.2.2.2.2.2.2.1 (Nat.eq_of_beq_eq_true hrk))) hqq h2.2.2 (mDc hdec hd rfl rfl) hlocks
    · rename_i v
      obtain ⟨f, i, j⟩ := v
      obtain ⟨ty, ht1, ht2⟩ := hRT.2.2.2.2.2.2.2.2 (Nat.eq_of_beq_eq_true hrk)
      exact W.aret hF.1 hF.2.1 (hr.trans ht1) (by cases ty <;> first | exact Or.inl ⟨_, rfl⟩ | exact Or.inr ⟨_, rfl⟩ | cases ht2) (Or.inr ⟨_, rfl⟩) hqq h2.2.2 (mDc hdec hd rfl rfl) hlocks
    · exact W.dret hF.1 hF.2.1 (hr.trans (hRT.2.2.2.2.2.1 (Nat.eq_of_beq_eq_true hrk))) hqq h2.2.2 (mDc hdec hd rfl rfl) hlocks
    · exact hrk.elim
  · rw [mHnd_F] at hn
    have hp := (mHndF_spec (mHndC_ok y hF.2.2.2.2.2.1.1)).2 hn
    refine vx_outP (own := mCN (mOwn y)) (E := mXN E) hF.2.2.2.1 hlocks (fun z hz => ?_) hq hv hcl (fun t ht hal => ⟨E, ho, rfl, hE0, hE4, ⟨na, by rw [ht]; exact mRel.moved hal h1⟩, va_S.F h2 ht⟩) h2.2.2 (Nat.le_refl _) (Nat.le_refl _)
    rw [hT] at hz
    unfold tableOf at hz
    obtain ⟨z0, hz0, rfl⟩ := List.mem_map.mp hz
    rcases hp z0 hz0 with g | ⟨g1, E', g2, g3, g4, g5⟩
    · exact Or.inl g
    · exact Or.inr ⟨g1, mXN E', hF.2.2.2.2.1 _ g5, hE.2.2.2.2.2.2.1 E E' hE0 hE4 g2 g3 (fun z => g4 z.symm)⟩
  · have hs : mThrS y pc = true := by
      unfold mThrS
      rw [hd]
      dsimp only
      rw [hn]
      exact hle
    rcases mThr_all hF.2.2.2.2.2.1.1 hs with ⟨rfl, rfl⟩ | ⟨rfl, rfl⟩ | ⟨rfl, rfl⟩
    · have e1 : cd 106 9 = some (.new 397) := rfl
      cases e1.symm.trans hd
      have e2 : mNew (mOwn 106) 397 = some (902, 0) := rfl
      cases e2.symm.trans hn
      exact mThrowAt (E := 2) (ik := 397) (is := 399) (ic := 401) (text := "no such card, place or index") (cls := "java/lang/IndexOutOfBoundsException") hfl hF hE hT hlocks hR hRc (by decide) (by decide) rfl (by decide +kernel) rfl rfl mThG_2 mThB_2 mThO_2 mThC_2 (by decide +kernel) rfl rfl rfl rfl rfl ho hh h1 h2 h3.2.1 h4 h5 (mDeep_ok hdp)
    · have e1 : cd 107 4 = some (.new 402) := rfl
      cases e1.symm.trans hd
      have e2 : mNew (mOwn 107) 402 = some (903, 0) := rfl
      cases e2.symm.trans hn
      exact mThrowAt (E := 3) (ik := 402) (is := 404) (ic := 406) (text := "not possible with these arguments") (cls := "java/lang/IllegalArgumentException") hfl hF hE hT hlocks hR hRc (by decide) (by decide) rfl (by decide +kernel) rfl rfl mThG_3 mThB_3 mThO_3 mThC_3 (by decide +kernel) rfl rfl rfl rfl rfl ho hh h1 h2 h3.2.1 h4 h5 (mDeep_ok hdp)
    · have e1 : cd 115 4 = some (.new 390) := rfl
      cases e1.symm.trans hd
      have e2 : mNew (mOwn 115) 390 = some (901, 0) := rfl
      cases e2.symm.trans hn
      exact mThrowAt (E := 1) (ik := 390) (is := 392) (ic := 394) (text := "there is nothing for this call") (cls := "java/lang/IllegalStateException") hfl hF hE hT hlocks hR hRc (by decide) (by decide) rfl (by decide +kernel) rfl rfl mThG_1 mThB_1 mThO_1 mThC_1 (by decide +kernel) rfl rfl rfl rfl rfl ho hh h1 h2 h3.2.1 h4 h5 (mDeep_ok hdp)
theorem mIsArI_spec {o : Option (Nat × Nat)} (h : mIsArI o = true) : ∃ n, o = some (20, n) ∧ n ≤ 100000 := by
  unfold mIsArI at h
  split at h
  · rename_i k n
    rw [Bool.and_eq_true] at h
    rw [Nat.eq_of_beq_eq_true h.1]
    exact ⟨n, rfl, Nat.le_of_ble_eq_true h.2⟩
  · cases h
theorem mStk {n : Nat} {as : List mV} (h : (st.take n).reverse = as) : st = as.reverse ++ st.drop n := by
  rw [← h, List.reverse_reverse, List.take_append_drop]
set_option maxRecDepth 100000 in
/-- String's methods are named by plain links alone -/
theorem mStB_link {yr own ix : Nat} (h : yr < 245) (hz : mStB yr ≠ 0) : ¬ Jvm.Cond.methodLinkNest (mCN own) ix (mNm yr) "CardCastle" ∈ lw_tbl := by
  have key : ∀ y, y < 245 → mStB y ≠ 0 → (mNm y).cls = "java/lang/String" := by decide +kernel
  have key2 : (lw_tbl.all fun w => match w with
    | .methodLinkNest _ _ x _ => decide (x.cls ≠ "java/lang/String")
    | _ => true) = true := by decide +kernel
  intro hm
  have := List.all_eq_true.mp key2 _ hm
  dsimp only at this
  rw [key yr h hz] at this
  exact absurd this (by decide)
theorem mxS_sound {ix n i k : Nat} {yr : Nat} {as : List mV} {st0 : mSt} {K : mS → Prop} {cf sf : Nat} (hF : mFr y p s m args meth c) (hE : mEv ad b0 D s) (hJ : mJdk l ad b0) (hR : 12 ≤ R.frames ∧ 300 ≤ R.locals) (hRc : cf - c0 ≤ R.cells ∧ sf - s0 ≤ R.slots) (hct : mCt h ≤ cf ∧ mSl h ≤ sf) (hd : cd y pc = some (.invokevirtual ix)) (hm : mMet (mOwn y) ix = some (yr, n)) (hble : Nat.ble 1000 yr = false)
    (hs : st0 = (.inr (.inl (some (3, i, k))) :: as).reverse ++ st) (hk : mxS (mOwn y) yr i k as pc lo st h K)
    (hgo : ∀ pc' lo' st' h', K (.inl (pc', lo', st', h')) → mW p l e R s m args below meth c D ad b0 y c0 s0 Z h' pc' lo' st') : mW p l e R s m args below meth c D ad b0 y c0 s0 Z h pc lo st0 := by
  obtain ⟨hyr, -, hlink⟩ := mMet_ok hm hble
  have hS := mStB_ok yr (by omega)
  unfold mxS at hk
  split at hk
  · exact hk.elim
  · rename_i h3
    cases Nat.eq_of_beq_eq_true h3
    have hl : mStB yr ≠ 0 → Jvm.Cond.methodLink (mCN (mOwn y)) ix (mNm yr) ∈ gTbl := fun hz => by
      rcases hlink with hlink | ⟨hlink, -⟩
      · exact hlink
      · exact absurd hlink (mStB_link hyr hz)
    split at hk
    · rename_i hb
      have hl := hl (by rw [hb]; decide)
      rw [hS.1 hb] at hl
      subst hs
      split at hk
      · replace hk := mck_iff.mp hk
        obtain ⟨hb, hk⟩ := hk
        rw [Bool.and_eq_true] at hb
        exact mi_len hF hE hJ hR hRc hct hd hl (mTxO_k (Nat.le_of_ble_eq_true hb.1)) hb.2 (hgo _ _ _ _ hk)
      · replace hk := mck_iff.mp hk
        obtain ⟨hb, hk⟩ := hk
        rw [Bool.and_eq_true] at hb
        exact mi_len hF hE hJ hR hRc hct hd hl hb.1 hb.2 (hgo _ _ _ _ hk)
    · rename_i hb
      have hl := hl (by rw [hb]; decide)
      rw [hS.2.1 hb] at hl
      subst hs
      replace hk := mck_iff.mp hk
      obtain ⟨hb, hk⟩ := hk
      rw [Bool.and_eq_true] at hb
      exact mi_cha hF hE hJ hR hRc hct hd hl hb.1 hb.2 (hgo _ _ _ _ hk)
    · rename_i hb
      have hl := hl (by rw [hb]; decide)
      rw [hS.2.2.1 hb] at hl
      subst hs
      replace hk := mck_iff.mp hk
      obtain ⟨hb, hk⟩ := hk
      rw [Bool.and_eq_true] at hb
      exact mi_cod hF hE hJ hR hRc hct hd hl hb.1 hb.2 (hgo _ _ _ _ hk)
    · rename_i hb
      have hl := hl (by rw [hb]; decide)
      rw [hS.2.2.2 hb] at hl
      subst hs
      dsimp only at hk
      replace hk := mck_iff.mp hk
      obtain ⟨hb, hk⟩ := hk
      simp only [Bool.and_eq_true, decide_eq_true_eq] at hb
      obtain ⟨⟨⟨b1, b2⟩, b3⟩, b4⟩ := hb
      subst b2
      exact mi_gby hF hE hJ hR hRc hct hd hl b1 b3 b4 (hgo _ _ _ _ hk)
    · exact hk.elim
set_option maxHeartbeats 4000000 in
theorem mxC_sound {ins : Instr} {K : mS → Prop} {cf sf : Nat} (hF : mFr y p s m args meth c) (hE : mEv ad b0 D s) (hJ : mJdk l ad b0) (hR : 12 ≤ R.frames ∧ 300 ≤ R.locals) (hRc : cf - c0 ≤ R.cells ∧ sf - s0 ≤ R.slots) (hct : mCt h ≤ cf ∧ mSl h ≤ sf) (hd : cd y pc = some ins) (hk : mxC (mOwn y) y pc ins lo st h K) (hcf : ∀ x, K x → mLt cf sf x)
    (hgo : ∀ pc' lo' st' h', K (.inl (pc', lo', st', h')) → mW p l e R s m args below meth c D ad b0 y c0 s0 Z h' pc' lo' st')
    (hcall : ∀ y' as st', K (.inr (.inr (y', as, pc + 3, lo, st', h))) → mCallOk y h ins st y' as st' → mW p l e R s m args below meth c D ad b0 y c0 s0 Z h pc lo st) : mW p l e R s m args below meth c D ad b0 y c0 s0 Z h pc lo st := by
  unfold mxC at hk
  split at hk
  · split at hk
    · rename_i y' n hm
      split at hk
      · rename_i hble
        unfold mxK at hk
        split at hk
        · split at hk
          · rename_i heq
            split at hk
            rename_i hal
            replace hk := mck_iff.mp hk
            have hb := hk.1
            replace hk := hk.2
            simp only [Bool.and_eq_true] at hb
            obtain ⟨⟨⟨⟨b1, b2⟩, b3⟩, b4⟩, b5⟩ := hb
            cases Nat.eq_of_beq_eq_true b1
            cases Nat.eq_of_beq_eq_true b2
            exact mi_clone hF hE hR hRc hd hm heq hal b4 b5 (hcf _ hk) (hgo _ _ _ _ hk)
          · exact hk.elim
        · exact hk.elim
      · rename_i hble
        unfold mxV at hk
        split at hk
        · rename_i hst
          split at hk
          · rename_i h3
            cases Nat.eq_of_beq_eq_true h3
            exact mxS_sound hF hE hJ hR hRc hct hd hm hble (mStk hst) hk hgo
          · obtain ⟨hb, hk⟩ := mck_iff.mp hk
            simp only [Bool.and_eq_true] at hb
            obtain ⟨⟨⟨b1, b2⟩, b3⟩, b4⟩ := hb
            have hn := (mMet_ok hm hble).2.1
            have hpos := (mOkM_spec (mMet_ok hm hble).1).2.2.2.2.2.2.2.2.2.1
            have hnst : mStat y' = false := by
              unfold mVirtK at b1
              simp only [Bool.and_eq_true, Bool.not_eq_true'] at b1
              exact b1.1.1
            have hl := Nat.eq_of_beq_eq_true b3
            exact hcall _ _ _ hk ⟨_, _, n, hm, hble, b4, mStk hst, by rw [List.length_cons, hl]; have := hpos hnst; omega, Or.inl ⟨rfl, rfl, b1, _, _, _, _, rfl, b2⟩⟩
        · exact hk.elim
    · exact hk.elim
  · split at hk
    · rename_i y' n hm
      split at hk
      · rename_i hble
        have h1000 : 1000 ≤ y' := Nat.le_of_ble_eq_true hble
        unfold mxB at hk
        split at hk
        · rename_i hq
          have hy : y' = 1000 := by omega
          subst hy
          obtain ⟨hb, hk⟩ := mck_iff.mp hk
          exact mi_copy hF hE.1 hR hd hm hb (hgo _ _ _ _ hk)
        · rename_i hq
          have hy : y' = 1001 := by omega
          subst hy
          obtain ⟨hb, hk⟩ := mck_iff.mp hk
          rw [Bool.and_eq_true] at hb
          obtain ⟨n0, e1, e2⟩ := mIsArI_spec hb.1
          have hk2 := hgo _ _ _ _ hk
          rw [e1] at hk2
          exact mi_fill hF hE.1 hJ hR hRc hct hd hm e1 (by omega) hb.2 hk2
        · rename_i hq
          have hy : y' = 1006 := by omega
          subst hy
          obtain ⟨hb, hk⟩ := mck_iff.mp hk
          exact mi_min hF hR hRc hct hd hm hb (hgo _ _ _ _ hk)
        · rename_i hq
          have hy : y' = 1007 := by omega
          subst hy
          obtain ⟨hb, hk⟩ := mck_iff.mp hk
          exact mi_max hF hR hRc hct hd hm hb (hgo _ _ _ _ hk)
        · rename_i hq
          have hy : y' = 1008 := by omega
          subst hy
          obtain ⟨hb, hk⟩ := mck_iff.mp hk
          exact mi_abs hF hR hRc hct hd hm hb (hgo _ _ _ _ hk)
        · rename_i hq
          have hy : y' = 1009 := by omega
          subst hy
          obtain ⟨hb, hk⟩ := mck_iff.mp hk
          exact mi_chk hF hE hJ hR hRc hct hd hm hb (hgo _ _ _ _ hk)
        · exact hk.elim
      · rename_i hble
        obtain ⟨hb, hk⟩ := mck_iff.mp hk
        simp only [Bool.and_eq_true] at hb
        obtain ⟨⟨b1, b2⟩, b3⟩ := hb
        exact hcall _ _ _ hk ⟨_, _, n, hm, hble, b3, mStk rfl, by rw [List.length_reverse]; exact Nat.eq_of_beq_eq_true b2, Or.inr (Or.inl ⟨rfl, rfl, b1⟩)⟩
    · exact hk.elim
  · split at hk
    · rename_i y' n hm
      split at hk
      · rename_i hble
        unfold mxI at hk
        split at hk
        · replace hk := mck_iff.mp hk
          have hb := hk.1
          replace hk := hk.2
          rw [Bool.and_eq_true] at hb
          cases Nat.eq_of_beq_eq_true hb.1
          exact mi_objinit hF hR hd hm hb.2 (hgo _ _ _ _ hk)
        · exact hk.elim
      · rename_i hble
        unfold mxP at hk
        split at hk
        · rename_i hst
          obtain ⟨hb, hk⟩ := mck_iff.mp hk
          simp only [Bool.and_eq_true, Bool.not_eq_true', Bool.or_eq_true] at hb
          obtain ⟨⟨⟨⟨b1, b2⟩, b3⟩, b4⟩, b5⟩ := hb
          have hn := (mMet_ok hm hble).2.1
          have hpos := (mOkM_spec (mMet_ok hm hble).1).2.2.2.2.2.2.2.2.2.1
          have hl := Nat.eq_of_beq_eq_true b4
          refine hcall _ _ _ hk ⟨_, _, n, hm, hble, b5, mStk hst, by rw [List.length_cons, hl]; have := hpos b2; omega, Or.inr (Or.inr ?_)⟩
          cases hi : mInit y' with
          | true => exact Or.inl ⟨rfl, rfl, rfl, b2, b3, _, _, rfl⟩
          | false =>
            rcases b1 with b1 | ⟨⟨b1, b1'⟩, b1''⟩
            · rw [hi] at b1; cases b1
            · exact Or.inr ⟨rfl, rfl, rfl, Nat.eq_of_beq_eq_true b1', b1, b2, b3, _, _, _, _, rfl, b1''⟩
        · exact hk.elim
    · exact hk.elim
  · exact hk.elim
end MM
