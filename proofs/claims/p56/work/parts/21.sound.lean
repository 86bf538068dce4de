/-! SOUNDNESS: what the small machine does, the machine does. -/
theorem mAll1_cons {v : mV} {as : List mV} (h : mAll1 (v :: as) = true) : mCat v = 1 ∧ mAll1 as = true := by
  unfold mAll1 at h ⊢
  rw [List.all_cons, Bool.and_eq_true] at h
  exact ⟨Nat.eq_of_beq_eq_true h.1, h.2⟩
theorem mArgs_mem {ad : mAd} : ∀ {as : List mV} {k i : Nat} {v : mV}, mAll1 as = true → as[i]? = some v → (k + i, rv ad v) ∈ lv_args k (as.map (rv ad)) := by
  intro as
  induction as with
  | nil => intro k i v _ h; cases h
  | cons a as ih =>
    intro k i v h1 h
    obtain ⟨c1, c2⟩ := mAll1_cons h1
    have hc : ¬ (rv ad a).category = 2 := by rw [rv_cat, c1]; decide
    cases i with
    | zero =>
      cases h
      simp only [List.map_cons, lv_args, hc, if_false]
      exact List.mem_cons_self
    | succ i =>
      simp only [List.map_cons, lv_args, hc, if_false]
      have := ih (k := k + 1) (i := i) c2 h
      rw [show k + (i + 1) = k + 1 + i by omega]
      exact List.mem_cons_of_mem _ this
theorem mSl_len {ad : mAd} {as : List mV} (h : mAll1 as = true) : (lg_sl (as.map (rv ad))).length = as.length := by
  induction as with
  | nil => rfl
  | cons a as ih =>
    obtain ⟨c1, c2⟩ := mAll1_cons h
    have hc : ¬ (rv ad a).category = 2 := by rw [rv_cat, c1]; decide
    have e : lg_sl ((a :: as).map (rv ad)) = .val (rv ad a) :: lg_sl (as.map (rv ad)) := by simp [lg_sl, hc]
    rw [e, List.length_cons, ih c2, List.length_cons]
theorem mEntry_loc {ad : mAd} {y : Nat} {as : List mV} (h1 : mAll1 as = true) (hn : as.length ≤ mMaxL y) : mLoc ad (mMaxL y) (mEntry y as) ((lg_sl (as.map (rv ad)) ++ List.replicate (mMaxL y - (lg_sl (as.map (rv ad))).length) Slot.unset).toArray) := by
  have hl := lv_entry (as.map (rv ad)) (n := mMaxL y) (by rw [mSl_len h1]; exact hn)
  refine ⟨by unfold mEntry; rw [List.length_append, List.length_map, List.length_replicate]; omega, hl.1, hl.2.1, fun q hq => hl.2.2 q ?_⟩
  obtain ⟨v, e1, e2⟩ := mem_mLv.mp hq
  unfold mEntry at e1
  have hlt : q.1 < as.length := by
    rcases Nat.lt_or_ge q.1 as.length with z | z
    · exact z
    · rw [List.getElem?_append_right (by rw [List.length_map]; exact z)] at e1
      have := List.mem_of_getElem? e1
      have := List.eq_of_mem_replicate this
      cases this
  rw [List.getElem?_append_left (by rw [List.length_map]; exact hlt), List.getElem?_map] at e1
  obtain ⟨w, e3, e4⟩ := Option.map_eq_some_iff.mp e1
  cases e4
  have := mArgs_mem (ad := ad) (k := 0) h1 e3
  rw [Nat.zero_add, ← e2] at this
  exact this
theorem mHnd_law (pc E : Nat) : mHnd 245 pc E = none := rfl
def mSnd (l : Launch) (D : va_G) (ad : mAd) (b0 n : Nat) : Prop := ∀ (D' y pc : Nat) (lo : mLo) (st : mSt) (h : mH) (out : mOut) (hf : mH) (p : Program) (e : Env) (R : Room) (s : State) (m : MethodId) (args : Array Value) (below : List Frame) (meth : Method) (c : Code) (c0 s0 : Nat) (Z : State → Prop),
  mFr y p s m args meth c → mEv ad b0 D s → (y ≠ 245 → mTab y c) → (D' + 12 ≤ R.frames ∧ 60 * D' + 300 ≤ R.locals) → (mCt hf - c0 ≤ R.cells ∧ mSl hf - s0 ≤ R.slots) → mEnds p l e R s m args below meth c D ad b0 y c0 s0 Z out hf →
  wp n D' y pc lo st h (fun r h' => r = out ∧ h' = hf) → mW p l e R s m args below meth c D ad b0 y c0 s0 Z h pc lo st
/-- a method's contract, out of the small machine's run of it -/
theorem mMet_of {l : Launch} {D : va_G} {ad : mAd} {b0 n D' y : Nat} {as : List mV} {h hf : mH} {out : mOut} (hfl : l.stackTraces = false) (hDec : ∀ y, y < 246 → mDecH y) (hS : mSnd l D ad b0 n) (hy : y < 245) (h1 : mAll1 as = true) (hn : as.length ≤ mMaxL y) (hw : wp n D' y 0 (mEntry y as) [] h (fun r h' => r = out ∧ h' = hf)) (na : Nat) :
    vx_Met l (mNm y) (mWord y :: gTbl) (mRoom D' (mCt hf - mCt h) (mSl hf - mSl h)) (mPc D ad b0 na h as) (mQo D ad b0 hf out) (mXo D ad b0 hf out) (mCt hf - mCt h) (mSl hf - mSl h) (mA b0) := by
  obtain ⟨a1, a2, a3, a4, a5, a6, a7, a8, a9, a10, -, a12, a13⟩ := mOkM_spec hy
  have key : ∀ (p : Program) (e : Env) (s : State) (m : MethodId) (args : Array Value) (below : List Frame) (meth : Method) (c : Code), p.tables.exec = Jvm.exec → c.code = mByt y → meth.sig.returnType = mRT y → meth.locks = false → c.maxLocals = mMaxL y → s.vm.findClass (mNm y).cls = some m.cls → meth.name = (mNm y).name → (∀ w ∈ mWord y :: gTbl, w.before args s = true) → mTab y c → mPc D ad b0 na h as args s →
      W p l e (headSpec (mWord y :: gTbl) (mRoom D' (mCt hf - mCt h) (mSl hf - mSl h))).room s m args below meth c s.heap [] 0 0 (vx_MQ below (mQo D ad b0 hf out) (mXo D ad b0 hf out) args s (mCt hf - mCt h) (mSl hf - mSl h) (mA b0)) (entryFrame m args (mMaxL y)) := by
    intro p e s m args below meth c hx hb hr hlocks hml hown hnm hts hT hP
    obtain ⟨rfl, hrel, hE⟩ := hP
    have hF : mFr y p s m (as.map (rv ad)).toArray meth c := ⟨hx, hb, hml, by rw [← a1]; exact hown, fun w hw => hts w (List.mem_cons_of_mem _ hw), ⟨by omega, hDec y (by omega)⟩, fun z => by rw [hnm]; exact (a9 z).1⟩
    have hk := hS D' y 0 (mEntry y as) [] h out hf p e (headSpec (mWord y :: gTbl) (mRoom D' (mCt hf - mCt h) (mSl hf - mSl h))).room s m (as.map (rv ad)).toArray below meth c (mCt h) (mSl h) _ hF hE (fun _ => hT) ⟨Nat.le_refl _, Nat.le_refl _⟩ ⟨Nat.le_refl _, Nat.le_refl _⟩
      (mEnds_MQ hfl hF hE hT hr hlocks hy ⟨by show 12 ≤ D' + 12; omega, by show 300 ≤ 60 * D' + 300; omega⟩ ⟨Nat.le_refl _, Nat.le_refl _⟩) hw
    rw [lg_entry_eq]
    have kk := hk s.heap [] _ na hrel va_S.rf (mEntry_loc h1 hn) (Nat.le_refl _) (Nat.le_refl _)
    rw [Nat.sub_self, Nat.sub_self] at kk
    exact kk
  cases hh : mHH y with
  | none =>
    have hwd := mWord_none (y := y) (by rw [hh]; rfl)
    refine vx_ofW (cc := mByt y) (maxL := mMaxL y) (ret := mRT y) (ws' := gTbl) a2 (by rw [hwd]) ?_
    intro p e s m args below meth c s₁ B hml ht hP
    refine key p e s m args below meth c B.exec B.bytes B.returns B.notSynchronized hml (findClass_of_methodNamed B.named) (name_of_methodNamed B.named B.method).1 (atoms_spec B.pre) ?_ hP
    unfold mTab mHHl
    rw [hh]
    cases hl : c.exceptionTable.toList with
    | nil => rfl
    | cons x r => exact (ht x (by rw [hl]; exact List.mem_cons_self)).elim
  | some z =>
    have hwd := mWord_some hh
    refine vx_ofWH (cc := mByt y) (maxL := mMaxL y) (ret := mRT y) (hh := z) (ws' := gTbl) a2 (by rw [hwd]) ?_
    intro p e s m args below meth c s₁ B hml hP
    have hts := atoms_spec B.pre
    refine key p e s m args below meth c B.exec B.bytes B.returns B.notSynchronized hml (findClass_of_methodNamed B.named) (name_of_methodNamed B.named B.method).1 hts ?_ hP
    unfold mTab mHHl
    rw [hh]
    have hcw : (Cond.codeWith (mNm y) (mByt y) (mMaxL y) (mRT y) z).before args s = true := by
      have := hts _ (List.mem_cons_self : mWord y ∈ mWord y :: gTbl)
      rw [hwd] at this
      exact this
    exact vx_table (x := mNm y) B hcw
theorem mCallOk_y {y y' : Nat} {h : mH} {ins : Instr} {st st' : mSt} {as : List mV} (hco : mCallOk y h ins st y' as st') : y' < 245 ∧ as.length = mArgs y' := by
  obtain ⟨ix, yr, n, hm, hb, -, -, hlen, hk⟩ := hco
  obtain ⟨hy, hn, -⟩ := mMet_ok hm hb
  rcases hk with ⟨-, rfl, hv, -⟩ | ⟨-, rfl, -⟩ | ⟨-, rfl, -⟩ | ⟨-, rfl, -⟩
  · unfold mVirtK at hv
    simp only [Bool.and_eq_true, Bool.not_eq_true'] at hv
    obtain ⟨⟨-, hsel⟩, hnn⟩ := hv
    obtain ⟨-, -, r3, -, -⟩ := mRcv16 hy hsel hnn
    exact ⟨r3, by rw [hlen, hn, ((mOkM_spec hy).2.2.2.2.2.2.2.1 hsel).2]⟩
  · exact ⟨hy, hlen.trans hn⟩
  · exact ⟨hy, hlen.trans hn⟩
  · exact ⟨hy, hlen.trans hn⟩
set_option maxHeartbeats 4000000 in
theorem mSound {l : Launch} {D : va_G} {ad : mAd} {b0 : Nat} (hfl : l.stackTraces = false) (hJ : mJdk l ad b0) (hDec : ∀ y, y < 246 → mDecH y) : ∀ n, mSnd l D ad b0 n := by
  intro n
  induction n with
  | zero => intro D' y pc lo st h out hf p e R s m args below meth c c0 s0 Z hF hE hT hR hRc hen hw; exact hw.elim
  | succ n ih =>
    intro D' y pc lo st h out hf p e R s m args below meth c c0 s0 Z hF hE hT hR hRc hen hw
    have hle : mCt h ≤ mCt hf ∧ mSl h ≤ mSl hf := by
      obtain ⟨r, h', ⟨-, rfl⟩, a1, a2, -⟩ := wp_det hw
      exact ⟨a1, a2⟩
    have hR0 : 12 ≤ R.frames ∧ 300 ≤ R.locals := ⟨by omega, by omega⟩
    have hgo : ∀ pc' lo' st' h', wp n D' y pc' lo' st' h' (fun r h' => r = out ∧ h' = hf) → mW p l e R s m args below meth c D ad b0 y c0 s0 Z h' pc' lo' st' := fun pc' lo' st' h' hk => ih D' y pc' lo' st' h' out hf p e R s m args below meth c c0 s0 Z hF hE hT hR hRc hen hk
    unfold wp mexO at hw
    cases hcd : cd y pc with
    | none => rw [hcd] at hw; exact hw.elim
    | some ins =>
      rw [hcd] at hw
      dsimp only at hw
      cases hic : mIsCall ins with
      | false =>
        rw [hic] at hw
        refine mx_sound (cf := mCt hf) (sf := mSl hf) hF hE hRc hcd hw (fun x hx => ?_) (fun pc' lo' st' h' hk => hgo pc' lo' st' h' hk) (fun r hk hro hst => ?_) (fun ix ci n2 h' hk hins hnw h9 hh' hdp => ?_)
        · rcases x with ⟨pc', lo', st', h'⟩ | ⟨r, h'⟩ | x
          · obtain ⟨r, h2, ⟨-, rfl⟩, a1, a2, -⟩ := wp_det hx
            exact ⟨a1, a2⟩
          · obtain ⟨-, rfl⟩ := hx
            exact ⟨Nat.le_refl _, Nat.le_refl _⟩
          · trivial
        · obtain ⟨h8, rfl⟩ := hk
          rw [hst]
          exact hen.1 r pc lo ins h8.symm hcd hro
        · obtain ⟨h8, h7⟩ := hk
          subst hins
          exact hen.2.2 pc ix ci n2 lo st h hcd hnw h9 h8.symm (by rw [← h7, hh']; rfl) hdp
      | true =>
        rw [hic] at hw
        refine mxC_sound (cf := mCt hf) (sf := mSl hf) hF hE hJ hR0 hRc hle hcd hw (fun x hx => ?_) (fun pc' lo' st' h' hk => hgo pc' lo' st' h' hk) (fun y' as st' hk hco => ?_)
        · rcases x with ⟨pc', lo', st', h'⟩ | ⟨r, h'⟩ | x
          · obtain ⟨r, h2, ⟨-, rfl⟩, a1, a2, -⟩ := wp_det hx
            exact ⟨a1, a2⟩
          · obtain ⟨-, rfl⟩ := hx
            exact ⟨Nat.le_refl _, Nat.le_refl _⟩
          · trivial
        dsimp only at hk
        rw [mck_iff] at hk
        obtain ⟨hal, hk⟩ := hk
        cases D' with
        | zero => exact hk.elim
        | succ D2 =>
          obtain ⟨r, h2, hcont, g1, g2, hdet⟩ := wp_det hk
          obtain ⟨hy', hlen3⟩ := mCallOk_y hco
          have hargs : as.length ≤ mMaxL y' := by rw [hlen3]; exact (mOkM_spec hy').2.2.2.2.2.2.2.2.2.2.2.1
          have hM := mMet_of hfl hDec ih hy' hal hargs (hdet (fun r' h' => r' = r ∧ h' = h2) ⟨rfl, rfl⟩)
          intro H locs ls na h1 h2s h3 h4 h5
          have hcf : mCt h2 ≤ mCt hf ∧ mSl h2 ≤ mSl hf := by
            cases r with
            | inl v =>
              obtain ⟨r3, h3', ⟨-, rfl⟩, a1, a2, -⟩ := wp_det hcont
              exact ⟨a1, a2⟩
            | inr E =>
              dsimp only at hcont
              cases hh : mHnd y pc E with
              | none =>
                rw [hh] at hcont
                obtain ⟨-, rfl⟩ := hcont
                exact ⟨Nat.le_refl _, Nat.le_refl _⟩
              | some z =>
                obtain ⟨pc2, k⟩ := z
                rw [hh] at hcont
                obtain ⟨r3, h3', ⟨-, rfl⟩, a1, a2, -⟩ := wp_det (mck_iff.mp hcont).2
                exact ⟨a1, a2⟩
          have hr := mi_run (R := R) (l := l) (e := e) (below := below) hF hE hcd hco (hM na) ⟨by omega, by omega⟩ (cells := mCt h - c0) (slots := mSl h - s0) ⟨by omega, by omega⟩ h1 h2s h3
          have ec : mCt h - c0 + (mCt h2 - mCt h) = mCt h2 - c0 := by omega
          have es : mSl h - s0 + (mSl h2 - mSl h) = mSl h2 - s0 := by omega
          intro T hT2 X
          rcases hr T hT2 X with ⟨v, st₀, t, T', L, e0, X', hL, e1, e2, ⟨r0, q1, q2, ⟨na2, q3⟩, hFr⟩, stp⟩ | ⟨q, st₀, t, T', L, E, ce, e0, X', hL, e1, e2, ⟨E0, q1, q2, q4, q5, ⟨na2, q3⟩, hFr⟩, hce, hcv, hcl, stp⟩
          · subst q1
            cases q2
            rw [ec, es] at X'
            obtain ⟨-, -, k3⟩ := vx_keep e0 e1 h2s (fun _ _ z => z) (fun _ z => z) hL hFr
            have hal2 : t.vm.Alike s.vm := by
              have := X'.warmed.alike
              rw [e2] at this
              exact this.symm
            have hrel : mRel D ad b0 na2 h2 s T'.heap := by rw [e1]; exact mRel.moved hal2 q3
            have kk := hgo (pc + 3) lo (r0.toList ++ st') h2 hcont T'.heap (locs ++ L) ls na2 hrel k3 h3 (by omega) (by omega)
            obtain ⟨t2, b1, b2⟩ := kk T' rfl X'
            refine ⟨t2, stp t2 ?_, b2⟩
            have e9 : List.map (rv ad) (r0.toList ++ st') = (r0.map (rv ad)).toList ++ List.map (rv ad) st' := by cases r0 <;> rfl
            rw [e9] at b1
            exact b1
          · subst q1
            subst q2
            rw [ec, es] at X'
            obtain ⟨-, -, k3⟩ := vx_keep e0 e1 h2s (fun _ _ z => z) (fun _ z => z) hL hFr
            have hal2 : t.vm.Alike s.vm := by
              have := X'.warmed.alike
              rw [e2] at this
              exact this.symm
            have hrel : mRel D ad b0 na2 h2 s T'.heap := by rw [e1]; exact mRel.moved hal2 q3
            have hce' : T'.heap[q]? = some ce := by rw [e1]; exact hce
            dsimp only at hcont
            cases hh : mHnd y pc E0 with
            | none =>
              rw [hh] at hcont
              obtain ⟨o1, o2⟩ := hcont
              subst o2
              obtain ⟨t2, b1, b2⟩ := hen.2.1 E0 pc T'.heap (locs ++ L) ls (List.map (rv ad) st') na2 q ce o1.symm q4 q5 hrel k3 hce' hcv hcl hh (by omega) (by omega) T' rfl X'
              exact ⟨t2, stp.trans b1, b2⟩
            | some z =>
              obtain ⟨pc2, k⟩ := z
              rw [hh] at hcont
              dsimp only at hcont
              rw [mck_iff] at hcont
              obtain ⟨t2, b1, b2⟩ := mi_catch (rest := List.map (rv ad) st') hF hE (hT (fun e => by rw [e, mHnd_law] at hh; cases hh)) hh hcont.1 hrel k3 h3 (by omega) (by omega) hce' hcv hcl (hgo pc2 (lo.set k none) [] h2 hcont.2) T' rfl X'
              exact ⟨t2, stp.trans b1, b2⟩
