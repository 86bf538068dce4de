/-! MORE STEPS: a cast, a clone, an index checked, rows of rows. -/
theorem mAsg (vm : Vm) (c : ClassId) : vm.assignable c c = true := by
  show vm.assignableAux (255 + 1) c c = true
  rw [Vm.assignableAux, beq_self_eq_true, Bool.true_or]
theorem mBy_name : ("[" ++ FieldType.byte.toString) = "[B" := by decide +kernel
theorem mCst_ok {own ix : Nat} (h : mCst own ix = true) : Jvm.Cond.classLink (mCN own) ix "[B" ∈ gTbl := by
  unfold mCst at h
  rw [Bool.and_eq_true] at h
  rw [Nat.eq_of_beq_eq_true h.1, Nat.eq_of_beq_eq_true h.2]
  exact gTbl_of 502 (by decide +kernel) rfl
abbrev yClo : MethodName := ⟨"[B", "clone", "()Ljava/lang/Object;"⟩
abbrev yClO : MethodName := ⟨"java/lang/Object", "clone", "()Ljava/lang/Object;"⟩
theorem gClo_m : Jvm.Cond.sameMethod "[B" "java/lang/Object" "clone" "()Ljava/lang/Object;" ∈ gTbl := gTbl_of 497 (by decide +kernel) rfl
theorem gClo_v : Jvm.Cond.native yClO ∈ gTbl := gTbl_of 498 (by decide +kernel) rfl
theorem gClo_i : Jvm.Cond.instanceMethod yClO ∈ gTbl := gTbl_of 499 (by decide +kernel) rfl
theorem gClo_s : Jvm.Cond.selects "[B" yClo yClO ∈ gTbl := gTbl_of 500 (by decide +kernel) rfl
section MJ2
variable {p : Program} {l : Launch} {e : Env} {R : Room} {s : State} {m : MethodId} {args : Array Value} {below : List Frame} {meth : Method} {c : Code} {D : va_G} {ad : mAd} {b0 y c0 s0 : Nat} {Z : State → Prop} {h : mH} {pc : Nat} {lo : mLo} {st : mSt}
theorem mi_ccast (hF : mFr y p s m args meth c) {ix f i j : Nat} (hd : cd y pc = some (.checkcast ix)) (ho : (mCst (mOwn y) ix && mIsObj (mSh h f i j) 22) = true) (k : mW p l e R s m args below meth c D ad b0 y c0 s0 Z h (pc + 3) lo (mR f i j :: st)) : mW p l e R s m args below meth c D ad b0 y c0 s0 Z h pc lo (.inr (.inl (some (f, i, j))) :: st) := by
  intro H locs ls na h1 h2 h3 h4 h5
  have hdc := mDc hF.2.2.2.2.2.1.2 hd rfl rfl
  rw [Bool.and_eq_true] at ho
  obtain ⟨n, e1⟩ := mIsObj_spec ho.2
  obtain ⟨cA, q1, q2, q3⟩ := (h1.at e1).2.2.2.2.2.1 rfl
  have q3 : s.vm.findClass "[B" = some cA := by rw [← mBy_name]; exact q3
  intro T hT X
  obtain ⟨vm', X', stp⟩ := X.checkcastYes hF.1 hF.2.2.2.1 (hF.2.2.2.2.1 _ (mCst_ok ho.1)) (a := ad f i j) (cell := vp_cell cA (n, .inl (mMiO h f i j))) (cT := cA) (by rw [hT]; exact q1) rfl q3 (mAsg _ _) (g := F0 m pc ls (.ref (ad f i j) :: List.map (rv ad) st)) rfl (rest := List.map (rv ad) st) rfl (by rw [hF.2.1]; exact hdc)
  obtain ⟨t, a1, b1⟩ := k H locs ls na h1 h2 h3 h4 h5 (T.setVm vm') hT X'
  exact ⟨t, stp t a1, b1⟩
theorem mi_clone (hF : mFr y p s m args meth c) (hE : mEv ad b0 D s) (hR : 12 ≤ R.frames ∧ 300 ≤ R.locals) {cf sf : Nat} (hRc : cf - c0 ≤ R.cells ∧ sf - s0 ≤ R.slots) {ix n2 f i j f2 i2 j2 L : Nat} (hd : cd y pc = some (.invokevirtual ix)) (hk : mMet (mOwn y) ix = some (1010, n2))
    (e1 : mSh h f i j = some (22, L)) (hal : mNam (mQ h) (mNx h) = (f2, i2, j2)) (hB : mByteOk h.2.1 f i j 0 L = true) (hst : mDeep st = true) (hct : mCt h + 1 ≤ cf ∧ mSl h + L ≤ sf)
    (k : mW p l e R s m args below meth c D ad b0 y c0 s0 Z ((msset h.1.1 f2 i2 j2 (22, L), h.1.2), (mcopy h.2.1 f i j 0 f2 i2 j2 0 L, (mQ h, mNx h + 1, mCt h + 1, mSl h + L))) (pc + 3) lo (mR f2 i2 j2 :: st)) : mW p l e R s m args below meth c D ad b0 y c0 s0 Z h pc lo (.inr (.inl (some (f, i, j))) :: st) := by
  intro H locs ls na h1 h2 h3 h4 h5
  have hdc := mDc hF.2.2.2.2.2.1.2 hd rfl rfl
  have hdp := mDeep_ok (ad := ad) hst
  obtain ⟨cA, q1, q2, q3⟩ := (h1.at e1).2.2.2.2.2.1 rfl
  have q3' : s.vm.findClass "[B" = some cA := by rw [← mBy_name]; exact q3
  have hna : mNx h = na := h1.2.2.1
  obtain ⟨-, kA, hkA, comp, hkind⟩ := q2 L (fun q => .int (mMiO h f i j q))
  obtain ⟨cX, cC, g1, g2, g3⟩ := Cond.castable_spec (va_Nw.use (A := args) rfl hE.2.2.2.2.2.2.2.2.1.2)
  have gX : cX = cA := Option.some.inj (g1.symm.trans q3')
  subst gX
  intro T hT X
  have hal2 : s.vm.Alike T.vm := X.warmed.alike
  obtain ⟨kA1, hkA1, heA⟩ := hal2.2.2 _ _ hkA
  have hsz : (vp_cell cX (L, .inl (mMiO h f i j))).slots.size = L := arrV_size _ _ _
  obtain ⟨vm', X', stp⟩ := X.cloneArray hF.1 hF.2.2.2.1 (hF.2.2.2.2.1 _ (mMetB_ok hk rfl).1) (hF.2.2.2.2.1 _ gClo_m) (hF.2.2.2.2.1 _ gClo_v) (hF.2.2.2.2.1 _ gClo_i) (hF.2.2.2.2.1 _ gClo_s)
    (a := ad f i j) (cell := vp_cell cX (L, .inl (mMiO h f i j))) (by rw [hT]; exact q1) (fun _ z => by cases z) (fun z => by cases z) q3' g2 g3
    (fun q v hv => by
      have hq : q < L := by
        have := (Array.getElem?_eq_some_iff.mp hv).1
        rw [hsz] at this
        exact this
      rw [vp_cell_i, arrV_read _ _ hq] at hv
      cases hv
      have hb := mByteOk_at hB hq
      rw [Nat.zero_add] at hb
      have hk1 : kA1.kind = .array comp .byte := by rw [heA]; exact hkind
      have hk2 : T.vm.classes[cX]? = some kA1 := hkA1
      have e2 : T.slotType? cX .none q = some .byte := by simp [State.slotType?, hk2, hk1]
      show (match T.slotType? cX .none q with
        | some t => fits t (Value.int (mMiO h f i j q))
        | none => false) = true
      rw [e2]
      exact hb)
    (g := F0 m pc ls (.ref (ad f i j) :: List.map (rv ad) st)) rfl (by rw [hF.2.2.1]; exact h3.2.1) (rest := List.map (rv ad) st) rfl (by rw [hF.2.1]; exact hdc) (by omega) (by show 2 * 0 + _ + 14 ≤ _; omega) (by omega) (by rw [hsz]; omega) (Vm.clonesLoader_of_array hkA hkind)
  rw [hsz] at X'
  have z1 : ((T.setVm vm').pushCell { cls := cX, slots := (vp_cell cX (L, .inl (mMiO h f i j))).slots }).heap.size = H.size + 1 := by rw [← hT]; simp
  have o1 : ∀ q : Nat, q < H.size → ((T.setVm vm').pushCell { cls := cX, slots := (vp_cell cX (L, .inl (mMiO h f i j))).slots }).heap[q]? = H[q]? := fun q hq => by
    rw [← hT] at hq ⊢
    exact State.heap_pushCell_of_lt _ _ hq
  have e3 : ((T.setVm vm').pushCell { cls := cX, slots := (vp_cell cX (L, .inl (mMiO h f i j))).slots }).heap[H.size]? = some (vp_cell cX (L, .inl (mMiO h f i j))) := by
    rw [← hT]
    exact State.heap_pushCell_size (T.setVm vm') _
  have hpush := mRel.push (kd := 22) (n := L) (h1 := ((msset h.1.1 f2 i2 j2 (22, L), h.1.2), (mcopy h.2.1 f i j 0 f2 i2 j2 0 L, (mQ h, mNx h + 1, mCt h + 1, mSl h + L)))) hE.1.1 h1 rfl (by rw [← hna]; exact hal) z1 o1 (fun _ _ _ hne => msset_ne hne) msset_at (by decide)
    (fun _ _ _ _ => rfl) (fun _ _ _ hne => mcopy_ne hne) (by rw [← hna])
    (by
      refine ⟨fun z => absurd z (by decide), Or.inl (by decide), fun z => absurd z (by decide), fun z => absurd z (by decide), fun z => absurd z (by decide), fun _ => ⟨cX, e3.trans (congrArg some ?_), q2, q3⟩, fun z => absurd z (by decide), fun z => absurd z (by decide), fun z => absurd z (by decide)⟩
      rw [vp_cell_i, vp_cell_i]
      refine mArrV_ext fun q hq => congrArg Value.int ?_
      show _ = mcopy h.2.1 f i j 0 f2 i2 j2 0 L f2 i2 j2 q
      rw [mcopy_at]
      unfold va_cpy
      rw [if_pos ⟨Nat.zero_le _, by omega⟩]
      show h.2.1 f i j q = h.2.1 f i j (0 + (q - 0))
      rw [Nat.zero_add, Nat.sub_zero])
  have kk := k _ locs ls (na + 1) hpush.1 ⟨by have := h2.1; omega, fun q q1 q2 => (o1 q (Nat.lt_of_lt_of_le q1 h2.1)).trans (h2.2.1 q q1 q2), h2.2.2⟩ h3 (Nat.le_succ_of_le h4) (Nat.le_trans h5 (Nat.le_add_right _ _))
  rw [List.map_cons, rv_ref, hpush.2] at kk
  have kk2 := W.cs (cells := mCt h - c0 + 1) (slots := mSl h - s0 + L) (show mCt h - c0 + 1 = mCt h + 1 - c0 by omega) (show mSl h - s0 + L = mSl h + L - s0 by omega) kk
  obtain ⟨t, a1, b1⟩ := kk2 _ rfl X'
  rw [hT] at stp
  exact ⟨t, stp t a1, b1⟩
theorem mW_void {H : Heap} {locs : List Loc} {cells slots : Nat} {g : JFrame} {rest : List Value} {a : Array Value} {Q : State → Prop} (hr : CallRun p l e R s m args below meth c H locs cells slots 0 0 g rest ((fun _ st oc t => oc = .returned none ∧ t.heap = st.heap : Array Value → State → Outcome → State → Prop) a) (fun _ => False))
    (kk : W p l e R s m args below meth c H locs cells slots Q { g with pc := g.pc + 3, stack := rest }) : W p l e R s m args below meth c H locs cells slots Q g := by
  intro T hT X
  obtain ⟨v, st₀, t, T', L, h0, X', hL, e1, ⟨hv, hh⟩, stp⟩ := hr T hT X
  cases hv
  obtain ⟨t2, a1, b1⟩ := kk T' (by rw [e1, hh, h0]) (Stand.forget X' (fun q h => (hL q h).elim))
  exact ⟨t2, stp t2 a1, b1⟩
theorem mi_chk (hF : mFr y p s m args meth c) (hE : mEv ad b0 D s) (hJ : mJdk l ad b0) (hR : 12 ≤ R.frames ∧ 300 ≤ R.locals) {cf sf : Nat} (hRc : cf - c0 ≤ R.cells ∧ sf - s0 ≤ R.slots) (hct : mCt h ≤ cf ∧ mSl h ≤ sf) {ix n2 : Nat} {x n : Int32} (hd : cd y pc = some (.invokestatic ix)) (hk : mMet (mOwn y) ix = some (1009, n2))
    (ho : (!(decide (x < 0)) && decide (x < n) && mDeep st) = true) (kk : mW p l e R s m args below meth c D ad b0 y c0 s0 Z h (pc + 3) lo st) : mW p l e R s m args below meth c D ad b0 y c0 s0 Z h pc lo (.inl n :: .inl x :: st) := by
  intro H locs ls na h1 h2 h3 h4 h5
  have hdc := mDc hF.2.2.2.2.2.1.2 hd rfl rfl
  simp only [Bool.and_eq_true, Bool.not_eq_true', decide_eq_false_iff_not, decide_eq_true_eq] at ho
  obtain ⟨⟨o1, o2⟩, hst⟩ := ho
  have hdp := mDeep_ok (ad := ad) hst
  obtain ⟨hx, hb, hml, hown, hts, -⟩ := hF
  have hM := hJ.2.2.2.2.2 x n o1 o2
  have hO := hE.2.1.kept h2.1 h2.2.1
  have hg1 : GoodIn gTbl (va_wsS (mCN (mOwn y)) ix yChk (Cond.code yChk bChk 2 none :: gTbl)) := gGood fun w hw => by
    unfold va_wsS at hw
    simp only [List.cons_append, List.nil_append, List.mem_cons] at hw
    rcases hw with rfl | rfl | rfl | rfl | hw
    · exact (mMetB_ok hk rfl).1
    · exact gChk_t
    · exact gLen_n
    · exact gChk_c
    · exact hw
  exact mW_void (a := [Value.int x, Value.int n].toArray) (W.runS (As := [.int x, .int n]) (rest := List.map (rv ad) st) ⟨hx, hb, hml, hown, hts⟩ hM (va_cwS 2 hts hg1 rfl rfl rfl (by decide +kernel) ⟨by show 4 + 1 ≤ _; omega, by show 8 + (2 + 11) + 150 ≤ _; omega⟩) ⟨fun a U g mk q => ⟨q.1, q.2⟩, fun U hU hW => ⟨rfl, by show mOldW ad b0 U U.heap; rw [hU]; exact mOldW.moved hW.alike hO⟩⟩ rfl rfl h3.2.1 rfl (lv_room hdp) hdc ⟨by omega, by omega⟩) (kk H locs ls na h1 h2 h3 h4 h5)
end MJ2
/-- many cells are made at once -/
theorem mRel.pushN {D : va_G} {ad : mAd} {b0 na : Nat} {h h1 : mH} {U : State} {H H1 : Heap} {N c1 s1 : Nat} {nm : Nat → mRf} {kd ln : Nat → Nat} (hA : mAdOk ad b0) (hr : mRel D ad b0 na h U H)
    (hnm : ∀ k, k < N → (nm k).1 ≠ 3 ∧ mAdx (mQ h).1 (nm k).1 (nm k).2.1 (nm k).2.2 = na + k)
    (hsz : H1.size = H.size + N) (oq : ∀ q : Nat, q < H.size → H1[q]? = H[q]?) (hsh : ∀ f' i' j', (∀ k, k < N → ¬ nm k = (f', i', j')) → mSh h1 f' i' j' = mSh h f' i' j' ∧ mRfO h1 f' i' j' = mRfO h f' i' j' ∧ mMiO h1 f' i' j' = mMiO h f' i' j')
    (hshn : ∀ k, k < N → mSh h1 (nm k).1 (nm k).2.1 (nm k).2.2 = some (kd k, ln k) ∧ kd k ≠ 30 ∧ kd k ≠ 24) (hrs : h1.2.2 = (mQ h, na + N, c1, s1))
    (hnew : ∀ k, k < N → mCell D ad (mRfO h1 (nm k).1 (nm k).2.1 (nm k).2.2) (mMiO h1 (nm k).1 (nm k).2.1 (nm k).2.2) U H1 (H.size + k) (kd k) (ln k)) :
    mRel D ad b0 (na + N) h1 U H1 ∧ ∀ k, k < N → ad (nm k).1 (nm k).2.1 (nm k).2.2 = H.size + k := by
  have hr0 := hr
  obtain ⟨ho, hc, h2, h3, h4⟩ := hr
  have hadn : ∀ k, k < N → ad (nm k).1 (nm k).2.1 (nm k).2.2 = H.size + k := fun k hk => by
    rw [mAd_at hA hr0 (hnm k hk).1, (hnm k hk).2, h3]
    omega
  have hQ : mQ h1 = mQ h := by show h1.2.2.1 = _; rw [hrs]
  have hN : mNx h1 = na + N := by show h1.2.2.2.1 = _; rw [hrs]
  refine ⟨⟨fun f' i' j' kd' n' e' => ?_, fun f' i' j' kd' n' e' => ?_, hN, by omega, by rw [hQ]; exact h4⟩, hadn⟩
  · rw [hQ]
    by_cases hs : ∃ k, k < N ∧ nm k = (f', i', j')
    · obtain ⟨k, hk, ek⟩ := hs
      obtain ⟨g1, g2⟩ := hnm k hk
      obtain ⟨g3, g4, g5⟩ := hshn k hk
      rw [ek] at g1 g2 g3
      dsimp only at g1 g2 g3
      cases g3.symm.trans e'
      refine ⟨⟨fun z => absurd z g1, fun z => z.elim (fun z => absurd z g4) (fun z => absurd z g5)⟩, fun _ => by omega, fun f2 i2 j2 kd2 n2 e2 _ g6 ge => ?_⟩
      by_cases hs2 : ∃ k, k < N ∧ nm k = (f2, i2, j2)
      · obtain ⟨k2, hk2, ek2⟩ := hs2
        have g7 := (hnm k2 hk2).2
        rw [ek2] at g7
        dsimp only at g7
        have : k2 = k := by omega
        subst this
        cases ek.symm.trans ek2
        exact ⟨rfl, rfl, rfl⟩
      · rw [(hsh f2 i2 j2 (fun k hk z => hs2 ⟨k, hk, z⟩)).1] at e2
        have := (ho _ _ _ _ _ e2).2.1 g6
        omega
    · rw [(hsh f' i' j' (fun k hk z => hs ⟨k, hk, z⟩)).1] at e'
      obtain ⟨o1, o2, o3⟩ := ho _ _ _ _ _ e'
      refine ⟨o1, fun z => by have := o2 z; omega, fun f2 i2 j2 kd2 n2 e2 g2 g3 ge => ?_⟩
      by_cases hs2 : ∃ k, k < N ∧ nm k = (f2, i2, j2)
      · obtain ⟨k2, hk2, ek2⟩ := hs2
        have g7 := (hnm k2 hk2).2
        rw [ek2] at g7
        dsimp only at g7
        have := o2 g2
        omega
      · rw [(hsh f2 i2 j2 (fun k hk z => hs2 ⟨k, hk, z⟩)).1] at e2
        exact o3 _ _ _ _ _ e2 g2 g3 ge
  · by_cases hs : ∃ k, k < N ∧ nm k = (f', i', j')
    · obtain ⟨k, hk, ek⟩ := hs
      have g1 := hnew k hk
      have g2 := hadn k hk
      have g3 := (hshn k hk).1
      rw [ek] at g1 g2 g3
      dsimp only at g1 g2 g3
      cases g3.symm.trans e'
      rw [g2]
      exact g1
    · obtain ⟨g1, g2, g3⟩ := hsh f' i' j' (fun k hk z => hs ⟨k, hk, z⟩)
      rw [g1] at e'
      have g4 := hc f' i' j' kd' n' e'
      have hlt : ad f' i' j' < H.size := by
        by_cases z : f' = 3
        · subst z
          have := hA.2 i' j'
          omega
        · obtain ⟨a', ha', he'⟩ := mAd_ge hA hr0 e' z
          omega
      have g5 := g4.kept (oq _ hlt)
      rw [g2, g3]
      exact g5
