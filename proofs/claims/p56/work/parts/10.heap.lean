/-! THE SMALL MACHINE'S INSTRUCTIONS ON THE HEAP. -/
def mV0 (ad : mAd) (b0 : Nat) (D : va_G) (s : State) : Prop := mAdOk ad b0 ∧ va_K D mcl [] s
theorem mIsObj_spec {o : Option (Nat × Nat)} {c : Nat} (h : mIsObj o c = true) : ∃ n, o = some (c, n) := by
  unfold mIsObj at h
  split at h
  · rename_i k n
    rw [Nat.eq_of_beq_eq_true h]
    exact ⟨n, rfl⟩
  · cases h
theorem mIn_spec {x : Int32} {n : Nat} (h : mIn x n = true) : vp_in x n := by
  unfold mIn at h
  rw [Bool.and_eq_true] at h
  intro q
  rcases q with q | q
  · have := h.1
    rw [decide_eq_true q] at this
    cases this
  · have h2 : mix x < n := Nat.le_of_ble_eq_true h.2
    unfold mix at h2
    omega
theorem mIsArr_spec {o : Option (Nat × Nat)} {k : Nat} {x : Int32} (h : mIsArr o k x = true) : ∃ n, o = some (k, n) ∧ vp_in x n := by
  unfold mIsArr at h
  split at h
  · rename_i kd n
    rw [Bool.and_eq_true] at h
    rw [Nat.eq_of_beq_eq_true h.1]
    exact ⟨n, rfl, mIn_spec h.2⟩
  · cases h
theorem mIsInt_spec {o : Option (Nat × Nat)} {x : Int32} (h : mIsInt o x = true) : ∃ k n, (k = 20 ∨ k = 30) ∧ o = some (k, n) ∧ vp_in x n := by
  unfold mIsInt at h
  split at h
  · exact ⟨20, _, Or.inl rfl, rfl, mIn_spec h⟩
  · exact ⟨30, _, Or.inr rfl, rfl, mIn_spec h⟩
  · cases h
theorem mK1 {D : va_G} {s : State} {cA : ClassId} {ty : FieldType} (h1 : ArrOfT s cA ty) (h2 : va_RA s cA ty) : va_K D [] [(cA, ty)] s :=
  ⟨(fun c q h => by cases h), (fun k q h => by
    cases k with
    | zero => cases h; exact ⟨h1, h2⟩
    | succ k => cases h)⟩
theorem mP1 {D : va_G} {H : Heap} {a : Nat} {cA : ClassId} {x : vp_A} (h : H[a]? = some (vp_cell cA x)) : va_P D [] [(a, .inl (cA, x))] H := fun k q hk => by
  cases k with
  | zero => cases hk; exact h
  | succ k => cases hk
theorem mFV_eq {ad : mAd} {rf : Nat → Option mRf} {mi : Nat → Int32} {ci q kd : Nat} (h : kd = 0 ∧ mTy ci q = .int ∨ kd = 1 ∧ mFdRef ci q = true ∨ kd = 2 ∧ mTy ci q = .boolean ∨ kd = 3 ∧ mTy ci q = .byte) : mFV ad rf mi ci q = rv ad (mPick kd (.inr (.inl (rf q))) (mI (mi q))) := by
  unfold mFV
  rcases h with ⟨rfl, h⟩ | ⟨rfl, h⟩ | ⟨rfl, h⟩ | ⟨rfl, h⟩
  · have : mFdRef ci q = false := by unfold mFdRef; rw [h]
    rw [this]; rfl
  · rw [h]; rfl
  · have : mFdRef ci q = false := by unfold mFdRef; rw [h]
    rw [this]; rfl
  · have : mFdRef ci q = false := by unfold mFdRef; rw [h]
    rw [this]; rfl
theorem mKind_f {A0 na : Nat} {sh : Nat → Nat → Nat → Option (Nat × Nat)} {f i j kd n : Nat} (ho : mOkN A0 na sh) (e : sh f i j = some (kd, n)) (hk : kd ≠ 30 ∧ kd ≠ 24) : f ≠ 3 := fun q => ((ho f i j kd n e).1.mp q).elim hk.1 hk.2
/-- the words of fields by the nest -/
def mNst (s : State) : Prop := ∀ (a : String) (i : Nat) (b n d e : String), Jvm.Cond.fieldLinkNest a i b n d e ∈ lw_tbl → va_Nw (.fieldLinkNest a i b n d e) s
theorem mLay_of {args : Array Value} {s : State} {ci : Nat} (hts : ∀ w ∈ gTbl, w.before args s = true) (hci : ci < 16) : ∀ w ∈ u_ws (mCN ci) (mT ci) (mTN ci), w.before args s = true := fun w hw => hts w (mLay_ok hci w hw)
/-- a field of the class itself: no link by the nest -/
theorem mFldF {own ix ci q kd : Nat} {fin : Bool} (h : mFld own ix = some (ci, q, kd, fin)) (ho : own = ci) : Jvm.Cond.fieldLink (mCN own) ix (mT ci q).1 (mT ci q).2.1 (mT ci q).2.2.1 ∈ gTbl := by
  have hci := (mFld_ok h).2.1
  have hm := mLook_mem h
  have hc := mFldC_ok own (mGetD_mem hm) _ hm
  unfold mFldC at hc
  dsimp only at hc
  simp only [Bool.and_eq_true] at hc
  obtain ⟨⟨⟨⟨⟨h1, -⟩, -⟩, -⟩, -⟩, -⟩ := hc
  have hN : ∀ o, o < 16 → mFldN.getD o [] = [] := by decide +kernel
  cases hk : mLook (mFldP.getD own []) ix with
  | none =>
    rw [hk, hN own (by omega)] at h1
    cases h1
  | some k =>
    rw [hk] at h1
    exact gTbl_of k (of_decide_eq_true h1) rfl
section MH
variable {p : Program} {l : Launch} {e : Env} {R : Room} {s : State} {m : MethodId} {args : Array Value} {below : List Frame} {meth : Method} {c : Code} {D : va_G} {ad : mAd} {b0 y c0 s0 : Nat} {Z : State → Prop} {h : mH} {pc : Nat} {lo : mLo} {st : mSt}
theorem mi_getfield (hF : mFr y p s m args meth c) (hV : mV0 ad b0 D s) (hN : mNst s) {f i j ix ci q kd : Nat} {fin : Bool} (hd : cd y pc = some (.getfield ix)) (hfl : mFld (mOwn y) ix = some (ci, q, kd, fin)) (ho : mIsObj (mSh h f i j) ci = true)
    (k : mW p l e R s m args below meth c D ad b0 y c0 s0 Z h (pc + 3) lo (mPick kd (.inr (.inl (mRfO h f i j q))) (mI (mMiO h f i j q)) :: st)) : mW p l e R s m args below meth c D ad b0 y c0 s0 Z h pc lo (.inr (.inl (some (f, i, j))) :: st) := by
  intro H locs ls na h1 h2 h3 h4 h5
  have hdc := mDc hF.2.2.2.2.2.1.2 hd rfl rfl
  obtain ⟨hx, hb, hml, hown, hts, -⟩ := hF
  obtain ⟨n, e1⟩ := mIsObj_spec ho
  obtain ⟨hl, hci, hq, hfin, hT1, hkd⟩ := mFld_ok hfl
  obtain ⟨cell, q1, q2, q3, q4⟩ := (h1.at e1).2.2.1 hci
  obtain ⟨hS, hfc, kC, hkC, hkind⟩ := hV.2.1 ci _ (mcl_at hci)
  obtain ⟨cf, kf, fi, fd, hi, hsl⟩ := hS q hq
  have hk := k H locs ls na h1 h2 h3 h4 h5
  rw [List.map_cons, ← mFV_eq (ad := ad) (rf := mRfO h f i j) (mi := mMiO h f i j) hkd] at hk
  rcases hl with hl | hl
  · exact W.getf hx hb hown (hts _ hl) hi (u_facts hfc hkC (u_lays (mLay_of hts hci) (fun _ h => h) hq) hi).1 q1 (by rw [q3]; exact fun h => by cases h) (v := mFV ad (mRfO h f i j) (mMiO h f i j) ci q) (by rw [hsl]; exact q4 q hq) rfl rfl hdc hk
  · exact va_Wgetf hx hb hown (va_Nw.use rfl (hN _ _ _ _ _ _ hl)) hi (u_facts hfc hkC (u_lays (mLay_of hts hci) (fun _ h => h) hq) hi).1 q1 (by rw [q3]; exact fun h => by cases h) (v := mFV ad (mRfO h f i j) (mMiO h f i j) ci q) (by rw [hsl]; exact q4 q hq) rfl rfl hdc hk
/-- one field of one cell is written -/
theorem mPutF {H : Heap} {locs : List Loc} {cells slots : Nat} {ls : Array Slot} {rest : List Value} (hF : mFr y p s m args meth c) (hV : mV0 ad b0 D s) (hN : mNst s) {ix ci q kd : Nat} {fin : Bool} (hd : cd y pc = some (.putfield ix)) (hfl : mFld (mOwn y) ix = some (ci, q, kd, fin)) {a : Nat} {V : Nat → Value} (hO : t_OB a (D.1 ci) (mTN ci) (D.2 ci) H V) {v : Value}
    (hfin : (!fin || (mInit y && Nat.beq (mOwn y) ci)) = true) (hn : narrow (mTy ci q) v = v) (hfit : fits (mTy ci q) v = true)
    (kk : ∀ H' : Heap, t_OB a (D.1 ci) (mTN ci) (D.2 ci) H' (updV V q v) → H'.size = H.size → (∀ x : Nat, x ≠ a → H'[x]? = H[x]?) → W p l e R s m args below meth c H' (locs ++ [⟨a, D.2 ci q⟩]) cells slots Z (F0 m (pc + 3) ls rest)) :
    W p l e R s m args below meth c H locs cells slots Z (F0 m pc ls (v :: .ref a :: rest)) := by
  have hdc := mDc hF.2.2.2.2.2.1.2 hd rfl rfl
  obtain ⟨hx, hb, hml, hown, hts, -, hin⟩ := hF
  obtain ⟨hl, hci, hq, hfe, hT1, hkd⟩ := mFld_ok hfl
  have hc := mcl_at hci
  have hap := va_apart (own := mCN ci) (mLay_of hts hci) (fun _ h => h) (mTy ci) (fun k hk => mTy_ok hci hk) (mT_ne hci) hV.2 hc
  obtain ⟨cell, q1, q2, q3, q4⟩ := hO
  obtain ⟨hS, hfc, kC, hkC, hkind⟩ := hV.2.1 ci _ hc
  obtain ⟨cf, kf, fi, fd, hi, hsl⟩ := hS q hq
  have hlay := hts _ (mLay_ok hci _ (u_in_lay hq))
  have hst := (u_facts hfc hkC (u_lays (mLay_of hts hci) (fun _ h => h) hq) hi).1
  have hlt : fd.slot < cell.slots.size := by rw [hsl]; exact k2_hasslot (q4 q hq)
  unfold u_lay at hlay
  cases hfb : fin with
  | false =>
    rw [hfb] at hfe
    rw [if_neg (by rw [hfe]; decide)] at hlay
    have h6 := u_store hfc hkC hkind hlay hi (mTy_ok hci hq) hn hfit
    rcases hl with hl | hl
    · refine W.putK hx hb (f := fd) ⟨hown, hts _ hl, ⟨_, _, _, hi⟩, hst⟩ (by rw [q2]; exact h6) q1 q3 hlt rfl rfl hdc fun H' e1 e2 e3 => ?_
      rw [hsl] at e1 ⊢
      exact kk H' ⟨_, e1, q2, q3, t_set q4 hap hq v⟩ e2 e3
    · refine va_WputK hx hb (f := fd) hown (va_Nw.use rfl (hN _ _ _ _ _ _ hl)) hi hst (by rw [q2]; exact h6) q1 q3 hlt rfl rfl hdc fun H' e1 e2 e3 => ?_
      rw [hsl] at e1 ⊢
      exact kk H' ⟨_, e1, q2, q3, t_set q4 hap hq v⟩ e2 e3
  | true =>
    rw [hfb] at hfe hfin
    rw [if_pos hfe] at hlay
    simp only [Bool.not_true, Bool.false_or, Bool.and_eq_true] at hfin
    have ho := Nat.eq_of_beq_eq_true hfin.2
    have hcf : m.cls = cf := by
      obtain ⟨_, _, c', _, _, _, -, -, hf', -, -, -, hown2, -⟩ := Cond.laysFinal_spec hlay
      have e1 : c' = cf := by have := hi.symm.trans hf'; simp at this; exact this.1.symm
      rw [hT1 hfb, ← ho] at hown2
      rw [← e1]; exact Option.some.inj (hown.symm.trans hown2)
    have h6 := u_fits hfc hkC hkind (Or.inr hlay) hi (mTy_ok hci hq) hn hfit
    refine W.putFinK hx hb hown (hts _ (mFldF hfl ho)) hi hst hcf (hin hfin.1) (by rw [q2]; exact h6) q1 q3 hlt rfl rfl hdc fun H' e1 e2 e3 => ?_
    rw [hsl] at e1 ⊢
    exact kk H' ⟨_, e1, q2, q3, t_set q4 hap hq v⟩ e2 e3
theorem mi_putI (hF : mFr y p s m args meth c) (hV : mV0 ad b0 D s) (hN : mNst s) {f i j ix ci q kd : Nat} {fin : Bool} {x : Int32} (hd : cd y pc = some (.putfield ix)) (hfl : mFld (mOwn y) ix = some (ci, q, kd, fin))
    (ho : (mIsObj (mSh h f i j) ci && (!fin || (mInit y && Nat.beq (mOwn y) ci)) && ((Nat.beq kd 3 && decide (x = 0)) || Nat.beq kd 0 || (Nat.beq kd 2 && mZ x))) = true)
    (k : mW p l e R s m args below meth c D ad b0 y c0 s0 Z (h.1, (mset h.2.1 f i j q x, h.2.2)) (pc + 3) lo st) : mW p l e R s m args below meth c D ad b0 y c0 s0 Z h pc lo (.inl x :: .inr (.inl (some (f, i, j))) :: st) := by
  intro H locs ls na h1 h2 h3 h4 h5
  rw [Bool.and_eq_true, Bool.and_eq_true] at ho
  obtain ⟨⟨ho1, ho2⟩, ho3⟩ := ho
  obtain ⟨n, e1⟩ := mIsObj_spec ho1
  obtain ⟨hl, hci, hq, hfe, hT1, hkd⟩ := mFld_ok hfl
  have hf3 := mKind_f h1.1 e1 ⟨by omega, by omega⟩
  obtain ⟨a, ha, ha2⟩ := mAd_ge hV.1 h1 e1 hf3
  have hty : narrow (mTy ci q) (.int x) = .int x ∧ fits (mTy ci q) (.int x) = true ∧ mFdRef ci q = false := by
    rcases hkd with ⟨rfl, ht⟩ | ⟨rfl, ht⟩ | ⟨rfl, ht⟩ | ⟨rfl, ht⟩
    · unfold mFdRef; rw [ht]; exact ⟨rfl, rfl, rfl⟩
    · cases ho3
    rotate_left
    · unfold mFdRef; rw [ht]
      have hz : x = 0 := by simpa [Nat.beq] using ho3
      subst hz
      exact ⟨rfl, rfl, rfl⟩
    · unfold mFdRef; rw [ht]
      have hz : mZ x = true := by simpa [Nat.beq] using ho3
      unfold mZ at hz
      rw [Bool.or_eq_true, decide_eq_true_eq, decide_eq_true_eq] at hz
      rcases hz with rfl | rfl <;> exact ⟨rfl, rfl, rfl⟩
  refine mPutF hF hV hN hd hfl ((h1.at e1).2.2.1 hci) ho2 hty.1 hty.2.1 fun H' e3 e4 e5 => ?_
  refine k H' _ ls na ?_ (h2.put e4 e5 (by show b0 ≤ _; omega)) h3 h4 h5
  refine mRel.upd hV.1 h1 e1 hf3 e4 e5 rfl rfl (fun _ _ _ _ => rfl) (fun f' i' j' hne => mset_ne hne) fun _ => ?_
  show mCell D ad (mRfO h f i j) (mset h.2.1 f i j q x f i j) s H' (ad f i j) ci n
  rw [mset_at]
  exact mCell.putI hci hty.2.2 e3
theorem mi_putR (hF : mFr y p s m args meth c) (hV : mV0 ad b0 D s) (hN : mNst s) {f i j ix ci q kd : Nat} {fin : Bool} {x : Option mRf} (hd : cd y pc = some (.putfield ix)) (hfl : mFld (mOwn y) ix = some (ci, q, kd, fin))
    (ho : (mIsObj (mSh h f i j) ci && (!fin || (mInit y && Nat.beq (mOwn y) ci)) && Nat.beq kd 1) = true)
    (k : mW p l e R s m args below meth c D ad b0 y c0 s0 Z ((h.1.1, mrset h.1.2 f i j q x), h.2) (pc + 3) lo st) : mW p l e R s m args below meth c D ad b0 y c0 s0 Z h pc lo (.inr (.inl x) :: .inr (.inl (some (f, i, j))) :: st) := by
  intro H locs ls na h1 h2 h3 h4 h5
  rw [Bool.and_eq_true, Bool.and_eq_true] at ho
  obtain ⟨⟨ho1, ho2⟩, ho3⟩ := ho
  obtain ⟨n, e1⟩ := mIsObj_spec ho1
  obtain ⟨hl, hci, hq, hfe, hT1, hkd⟩ := mFld_ok hfl
  have hf3 := mKind_f h1.1 e1 ⟨by omega, by omega⟩
  obtain ⟨a, ha, ha2⟩ := mAd_ge hV.1 h1 e1 hf3
  have hR : mFdRef ci q = true := by
    rcases hkd with ⟨rfl, ht⟩ | ⟨rfl, ht⟩ | ⟨rfl, ht⟩ | ⟨rfl, ht⟩
    · cases ho3
    · exact ht
    · cases ho3
    · cases ho3
  have hty : narrow (mTy ci q) (rv ad (.inr (.inl x))) = rv ad (.inr (.inl x)) ∧ fits (mTy ci q) (rv ad (.inr (.inl x))) = true := by
    unfold mFdRef at hR
    cases ht : mTy ci q <;> rw [ht] at hR <;> first | exact absurd hR Bool.false_ne_true | (rcases x with _ | ⟨f2, i2, j2⟩ <;> exact ⟨rfl, rfl⟩)
  have eq1 : List.map (rv ad) (.inr (.inl x) :: .inr (.inl (some (f, i, j))) :: st) = rv ad (.inr (.inl x)) :: .ref (ad f i j) :: List.map (rv ad) st := rfl
  rw [eq1]
  refine mPutF hF hV hN hd hfl ((h1.at e1).2.2.1 hci) ho2 hty.1 hty.2 fun H' e3 e4 e5 => ?_
  refine k H' _ ls na ?_ (h2.put e4 e5 (by show b0 ≤ _; omega)) h3 h4 h5
  refine mRel.upd hV.1 h1 e1 hf3 e4 e5 rfl rfl (fun f' i' j' hne => mrset_ne hne) (fun _ _ _ _ => rfl) fun _ => ?_
  show mCell D ad (mrset h.1.2 f i j q x f i j) (mMiO h f i j) s H' (ad f i j) ci n
  rw [mrset_at]
  exact mCell.putR hci hR e3
theorem mi_iaload (hF : mFr y p s m args meth c) {f i j : Nat} {x : Int32} (hd : cd y pc = some .iaload) (ho : mIsInt (mSh h f i j) x = true) (k : mW p l e R s m args below meth c D ad b0 y c0 s0 Z h (pc + 1) lo (mI (mMiO h f i j (mix x)) :: st)) : mW p l e R s m args below meth c D ad b0 y c0 s0 Z h pc lo (.inl x :: .inr (.inl (some (f, i, j))) :: st) := by
  intro H locs ls na h1 h2 h3 h4 h5
  have hdc := mDc hF.2.2.2.2.2.1.2 hd rfl rfl
  obtain ⟨kd, n, hk, e1, hin⟩ := mIsInt_spec ho
  rcases hk with rfl | rfl
  · obtain ⟨cA, q1, q2, q3⟩ := (h1.at e1).2.2.2.1 rfl
    exact va_iald (D := D) hF.1 hF.2.1 (mK1 q2 q3) (mP1 q1) 0 0 rfl rfl hin hdc (k H locs ls na h1 h2 h3 h4 h5)
  · obtain ⟨cell, q1, q2, q3, q4, q5, q6⟩ := (h1.at e1).1 rfl
    have hlt : x.toNatClampNeg < n := Nat.not_le.mp fun q => hin (Or.inr q)
    exact W.iald (v := .int (mMiO h f i j (mix x))) hF.1 hF.2.1 q1 q2 q3 (fun q => by
      rcases q with q | q
      · exact hin (Or.inl q)
      · omega) (q6 _ hlt) rfl rfl hdc (k H locs ls na h1 h2 h3 h4 h5)
theorem mi_baload (hF : mFr y p s m args meth c) {f i j : Nat} {x : Int32} (hd : cd y pc = some .baload) (ho : (mIsArr (mSh h f i j) 24 x || mIsArr (mSh h f i j) 21 x || mIsArr (mSh h f i j) 22 x) = true) (k : mW p l e R s m args below meth c D ad b0 y c0 s0 Z h (pc + 1) lo (mI (mMiO h f i j (mix x)) :: st)) : mW p l e R s m args below meth c D ad b0 y c0 s0 Z h pc lo (.inl x :: .inr (.inl (some (f, i, j))) :: st) := by
  intro H locs ls na h1 h2 h3 h4 h5
  have hdc := mDc hF.2.2.2.2.2.1.2 hd rfl rfl
  rw [Bool.or_eq_true, Bool.or_eq_true] at ho
  rcases ho with (ho | ho) | ho
  · obtain ⟨n, e1, hin⟩ := mIsArr_spec ho
    obtain ⟨cell, q1, q2, q3, q4, q5, q6⟩ := (h1.at e1).2.2.2.2.2.2.2.1 rfl
    have hlt : x.toNatClampNeg < n := Nat.not_le.mp fun q => hin (Or.inr q)
    exact W.bald (v := .int (mMiO h f i j (mix x))) hF.1 hF.2.1 q1 q2 q3 (fun q => by
      rcases q with q | q
      · exact hin (Or.inl q)
      · omega) (q6 _ hlt) rfl rfl hdc (k H locs ls na h1 h2 h3 h4 h5)
  · obtain ⟨n, e1, hin⟩ := mIsArr_spec ho
    obtain ⟨cA, q1, q2, q3⟩ := (h1.at e1).2.2.2.2.1 rfl
    exact va_zald (D := D) hF.1 hF.2.1 (mK1 q2 q3) (mP1 q1) 0 0 rfl rfl hin hdc (k H locs ls na h1 h2 h3 h4 h5)
  · obtain ⟨n, e1, hin⟩ := mIsArr_spec ho
    obtain ⟨cA, q1, q2, q3⟩ := (h1.at e1).2.2.2.2.2.1 rfl
    exact va_bald (D := D) hF.1 hF.2.1 (mK1 q2 q3) (mP1 q1) 0 0 rfl rfl hin hdc (k H locs ls na h1 h2 h3 h4 h5)
theorem mi_aaload (hF : mFr y p s m args meth c) {f i j : Nat} {x : Int32} {r : mRf} (hd : cd y pc = some .aaload) (ho : (mIsArr (mSh h f i j) 23 x || mIsArr (mSh h f i j) 25 x) = true) (hr : mRfO h f i j (mix x) = some r) (k : mW p l e R s m args below meth c D ad b0 y c0 s0 Z h (pc + 1) lo (.inr (.inl (some r)) :: st)) : mW p l e R s m args below meth c D ad b0 y c0 s0 Z h pc lo (.inl x :: .inr (.inl (some (f, i, j))) :: st) := by
  intro H locs ls na h1 h2 h3 h4 h5
  have hdc := mDc hF.2.2.2.2.2.1.2 hd rfl rfl
  obtain ⟨kd, n, e1, hin, hk⟩ : ∃ kd n, mSh h f i j = some (kd, n) ∧ vp_in x n ∧ (kd = 23 ∨ kd = 25) := by
    rw [Bool.or_eq_true] at ho
    rcases ho with ho | ho
    · obtain ⟨n, e1, hin⟩ := mIsArr_spec ho
      exact ⟨23, n, e1, hin, Or.inl rfl⟩
    · obtain ⟨n, e1, hin⟩ := mIsArr_spec ho
      exact ⟨25, n, e1, hin, Or.inr rfl⟩
  obtain ⟨ty, hty, cA, q1, q2, q3⟩ : ∃ ty : FieldType, ty.isReference = true ∧ mArr (ad f i j) s H ty (n, .inr (.inr (.inr (.inr fun q => mOp ad (mRfO h f i j q))))) := by
    rcases hk with rfl | rfl
    · exact ⟨_, rfl, (h1.at e1).2.2.2.2.2.2.1 rfl⟩
    · exact ⟨_, rfl, (h1.at e1).2.2.2.2.2.2.2.2 rfl⟩
  rw [vp_cell_q] at q1
  have hlt : x.toNatClampNeg < n := Nat.not_le.mp fun q => hin (Or.inr q)
  refine W.aald (v := va_rf (mOp ad (mRfO h f i j (mix x)))) hF.1 hF.2.1 q1 (q2 n _) hty (fun z => by cases z) (by rw [arrV_size]; exact hin) (arrV_read _ _ hlt) rfl rfl hdc ?_
  show W p l e R s m args below meth c H locs _ _ Z (F0 m (pc + 1) ls (va_rf (mOp ad (mRfO h f i j (mix x))) :: _))
  rw [hr]
  obtain ⟨f2, i2, j2⟩ := r
  exact k H locs ls na h1 h2 h3 h4 h5
theorem mUpI {H' : Heap} {a : Nat} {cA : ClassId} {n k : Nat} {f : Nat → Int32} {x : Int32} (e : H'[a]? = some ((vp_cell cA (n, .inl f)).setSlot k (.int x))) : H'[a]? = some (vp_cell cA (n, .inl (upd f k x))) := by
  rw [e]
  rw [vp_cell_i, vp_cell_i, arrV_store]
  congr 2
  funext q
  by_cases hq : q = k
  · subst hq
    simp [updV, upd]
  · simp [updV, upd, hq]
theorem mi_iastore (hF : mFr y p s m args meth c) (hV : mV0 ad b0 D s) {f i j : Nat} {x v : Int32} (hd : cd y pc = some .iastore) (ho : mIsArr (mSh h f i j) 20 x = true) (k : mW p l e R s m args below meth c D ad b0 y c0 s0 Z (h.1, (mset h.2.1 f i j (mix x) v, h.2.2)) (pc + 1) lo st) : mW p l e R s m args below meth c D ad b0 y c0 s0 Z h pc lo (.inl v :: .inl x :: .inr (.inl (some (f, i, j))) :: st) := by
  intro H locs ls na h1 h2 h3 h4 h5
  have hdc := mDc hF.2.2.2.2.2.1.2 hd rfl rfl
  obtain ⟨n, e1, hin⟩ := mIsArr_spec ho
  obtain ⟨cA, q1, q2, q3⟩ := (h1.at e1).2.2.2.1 rfl
  have hf3 := mKind_f h1.1 e1 ⟨by omega, by omega⟩
  obtain ⟨a, ha, ha2⟩ := mAd_ge hV.1 h1 e1 hf3
  refine W.iast hF.1 hF.2.1 q1 (q2 n (fun j => .int (mMiO h f i _ j))) (fun q => by cases q) (by show ¬ (x < 0 ∨ (arrV _ _ _).slots.size ≤ _); rw [arrV_size]; exact hin) rfl rfl hdc fun H1 e3 z oq => ?_
  refine k H1 _ ls na ?_ (h2.put z oq (by show b0 ≤ _; omega)) h3 h4 h5
  refine mRel.upd hV.1 h1 e1 hf3 z oq rfl rfl (fun _ _ _ _ => rfl) (fun f' i' j' hne => mset_ne hne) fun _ => ?_
  refine ⟨fun z => by omega, by omega, fun z => by omega, fun _ => ⟨cA, ?_, q2, q3⟩, fun z => by omega, fun z => by omega, fun z => by omega, fun z => by omega, fun z => by omega⟩
  show H1[ad f i j]? = some (vp_cell cA (n, .inl (mset h.2.1 f i j (mix x) v f i j)))
  rw [mset_at]
  exact mUpI e3
theorem mi_bastoreZ (hF : mFr y p s m args meth c) (hV : mV0 ad b0 D s) {f i j : Nat} {x v : Int32} (hd : cd y pc = some .bastore) (ho : mIsArr (mSh h f i j) 21 x = true) (k : mW p l e R s m args below meth c D ad b0 y c0 s0 Z (h.1, (mset h.2.1 f i j (mix x) (v &&& 1), h.2.2)) (pc + 1) lo st) : mW p l e R s m args below meth c D ad b0 y c0 s0 Z h pc lo (.inl v :: .inl x :: .inr (.inl (some (f, i, j))) :: st) := by
  intro H locs ls na h1 h2 h3 h4 h5
  have hdc := mDc hF.2.2.2.2.2.1.2 hd rfl rfl
  obtain ⟨n, e1, hin⟩ := mIsArr_spec ho
  obtain ⟨cA, q1, q2, q3⟩ := (h1.at e1).2.2.2.2.1 rfl
  have hf3 := mKind_f h1.1 e1 ⟨by omega, by omega⟩
  obtain ⟨a, ha, ha2⟩ := mAd_ge hV.1 h1 e1 hf3
  refine W.zast hF.1 hF.2.1 q1 (q2 n (fun j => .int (mMiO h f i _ j))) (fun q => by cases q) (by show ¬ (x < 0 ∨ (arrV _ _ _).slots.size ≤ _); rw [arrV_size]; exact hin) rfl rfl hdc fun H1 e3 z oq => ?_
  refine k H1 _ ls na ?_ (h2.put z oq (by show b0 ≤ _; omega)) h3 h4 h5
  refine mRel.upd hV.1 h1 e1 hf3 z oq rfl rfl (fun _ _ _ _ => rfl) (fun f' i' j' hne => mset_ne hne) fun _ => ?_
  refine ⟨fun z => by omega, by omega, fun z => by omega, fun z => by omega, fun _ => ⟨cA, ?_, q2, q3⟩, fun z => by omega, fun z => by omega, fun z => by omega, fun z => by omega⟩
  show H1[ad f i j]? = some (vp_cell cA (n, .inl (mset h.2.1 f i j (mix x) (v &&& 1) f i j)))
  rw [mset_at]
  exact mUpI e3
theorem mi_bastoreB (hF : mFr y p s m args meth c) (hV : mV0 ad b0 D s) {f i j : Nat} {x v : Int32} (hd : cd y pc = some .bastore) (ho : mIsArr (mSh h f i j) 22 x = true) (k : mW p l e R s m args below meth c D ad b0 y c0 s0 Z (h.1, (mset h.2.1 f i j (mix x) v.toInt8.toInt32, h.2.2)) (pc + 1) lo st) : mW p l e R s m args below meth c D ad b0 y c0 s0 Z h pc lo (.inl v :: .inl x :: .inr (.inl (some (f, i, j))) :: st) := by
  intro H locs ls na h1 h2 h3 h4 h5
  have hdc := mDc hF.2.2.2.2.2.1.2 hd rfl rfl
  obtain ⟨n, e1, hin⟩ := mIsArr_spec ho
  obtain ⟨cA, q1, q2, q3⟩ := (h1.at e1).2.2.2.2.2.1 rfl
  have hf3 := mKind_f h1.1 e1 ⟨by omega, by omega⟩
  obtain ⟨a, ha, ha2⟩ := mAd_ge hV.1 h1 e1 hf3
  refine W.bast hF.1 hF.2.1 q1 (q2 n (fun j => .int (mMiO h f i _ j))) (fun q => by cases q) (by show ¬ (x < 0 ∨ (arrV _ _ _).slots.size ≤ _); rw [arrV_size]; exact hin) rfl rfl hdc fun H1 e3 z oq => ?_
  refine k H1 _ ls na ?_ (h2.put z oq (by show b0 ≤ _; omega)) h3 h4 h5
  refine mRel.upd hV.1 h1 e1 hf3 z oq rfl rfl (fun _ _ _ _ => rfl) (fun f' i' j' hne => mset_ne hne) fun _ => ?_
  refine ⟨fun z => by omega, by omega, fun z => by omega, fun z => by omega, fun z => by omega, fun _ => ⟨cA, ?_, q2, q3⟩, fun z => by omega, fun z => by omega, fun z => by omega⟩
  show H1[ad f i j]? = some (vp_cell cA (n, .inl (mset h.2.1 f i j (mix x) v.toInt8.toInt32 f i j)))
  rw [mset_at]
  exact mUpI e3
theorem mi_arraylength (hF : mFr y p s m args meth c) {f i j kd n : Nat} (hd : cd y pc = some .arraylength) (he : mSh h f i j = some (kd, n)) (hk : Nat.blt 19 kd = true) (k : mW p l e R s m args below meth c D ad b0 y c0 s0 Z h (pc + 1) lo (mI (Int32.ofNat n) :: st)) : mW p l e R s m args below meth c D ad b0 y c0 s0 Z h pc lo (.inr (.inl (some (f, i, j))) :: st) := by
  intro H locs ls na h1 h2 h3 h4 h5
  have hdc := mDc hF.2.2.2.2.2.1.2 hd rfl rfl
  have hk' : 19 < kd := Nat.le_of_ble_eq_true hk
  have hc := h1.at he
  obtain ⟨c1, c2, c3, c4, c5, c6, c7, c8, c9⟩ := hc
  have kk := k H locs ls na h1 h2 h3 h4 h5
  have go : ∀ {ty : FieldType} {x : (Nat → Int32) ⊕ (Nat → Int64) ⊕ (Nat → UInt32) ⊕ (Nat → UInt64) ⊕ (Nat → Option Nat)}, mArr (ad f i j) s H ty (n, x) → W p l e R s m args below meth c H locs (mCt h - c0) (mSl h - s0) Z (F0 m pc ls (List.map (rv ad) (.inr (.inl (some (f, i, j))) :: st))) := by
    intro ty x ⟨cA, q1, q2, q3⟩
    exact va_alen (D := D) hF.1 hF.2.1 (mK1 q2 q3) (mP1 q1) 0 0 rfl rfl rfl hdc kk
  rcases (by omega : kd = 20 ∨ kd = 21 ∨ kd = 22 ∨ kd = 23 ∨ kd = 24 ∨ kd = 25 ∨ kd = 30) with rfl | rfl | rfl | rfl | rfl | rfl | rfl
  · exact go (c4 rfl)
  · exact go (c5 rfl)
  · exact go (c6 rfl)
  · exact go (c7 rfl)
  · obtain ⟨cell, q1, q2, q3, q4, q5, q6⟩ := c8 rfl
    exact W.alen hF.1 hF.2.1 q1 q2 q5 rfl rfl hdc kk
  · exact go (c9 rfl)
  · obtain ⟨cell, q1, q2, q3, q4, q5, q6⟩ := c1 rfl
    exact W.alen hF.1 hF.2.1 q1 q2 q5 rfl rfl hdc kk
end MH
