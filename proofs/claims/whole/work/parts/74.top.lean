/-! THE LAW, from its entry to its end. -/
theorem shK_0 {L f i j : Nat} : shK L 0 f i j = mSh0 L f i j := by
  unfold mSh0
  cases h : Nat.beq f 3
  · have h₁ : f ≠ 3 := fun e => by
      rw [e] at h
      exact absurd h (by decide)
    exact shK_f h₁ (Nat.not_lt_zero _)
  · have h₁ := Nat.eq_of_beq_eq_true h
    rw [shK_t (Or.inl h₁), h₁]
set_option maxHeartbeats 4000000 in
theorem whole_ofR {p : Program} {e : Env} {s : State} {m : MethodId} {below : List Frame} {meth : Method} {c : Code} (l : Launch) (hflags : l.flags = flags0) {b L : Nat} {xs : Nat → Int32} (C0 : lw_At p s m meth c b L xs) (hDec : ∀ y, y < 358 → mDecH y)
    (hw : ∃ n D' hf, wp n D' 357 0 (mEntry 357 [mR 3 0 0]) [] (hc L 0 0 (mMi0 xs) 0) (fun r h' => r = .inl (some (.inl 1)) ∧ h' = hf) ∧ D' ≤ 1300 ∧ mCt hf ≤ 601024 ∧ mSl hf ≤ 7293034) :
    W p l e room_1 s m #[Value.ref b] below meth c s.heap [] 0 0 (lw_Z below #[Value.ref b] s) (entryFrame m ([Value.ref b] : List Value).toArray 9) := by
  obtain ⟨n, D', hf, hw, hD', hct, hsl⟩ := hw
  obtain ⟨hx, hb, hr, hml, hown, hts, hX, hbl, hlocks, hgv⟩ := C0
  have hfl : l.stackTraces = false := by
    unfold Launch.stackTraces
    rw [hflags]
    decide +kernel
  have hq := flat_of_before _ hgv
  have hA : ∀ a : Nat, a < s.heap.size → ¬ mA s.heap.size a := fun a h => Nat.not_le.mpr h
  have hts' : ∀ w ∈ gTbl, w.before #[Value.ref b] s = true := fun w hw => hts w (List.mem_filter.mp hw).1
  -- the classes
  have hcl : ∀ k : Nat, ∃ q : ClassId × (Nat → Nat), ∀ r : vw_C, mcl[k]? = some r → u_Kn s r.1 r.2.1 r.2.2 q.1 q.2 := by
    intro k
    rcases Nat.lt_or_ge k 13 with hk | hk
    · obtain ⟨cC, iS, h⟩ := u_known (C := mCN k) (T := mT k) (N := mTN k) (n := mTN k) hts' (mLay_ok hk) (hts' _ (mInst_ok hk).1)
      refine ⟨(cC, iS), fun r hr => ?_⟩
      rw [mcl_at hk] at hr
      cases hr
      exact h
    · exact ⟨(0, fun _ => 0), fun r hr => by
        rw [List.getElem?_eq_none (by exact hk)] at hr
        cases hr⟩
  obtain ⟨dd, hdd⟩ := Classical.axiomOfChoice hcl
  -- the texts
  have htx : ∀ k : Nat, ∃ q : Nat, k < 12 → (mTm k).eval #[Value.ref b] s none [] s = some (.ref q) ∧ q < s.heap.size ∧ (0 < (mTxt k).length → ∃ aV : Nat, va_O "java/lang/String" q (mA s.heap.size) s s.heap ∧ va_OF "java/lang/String" "coder" "B" (.int 0) q (mA s.heap.size) s s.heap ∧ va_OF "java/lang/String" "value" "[B" (.ref aV) q (mA s.heap.size) s s.heap ∧ va_T .byte aV (mTxt k).length (fun j => .int ((mTxt k).getD j 0)) (mA s.heap.size) s s.heap) := by
    intro k
    by_cases hk : k < 12
    · obtain ⟨a, c', cA, kA, q1, q2, q3, q4, q5, q6, -⟩ := Cond.exactly_spec (args := #[Value.ref b]) (first := s) (o := none) (s := s) (idx := []) (t := mTm k) (cls := "java/lang/String") (hq _ (nStr_x k hk))
      have hlt : a < s.heap.size := (Array.getElem?_eq_some_iff.mp q3).1
      refine ⟨a, fun _ => ⟨q1, hlt, fun h0 => ?_⟩⟩
      obtain ⟨n1, n2, n3, n4⟩ := nStr_k k hk h0
      obtain ⟨t, ht, hT⟩ := va_Tof (f := fun j => .int ((mTxt k).getD j 0)) (A := mA s.heap.size) (by have := (mTxt_len k).1; omega) (hq _ n3) (va_eqt (hq _ n4)) (fun j hj => va_eqt (hq _ (nStr_e k hk j hj))) hA
      exact ⟨t, ⟨cA, q3, q5, by rw [q6]; exact q2, hA a hlt⟩, vk_OFof q1 (va_eqt (hq _ n2)) hA, vk_OFof q1 ht hA, hT⟩
    · exact ⟨0, fun h => absurd h hk⟩
  obtain ⟨tx, htx⟩ := Classical.axiomOfChoice htx
  -- the two tables
  have hset : ∀ k, k = 1 ∨ k = 2 → ∃ t : Nat, (mTset k).eval #[Value.ref b] s none [] s = some (.ref t) ∧ va_T .int t 6 (fun j => .int ((mSet k).getD j 0)) (mA s.heap.size) s s.heap ∧ t < s.heap.size := by
    intro k hk
    obtain ⟨n1, n2⟩ := nSet_k k hk
    obtain ⟨t, h1, h2⟩ := va_Tof (f := fun j => .int ((mSet k).getD j 0)) (A := mA s.heap.size) (by decide) (hq _ n1) (va_eqt (hq _ n2)) (fun j hj => va_eqt (hq _ (nSet_e k (by omega) (by omega) j hj))) hA
    obtain ⟨cell, h3, -⟩ := id h2
    exact ⟨t, h1, h2, (Array.getElem?_eq_some_iff.mp h3).1⟩
  obtain ⟨t1, s11, s12, s13⟩ := hset 1 (Or.inl rfl)
  obtain ⟨t2, s21, s22, s23⟩ := hset 2 (Or.inr rfl)
  let ad : mAd := fun f i j => if f = 3 then (if i = 1 then t1 else if i = 2 then t2 else if i = 3 ∧ j < 12 then tx j else b) else s.heap.size + mIv f i j
  have ad3 : ∀ k, k < 12 → ad 3 3 k = tx k := fun k hk => by show (if (3 : Nat) = 3 then _ else _) = _; rw [if_pos rfl, if_neg (by decide), if_neg (by decide), if_pos ⟨rfl, hk⟩]
  have hAd : mAdOk ad s.heap.size := by
    refine ⟨fun a f i j h => ?_, fun i j => ?_⟩
    · show (if f = 3 then _ else _) = _
      rw [if_neg (mAl_f h), mIv_al h]
    · show (if (3 : Nat) = 3 then _ else _) < _
      rw [if_pos rfl]
      by_cases h1 : i = 1
      · rw [if_pos h1]; exact s13
      · rw [if_neg h1]
        by_cases h2 : i = 2
        · rw [if_pos h2]; exact s23
        · rw [if_neg h2]
          by_cases h3 : i = 3 ∧ j < 12
          · rw [if_pos h3]; exact (htx j h3.2).2.1
          · rw [if_neg h3]; exact hbl
  obtain ⟨w1, w2, w3, w4, w5, w6, w7, w8, w9, w10, w11⟩ := nTab
  obtain ⟨r1, r2, r3, r4⟩ := nRest
  have hD : va_K (fun k => (dd k).1, fun k => (dd k).2) mcl [] s := ⟨fun k q h => hdd k q h, fun k q h => by simp at h⟩
  have hE : mEv ad s.heap.size (fun k => (dd k).1, fun k => (dd k).2) s := by
    refine ⟨⟨hAd, hD⟩, ⟨Nat.le_refl _, ?_, ?_, ?_, ?_, ?_, ?_, fun k hk => ?_⟩, fun own ix k hk => ?_, fun a i x d hm => va_Nw.of rfl (hts _ hm), fun a i b2 n2 d e2 hm => va_Nw.of rfl (hts _ hm), fun k k1 k2 => va_Nw.of rfl (hts _ (nTab_c k k2 k1)), fun k j k1 k2 j1 j2 hne => va_Nc.of (hq _ (by
      rcases nCst_k k k2 j j2 with z | z
      · simp only [Bool.or_eq_true] at z
        rcases z with (z | z) | z <;> (have := Nat.eq_of_beq_eq_true z; omega)
      · exact z)), va_AO.of (hts _ w11), fun q hm => ?_, fun x hm => va_Nw.of rfl (hts _ hm)⟩
    · exact va_Zref (hts _ w5) (hts _ w10) s11 hA
    · exact va_Zref (hts _ w6) (hts _ w10) s21 hA
    · exact vx_Zqof (hts _ w1) (hts _ w7) (hq _ r1) hA
    · exact vx_Zqof (hts _ w2) (hts _ w7) (hq _ r2) hA
    · exact va_Zof (hts _ w3) (hts _ w8) (va_eqi (hq _ r3)) hA
    · exact va_Zqof (hts _ w4) (hts _ w9) (hq _ r4) hA
    · have hk12 : k < 12 := by
        rcases Nat.lt_or_ge k 12 with h | h
        · exact h
        · rw [mTxt_out h] at hk; cases hk
      obtain ⟨aV, a1, a2, a3, a4⟩ := (htx k hk12).2.2 hk
      refine ⟨aV, ?_⟩
      rw [ad3 k hk12]
      exact ⟨a1, a2, a3, a4⟩
    · have hm := mLook_mem hk
      have hlt := mGetD_mem hm
      obtain ⟨g1, g2, g3⟩ := nTab_s own hlt _ hm
      have g4 := (htx k g1).1
      rw [g2] at g4
      rw [ad3 k g1]
      exact vk_R.of (hts _ g3) g4
    · obtain ⟨g1, k, g2, g3⟩ := nTab_m q hm
      have g4 := (htx k g2).1
      rw [g3] at g4
      exact ⟨_, vk_R.of (hts _ g1) g4⟩
  have hrel : mRel (fun k => (dd k).1, fun k => (dd k).2) ad s.heap.size 0 (hc L 0 0 (mMi0 xs) 0) s s.heap := by
    have hsh : ∀ f i j, shK L 0 f i j = mSh0 L f i j := fun f i j => shK_0
    refine ⟨fun f i j kd n2 h => ?_, fun f i j kd n2 h => ?_, Nat.le_refl _, fun a h => ?_⟩
    · obtain ⟨g1, g2, -⟩ := mSh0_f (L := L) (f := f) (i := i) (j := j) (Eq.trans (Eq.symm (hsh f i j)) h)
      exact ⟨⟨fun _ => g1, fun _ => g2⟩, fun z => (z g1).elim, fun z => by omega, fun z => by omega⟩
    · obtain ⟨g1, g2, g3⟩ := mSh0_f (L := L) (f := f) (i := i) (j := j) (Eq.trans (Eq.symm (hsh f i j)) h)
      subst g1
      subst g2
      refine ⟨fun _ => ?_, Or.inr rfl, fun z => by omega, fun z => by omega, fun z => by omega, fun z => by omega, fun z => by omega, fun z => by omega, fun z => by omega⟩
      rcases g3 with ⟨rfl, rfl⟩ | ⟨rfl, rfl⟩ | ⟨rfl, rfl⟩
      · exact mOld_X hX
      · exact mOld_T s12
      · exact mOld_T s22
    · cases h
      exact ⟨rfl, rfl⟩
  have hF : mFr 357 p s m #[Value.ref b] meth c := ⟨hx, hb, hml, hown, hts', ⟨by decide, hDec 357 (by decide)⟩, fun z => by cases z⟩
  have hen : mEnds p l e room_1 s m #[Value.ref b] below meth c (fun k => (dd k).1, fun k => (dd k).2) ad s.heap.size 357 0 0 (lw_Z below #[Value.ref b] s) (.inl (some (.inl 1))) hf := by
    refine ⟨fun r pc lo ins ho hd hrk => ?_, fun E pc H locs ls rest na q ce ho => (by cases ho), fun pc ix ci n2 lo st h hd hn hle ho => (by cases ho)⟩
    cases ho
    intro H locs ls na h1 h2 h3 h4 h5
    have hins : ins = .ireturn := by
      cases ins <;> first | rfl | exact hrk.elim
    subst hins
    refine W.base ?_
    refine va_forget (s := s.setDrawn s.drawn) (fun q hq => h2.2.2 q hq) (W.widen (by omega) (by omega) ?_)
    have hdg := mDc (hDec 357 (by decide)) hd rfl rfl
    rw [mByt_law] at hdg
    exact lw_ret (Drawn.sameBut.refl s.drawn lw_cs) hx hb hr hlocks hdg
  have hk := mSound (ad := ad) (b0 := s.heap.size) (D := (fun k => (dd k).1, fun k => (dd k).2)) hfl (mJdk_ok l ad s.heap.size) hDec n D' 357 0 (mEntry 357 [mR 3 0 0]) [] (hc L 0 0 (mMi0 xs) 0) (.inl (some (.inl 1))) hf p e room_1 s m #[Value.ref b] below meth c 0 0 _ hF hE (fun z => (z rfl).elim) ⟨by show D' + 12 ≤ 2048; omega, by show 60 * D' + 200 ≤ 84000; omega⟩ ⟨by show mCt hf - 0 ≤ 601024; omega, by show mSl hf - 0 ≤ 7293034; omega⟩ hen hw
  rw [lg_entry_eq]
  exact hk s.heap [] _ 0 hrel va_S.rf (mEntry_loc (ad := ad) (y := 357) (as := [mR 3 0 0]) rfl (by decide)) (Nat.le_refl _) (Nat.le_refl _)
/-- the memory of numbers behind the constructors -/
def ccM1 (xs : Nat → Int32) : mMi := mset (mset (mMi0 xs) 2 3 0 4 (I (-1))) 4 0 0 19 (I (-1))
theorem ccZr_0 {xs : Nat → Int32} : ccZr (mMi0 xs) := fun f i j p h₁ _ _ => by
  unfold mMi0
  rw [beq_f h₁]
theorem ccM1_z {xs : Nat → Int32} {f i j p : Nat} (h₁ : f ≠ 3) (h₂ : ¬ (f = 2 ∧ i = 3 ∧ j = 0 ∧ p = 4)) (h₃ : ¬ (f = 4 ∧ i = 0 ∧ j = 0 ∧ p = 19)) : ccM1 xs f i j p = N 0 := ccZr_n1 (ccZr_n0 ccZr_0) f i j p h₁ h₂ h₃
theorem ccM1_a {xs : Nat → Int32} : ccM1 xs 2 3 0 4 = I (-1) := by
  unfold ccM1
  rw [ccRd, if_neg (by omega), ccRd, if_pos (by omega)]
theorem ccM1_b {xs : Nat → Int32} : ccM1 xs 4 0 0 19 = I (-1) := by
  unfold ccM1
  rw [ccRd, if_pos (by omega)]
theorem ccM1_3 {xs : Nat → Int32} {i j p : Nat} : ccM1 xs 3 i j p = mMi0 xs 3 i j p := by
  unfold ccM1
  rw [ccRd, if_neg (by omega), ccRd, if_neg (by omega)]
theorem ccTop1 {xs : Nat → Int32} : ccTop 0 (ccM1 xs) := by
  refine ⟨⟨0, by omega, ccM1_z (by omega) (by omega) (by omega), ccM1_z (by omega) (by omega) (by omega), fun k h => absurd h (Nat.not_lt_zero k)⟩, ⟨?_, ?_⟩, ⟨0, by omega, ccM1_z (by omega) (by omega) (by omega), ccM1_z (by omega) (by omega) (by omega), fun k h => absurd h (Nat.not_lt_zero k)⟩, Or.inl ⟨ccM1_z (by omega) (by omega) (by omega), ccM1_z (by omega) (by omega) (by omega), ⟨0, 0, by omega, by omega, ccM1_z (by omega) (by omega) (by omega), ccM1_z (by omega) (by omega) (by omega), ccM1_z (by omega) (by omega) (by omega), fun t h => absurd h (Nat.not_lt_zero t)⟩, fun e _ => Or.inl ⟨ccM1_z (by omega) (by omega) (by omega), ccM1_z (by omega) (by omega) (by omega)⟩⟩⟩
  · rw [ccM1_z (by omega) (by omega) (by omega), ccM1_z (by omega) (by omega) (by omega)]
  · rw [ccM1_a, ccM1_b]
theorem ccLim1 {xs : Nat → Int32} : ccLim (ccM1 xs) := fun i h => by
  rw [ccM1_3, ccM1_3]
  have hk : i = 0 ∨ i = 1 ∨ i = 2 ∨ i = 3 ∨ i = 4 ∨ i = 5 := by omega
  rcases hk with hk | hk | hk | hk | hk | hk <;> subst hk <;> exact ⟨rfl, rfl⟩
theorem ccHc {L : Nat} {mi : mMi} {s : Nat} : hc L 237 273 mi s = hp L mi (fun _ => 0, fun _ => 0, some 237, 237, s) := by
  unfold hc
  rw [shK_end, rfK_end]
theorem ccRuns {L : Nat} {xs : Nat → Int32} (hL : L ≤ 3072) : ∃ n D' hf, wp n D' 357 0 (mEntry 357 [mR 3 0 0]) [] (hc L 0 0 (mMi0 xs) 0) (fun r h' => r = .inl (some (.inl 1)) ∧ h' = hf) ∧ D' ≤ 1300 ∧ mCt hf ≤ 601024 ∧ mSl hf ≤ 7293034 := by
  obtain ⟨m₂, r₂, e₁, e₂, e₃⟩ := ccLaw hL 512 0 (ccM1 xs) (fun _ => 0, fun _ => 0, some 237, 237, 26568) (by omega) (by omega) ccTop1 ccLim1
  have w : WP 29 357 0 (mEntry 357 [mR 3 0 0]) [] (hc L 0 0 (mMi0 xs) 0) (fun r h' => r = .inl (some (.inl 1)) ∧ h' = hp L m₂ r₂) := by
    refine ccLaw0 (D := 25) ccZr_0 rfl rfl ?_
    rw [ccHc]
    exact R357_28 L 513 (N 0) (ccM1 xs) (fun _ => 0, fun _ => 0, some 237, 237, 26568) none none 28 _ (by decide) _ e₁ ⟨rfl, rfl⟩
  obtain ⟨n, hn⟩ := w
  refine ⟨n, 29, hp L m₂ r₂, hn, by omega, ?_, ?_⟩
  · have e₄ : r₂.2.2.2.1 ≤ 237 + 512 := e₂
    show r₂.2.2.2.1 ≤ 601024
    omega
  · have e₄ : r₂.2.2.2.2 ≤ 26568 + 6 * 512 := e₃
    show r₂.2.2.2.2 ≤ 7293034
    omega
