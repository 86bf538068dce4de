/-! THE JDK'S METHODS THAT THE SMALL MACHINE KNOWS: their contracts. -/
def yLat : MethodName := ⟨"java/lang/String", "isLatin1", "()Z"⟩
abbrev bLat : ByteArray := prog_27_method_154_code
theorem gLat_i : Jvm.Cond.instanceMethod yLat ∈ gTbl := gTbl_of 834 (by decide +kernel) rfl
theorem gLat_s : Jvm.Cond.selects yLat.cls yLat yLat ∈ gTbl := gTbl_of 835 (by decide +kernel) rfl
theorem gLat_c : Jvm.Cond.code yLat bLat 1 (some .boolean) ∈ gTbl := gTbl_of 836 (by decide +kernel) rfl
def yCha1 : MethodName := ⟨"java/lang/StringLatin1", "charAt", "([BI)C"⟩
abbrev bCha1 : ByteArray := prog_29_method_2_code
theorem gCha1_t : Jvm.Cond.static yCha1 ∈ gTbl := gTbl_of 838 (by decide +kernel) rfl
theorem gCha1_n : Jvm.Cond.initialized yCha1.cls ∈ gTbl := gTbl_of 41 (by decide +kernel) rfl
theorem gCha1_c : Jvm.Cond.code yCha1 bCha1 2 (some .char) ∈ gTbl := gTbl_of 839 (by decide +kernel) rfl
theorem gChk_n : Jvm.Cond.initialized yChk.cls ∈ gTbl := gTbl_of 34 (by decide +kernel) rfl
def yPre : MethodName := ⟨"jdk/internal/util/Preconditions", "checkIndex", "(IILjava/util/function/BiFunction;)I"⟩
abbrev bPre : ByteArray := prog_35_method_11_code
theorem gPre_t : Jvm.Cond.static yPre ∈ gTbl := gTbl_of 642 (by decide +kernel) rfl
theorem gPre_n : Jvm.Cond.initialized yPre.cls ∈ gTbl := gTbl_of 40 (by decide +kernel) rfl
theorem gPre_c : Jvm.Cond.code yPre bPre 3 (some .int) ∈ gTbl := gTbl_of 643 (by decide +kernel) rfl
theorem gLk_cod : Jvm.Cond.methodLink "java/lang/String" 335 yCod ∈ gTbl := gTbl_of 442 (by decide +kernel) rfl
theorem gLk_lat : Jvm.Cond.methodLink "java/lang/String" 492 yLat ∈ gTbl := gTbl_of 833 (by decide +kernel) rfl
theorem gLk_cha : Jvm.Cond.methodLink "java/lang/String" 495 yCha1 ∈ gTbl := gTbl_of 837 (by decide +kernel) rfl
theorem gLk_chk : Jvm.Cond.methodLink "java/lang/StringLatin1" 9 yChk ∈ gTbl := gTbl_of 840 (by decide +kernel) rfl
theorem gLk_pre : Jvm.Cond.methodLink "java/lang/String" 1059 yPre ∈ gTbl := gTbl_of 641 (by decide +kernel) rfl
theorem gLk_com : Jvm.Cond.fieldLink "java/lang/String" 38 "java/lang/String" "COMPACT_STRINGS" "Z" ∈ gTbl := gTbl_of 446 (by decide +kernel) rfl
theorem gLk_sio : Jvm.Cond.fieldLink "java/lang/String" 1053 "jdk/internal/util/Preconditions" "SIOOBE_FORMATTER" "Ljava/util/function/BiFunction;" ∈ gTbl := gTbl_of 527 (by decide +kernel) rfl
theorem gLk_val : Jvm.Cond.fieldLink "java/lang/String" 9 "java/lang/String" "value" "[B" ∈ gTbl := gTbl_of 1645 (by decide +kernel) rfl
theorem gLk_cdr : Jvm.Cond.fieldLink "java/lang/String" 15 "java/lang/String" "coder" "B" ∈ gTbl := gTbl_of 1646 (by decide +kernel) rfl
theorem mTxt_key : ∀ k, k < 25 → ((mTxt k).length ≤ 6 ∧ Int32.ofNat (mTxt k).length >>> ((0 : Int32) &&& 31) = Int32.ofNat (mTxt k).length) ∧ ∀ x ∈ mTxt k, ((x &&& 255).toUInt32 % 65536).toInt32 = x ∧ x.toUInt32.toUInt16.toUInt32.toInt32 = x := by decide +kernel
theorem mTxt_out {k : Nat} (h : 25 ≤ k) : mTxt k = [] := by
  unfold mTxt
  rw [List.getD_eq_getElem?_getD, List.getElem?_eq_none (by exact h)]
  rfl
theorem mTxt_len (k : Nat) : (mTxt k).length ≤ 6 ∧ Int32.ofNat (mTxt k).length >>> ((0 : Int32) &&& 31) = Int32.ofNat (mTxt k).length := by
  rcases Nat.lt_or_ge k 25 with h | h
  · exact (mTxt_key k h).1
  · rw [mTxt_out h]; decide
theorem mTxt_byt (k j : Nat) : (((mTxt k).getD j 0 &&& 255).toUInt32 % 65536).toInt32 = (mTxt k).getD j 0 ∧ narrow .char (.int ((mTxt k).getD j 0)) = .int ((mTxt k).getD j 0) := by
  have key : ∀ x, ((x &&& 255).toUInt32 % 65536).toInt32 = x ∧ x.toUInt32.toUInt16.toUInt32.toInt32 = x → ((x &&& 255).toUInt32 % 65536).toInt32 = x ∧ narrow .char (.int x) = .int x := fun x h => ⟨h.1, congrArg Value.int h.2⟩
  apply key
  rcases Nat.lt_or_ge j (mTxt k).length with hj | hj
  · have hm : (mTxt k).getD j 0 ∈ mTxt k := by
      rw [List.getD_eq_getElem?_getD, List.getElem?_eq_getElem hj, Option.getD_some]
      exact List.getElem_mem hj
    rcases Nat.lt_or_ge k 25 with h | h
    · exact (mTxt_key k h).2 _ hm
    · rw [mTxt_out h] at hj; cases hj
  · rw [List.getD_eq_getElem?_getD, List.getElem?_eq_none hj]; decide
theorem mIn_cmp {x : Int32} {N : Nat} (h : mIn x N = true) (hN : N < 2 ^ 31) : ¬ x < 0 ∧ x < Int32.ofNat N ∧ vp_in x N := by
  unfold mIn at h
  rw [Bool.and_eq_true, Bool.not_eq_true', decide_eq_false_iff_not] at h
  obtain ⟨h1, h2⟩ := h
  have h2 : x.toInt.toNat < N := Nat.le_of_ble_eq_true h2
  have h0 : 0 ≤ x.toInt := by
    have := Int32.not_lt.mp h1
    simpa using Int32.le_iff_toInt_le.mp this
  refine ⟨h1, ?_, fun q => q.elim h1 (fun z => Nat.lt_irrefl _ (Nat.lt_of_lt_of_le h2 z))⟩
  rw [Int32.lt_iff_toInt_lt, Int32.toInt_ofNat_of_lt (by omega)]
  omega
theorem gW_cod : GoodIn gTbl (wsV "java/lang/String" 335 yCod.cls yCod (Cond.code yCod bCod 1 (some .byte) :: gTbl)) := gGood fun w hw => by
  unfold wsV at hw
  simp only [List.cons_append, List.nil_append, List.mem_cons] at hw
  rcases hw with rfl | rfl | rfl | rfl | rfl | hw
  · exact gLk_cod
  · exact gCod_i
  · exact gCod_s
  · exact gLen_n
  · exact gCod_c
  · exact hw
theorem gW_lat : GoodIn gTbl (wsV "java/lang/String" 492 yLat.cls yLat (Cond.code yLat bLat 1 (some .boolean) :: gTbl)) := gGood fun w hw => by
  unfold wsV at hw
  simp only [List.cons_append, List.nil_append, List.mem_cons] at hw
  rcases hw with rfl | rfl | rfl | rfl | rfl | hw
  · exact gLk_lat
  · exact gLat_i
  · exact gLat_s
  · exact gLen_n
  · exact gLat_c
  · exact hw
theorem gW_Cha1 : GoodIn gTbl (va_wsS "java/lang/String" 495 yCha1 (Cond.code yCha1 bCha1 2 (some .char) :: gTbl)) := gGood fun w hw => by
  unfold va_wsS at hw
  simp only [List.cons_append, List.nil_append, List.mem_cons] at hw
  rcases hw with rfl | rfl | rfl | rfl | hw
  · exact gLk_cha
  · exact gCha1_t
  · exact gCha1_n
  · exact gCha1_c
  · exact hw
theorem gW_Chk : GoodIn gTbl (va_wsS "java/lang/StringLatin1" 9 yChk (Cond.code yChk bChk 2 none :: gTbl)) := gGood fun w hw => by
  unfold va_wsS at hw
  simp only [List.cons_append, List.nil_append, List.mem_cons] at hw
  rcases hw with rfl | rfl | rfl | rfl | hw
  · exact gLk_chk
  · exact gChk_t
  · exact gChk_n
  · exact gChk_c
  · exact hw
theorem gW_Pre : GoodIn gTbl (va_wsS "java/lang/String" 1059 yPre (Cond.code yPre bPre 3 (some .int) :: gTbl)) := gGood fun w hw => by
  unfold va_wsS at hw
  simp only [List.cons_append, List.nil_append, List.mem_cons] at hw
  rcases hw with rfl | rfl | rfl | rfl | hw
  · exact gLk_pre
  · exact gPre_t
  · exact gPre_n
  · exact gPre_c
  · exact hw
theorem mJ_cod {l : Launch} {ad : mAd} {b0 fr lc : Nat} {k : Nat} (hk : mTxO k = true) : Met l yCod (Cond.code yCod bCod 1 (some .byte) :: gTbl) { frames := fr, cells := 0, slots := 0, locals := lc } (va_Pc [.ref (ad 3 3 k)] (fun U => mOldW ad b0 U U.heap)) (QcRead 0) 0 0 (fun _ => False) := by
  refine Met.ofW (cc := bCod) (maxL := 1) (ret := (some .byte)) (ws' := gTbl) (by decide +kernel) rfl ?_
  intro p e s m args below meth c s₁ B hml hP
  have hts := atoms_spec B.pre
  have ht : ∀ w ∈ gTbl, w.before args s = true := fun w hw => hts w (List.mem_cons_of_mem _ hw)
  have hown := findClass_of_methodNamed B.named
  have hx := B.exec
  have hb := B.bytes
  have hr := B.returns
  have hlocks := B.notSynchronized
  obtain ⟨rfl, hO⟩ := hP
  rw [lg_entry_eq]
  have hl := lv_entry [Value.ref (ad 3 3 k)] (n := 1) (Nat.le_of_ble_eq_true rfl)
  obtain ⟨aV, o1, o2, o3, o4⟩ := hO.2.2.2.2.2.2.2.2.2 k hk
  refine va_gets hx hb hO.2.2.2.2.2.2.2.1 va_S.rf hown (ht _ gLk_com) (fun _ z => z) (by show decode bCod 0 = _; decide +kernel) ?_
  refine lv_if_eq hx hb (off := 10) (tgt := 13) (by show decode bCod 3 = _; decide +kernel) rfl (fun z => by cases z) fun _ => ?_
  refine lv_aload_n hx hb (k := 0) (by show decode bCod 6 = _; decide +kernel) rfl (lv_at hl 0 rfl) ?_
  refine vk_getf hx hb o2 va_S.rf hown (ht _ gLk_cdr) (fun _ z => z) (by show decode bCod 7 = _; decide +kernel) ?_
  refine lv_goto hx hb (off := 4) (tgt := 14) (by show decode bCod 10 = _; decide +kernel) rfl ?_
  exact W.zret hx hb hr rfl (fun t hh hW => ⟨rfl, hh⟩) (fun q hq => by cases hq) (by show decode bCod 14 = _; decide +kernel)
theorem mJ_lat {l : Launch} {ad : mAd} {b0 : Nat} {k : Nat} (hk : mTxO k = true) : Met l yLat (Cond.code yLat bLat 1 (some .boolean) :: gTbl) { frames := 1, cells := 0, slots := 0, locals := 50 } (va_Pc [.ref (ad 3 3 k)] (fun U => mOldW ad b0 U U.heap)) (QcRead 1) 0 0 (fun _ => False) := by
  refine Met.ofW (cc := bLat) (maxL := 1) (ret := (some .boolean)) (ws' := gTbl) (by decide +kernel) rfl ?_
  intro p e s m args below meth c s₁ B hml hP
  have hts := atoms_spec B.pre
  have ht : ∀ w ∈ gTbl, w.before args s = true := fun w hw => hts w (List.mem_cons_of_mem _ hw)
  have hown := findClass_of_methodNamed B.named
  have hx := B.exec
  have hb := B.bytes
  have hr := B.returns
  have hlocks := B.notSynchronized
  obtain ⟨rfl, hO⟩ := hP
  rw [lg_entry_eq]
  have hl := lv_entry [Value.ref (ad 3 3 k)] (n := 1) (Nat.le_of_ble_eq_true rfl)
  obtain ⟨aV, o1, o2, o3, o4⟩ := hO.2.2.2.2.2.2.2.2.2 k hk
  refine va_gets hx hb hO.2.2.2.2.2.2.2.1 va_S.rf hown (ht _ gLk_com) (fun _ z => z) (by show decode bLat 0 = _; decide +kernel) ?_
  refine lv_if_eq hx hb (off := 14) (tgt := 17) (by show decode bLat 3 = _; decide +kernel) rfl (fun z => by cases z) fun _ => ?_
  refine lv_aload_n hx hb (k := 0) (by show decode bLat 6 = _; decide +kernel) rfl (lv_at hl 0 rfl) ?_
  refine vk_getf hx hb o2 va_S.rf hown (ht _ gLk_cdr) (fun _ z => z) (by show decode bLat 7 = _; decide +kernel) ?_
  refine lv_if_ne hx hb (off := 7) (tgt := 17) (by show decode bLat 10 = _; decide +kernel) rfl (fun z => (z rfl).elim) fun _ => ?_
  refine lv_iconst hx hb (n := 1) (v := 1) (by show decode bLat 13 = _; decide +kernel) rfl ?_
  refine lv_goto hx hb (off := 4) (tgt := 18) (by show decode bLat 14 = _; decide +kernel) rfl ?_
  exact W.zret hx hb hr rfl (fun t hh hW => ⟨rfl, hh⟩) (fun q hq => by cases hq) (by show decode bLat 18 = _; decide +kernel)
theorem mJ_pre {l : Launch} {ad : mAd} {b0 : Nat} {x y : Int32} {f : Value} (hf : f.category = 1) (h0 : ¬ x < 0) (h1 : x < y) : Met l yPre (Cond.code yPre bPre 3 (some .int) :: gTbl) { frames := 1, cells := 0, slots := 0, locals := 50 } (va_Pc [.int x, .int y, f] (fun _ => True)) (QcRead x) 0 0 (fun _ => False) := by
  refine Met.ofW (cc := bPre) (maxL := 3) (ret := (some .int)) (ws' := gTbl) (by decide +kernel) rfl ?_
  intro p e s m args below meth c s₁ B hml hP
  have hts := atoms_spec B.pre
  have ht : ∀ w ∈ gTbl, w.before args s = true := fun w hw => hts w (List.mem_cons_of_mem _ hw)
  have hown := findClass_of_methodNamed B.named
  have hx := B.exec
  have hb := B.bytes
  have hr := B.returns
  have hlocks := B.notSynchronized
  obtain ⟨rfl, hO⟩ := hP
  rw [lg_entry_eq]
  have hl0 : (lg_sl [Value.int x, Value.int y, f]).length ≤ 3 := by
    cases f <;> first | exact Nat.le_of_ble_eq_true rfl | (cases hf; done)
  have hl := lv_entry [Value.int x, Value.int y, f] (n := 3) hl0
  refine lv_iload_n hx hb (k := 0) (by show decode bPre 0 = _; decide +kernel) rfl (lv_at hl 0 rfl) ?_
  refine lv_if_lt hx hb (off := 8) (tgt := 9) (by show decode bPre 1 = _; decide +kernel) rfl (fun z => (h0 z).elim) fun _ => ?_
  refine lv_iload_n hx hb (k := 0) (by show decode bPre 4 = _; decide +kernel) rfl (lv_at hl 0 rfl) ?_
  refine lv_iload_n hx hb (k := 1) (by show decode bPre 5 = _; decide +kernel) rfl (lv_at hl 1 rfl) ?_
  refine lv_icmp_lt hx hb (off := 10) (tgt := 16) (by show decode bPre 6 = _; decide +kernel) rfl (fun _ => ?_) fun z => (z h1).elim
  refine lv_iload_n hx hb (k := 0) (by show decode bPre 16 = _; decide +kernel) rfl (lv_at hl 0 rfl) ?_
  exact W.iret hx hb hr (fun t hh hW => ⟨rfl, hh⟩) (fun q hq => by cases hq) (by show decode bPre 17 = _; decide +kernel)
theorem mJ_chk {l : Launch} {ad : mAd} {b0 fr lc : Nat} {x y : Int32} (hfr : 2 ≤ fr) (hlc : 80 ≤ lc) (h0 : ¬ x < 0) (h1 : x < y) : Met l yChk (Cond.code yChk bChk 2 none :: gTbl) { frames := fr, cells := 0, slots := 0, locals := lc } (va_Pc [.int x, .int y] (fun U => mOldW ad b0 U U.heap)) (fun _ st oc t => oc = .returned none ∧ t.heap = st.heap) 0 0 (fun _ => False) := by
  refine Met.ofW (cc := bChk) (maxL := 2) (ret := none) (ws' := gTbl) (by decide +kernel) rfl ?_
  intro p e s m args below meth c s₁ B hml hP
  have hts := atoms_spec B.pre
  have ht : ∀ w ∈ gTbl, w.before args s = true := fun w hw => hts w (List.mem_cons_of_mem _ hw)
  have hown := findClass_of_methodNamed B.named
  have hx := B.exec
  have hb := B.bytes
  have hr := B.returns
  have hlocks := B.notSynchronized
  obtain ⟨rfl, hO⟩ := hP
  rw [lg_entry_eq]
  have hl := lv_entry [Value.int x, Value.int y] (n := 2) (Nat.le_of_ble_eq_true rfl)
  have key : ∀ f : Value, f.category = 1 → W p l e (headSpec (Cond.code yChk bChk 2 none :: gTbl) { frames := fr, cells := 0, slots := 0, locals := lc }).room s m [Value.int x, Value.int y].toArray below meth c s.heap [] 0 0 (MQ below (fun _ st oc t => oc = .returned none ∧ t.heap = st.heap) [Value.int x, Value.int y].toArray s 0 0 (fun _ => False)) (F0 m 5 ((lg_sl [Value.int x, Value.int y] ++ List.replicate (2 - (lg_sl [Value.int x, Value.int y]).length) Slot.unset).toArray) [f, .int y, .int x]) := fun f hf => by
    refine W.callR (W.runS (As := [.int x, .int y, f]) (rest := []) ⟨hx, hb, hml, hown, ht⟩ (mJ_pre (ad := ad) (b0 := b0) hf h0 h1) (va_cwS 3 ht gW_Pre rfl rfl rfl (by decide +kernel) ⟨by show 1 + 1 ≤ fr; omega, by show 8 + (3 + 11) + 50 ≤ lc; omega⟩) ⟨fun a U g mk q => q, fun U hU hW => ⟨rfl, trivial⟩⟩ rfl rfl hl.1 rfl (lv_room (by decide)) (by show decode bChk 5 = _; decide +kernel) ⟨Nat.le_refl _, Nat.le_refl _⟩) ?_
    refine lv_pop hx hb (by show decode bChk 8 = _; decide +kernel) rfl ?_
    exact W.vret hx hb hr (fun t hh hW => ⟨rfl, hh⟩) (fun q hq => by cases hq) (by show decode bChk 9 = _; decide +kernel)
  refine lv_iload_n hx hb (k := 0) (by show decode bChk 0 = _; decide +kernel) rfl (lv_at hl 0 rfl) ?_
  refine lv_iload_n hx hb (k := 1) (by show decode bChk 1 = _; decide +kernel) rfl (lv_at hl 1 rfl) ?_
  rcases hO.2.2.2.2.2.2.2.2.1 with hz | ⟨t, hz⟩
  · exact va_gets hx hb hz va_S.rf hown (ht _ gLk_sio) (fun _ z => z) (by show decode bChk 2 = _; decide +kernel) (key _ rfl)
  · exact va_gets hx hb hz va_S.rf hown (ht _ gLk_sio) (fun _ z => z) (by show decode bChk 2 = _; decide +kernel) (key _ rfl)
theorem mJ_cha1 {l : Launch} {ad : mAd} {b0 : Nat} {k aV : Nat} {x : Int32} (hk : mIn x (mTxt k).length = true) : Met l yCha1 (Cond.code yCha1 bCha1 2 (some .char) :: gTbl) { frames := 3, cells := 0, slots := 0, locals := 110 } (va_Pc [.ref aV, .int x] (fun U => mOldW ad b0 U U.heap ∧ va_T .byte aV (mTxt k).length (fun j => .int ((mTxt k).getD j 0)) (mA b0) U U.heap)) (QcRead ((mTxt k).getD (mix x) 0)) 0 0 (fun _ => False) := by
  refine Met.ofW (cc := bCha1) (maxL := 2) (ret := (some .char)) (ws' := gTbl) (by decide +kernel) rfl ?_
  intro p e s m args below meth c s₁ B hml hP
  have hts := atoms_spec B.pre
  have ht : ∀ w ∈ gTbl, w.before args s = true := fun w hw => hts w (List.mem_cons_of_mem _ hw)
  have hown := findClass_of_methodNamed B.named
  have hx := B.exec
  have hb := B.bytes
  have hr := B.returns
  have hlocks := B.notSynchronized
  obtain ⟨rfl, hO⟩ := hP
  rw [lg_entry_eq]
  obtain ⟨hO, hT⟩ := hO
  have hl := lv_entry [Value.ref aV, Value.int x] (n := 2) (Nat.le_of_ble_eq_true rfl)
  have hlen := (mTxt_len k).1
  obtain ⟨h0, h1, h2⟩ := mIn_cmp hk (by omega)
  refine lv_iload_n hx hb (k := 1) (by show decode bCha1 0 = _; decide +kernel) rfl (lv_at hl 1 rfl) ?_
  refine lv_aload_n hx hb (k := 0) (by show decode bCha1 1 = _; decide +kernel) rfl (lv_at hl 0 rfl) ?_
  refine va_tlen hx hb hT va_S.rf rfl (by show decode bCha1 2 = _; decide +kernel) ?_
  refine mW_void (a := [Value.int x, Value.int (Int32.ofNat (mTxt k).length)].toArray) (W.runS (As := [.int x, .int (Int32.ofNat (mTxt k).length)]) (rest := []) ⟨hx, hb, hml, hown, ht⟩ (mJ_chk (ad := ad) (b0 := b0) (fr := 2) (lc := 80) (Nat.le_refl _) (Nat.le_refl _) h0 h1) (va_cwS 2 ht gW_Chk rfl rfl rfl (by decide +kernel) ⟨by decide, by decide⟩) ⟨fun a U g mk q => ⟨q.1, q.2⟩, fun U hU hW => ⟨rfl, by show mOldW ad b0 U U.heap; rw [hU]; exact mOldW.moved hW.alike hO⟩⟩ rfl rfl hl.1 rfl (lv_room (by decide)) (by show decode bCha1 3 = _; decide +kernel) ⟨by decide, by decide⟩) ?_
  refine lv_aload_n hx hb (k := 0) (by show decode bCha1 6 = _; decide +kernel) rfl (lv_at hl 0 rfl) ?_
  refine lv_iload_n hx hb (k := 1) (by show decode bCha1 7 = _; decide +kernel) rfl (lv_at hl 1 rfl) ?_
  refine va_tb hx hb hT va_S.rf h2 rfl (by show decode bCha1 8 = _; decide +kernel) ?_
  refine lv_sipush hx hb (n := 255) (v := 255) (by show decode bCha1 9 = _; decide +kernel) rfl ?_
  refine lv_iand hx hb (by show decode bCha1 12 = _; decide +kernel) ?_
  refine lv_i2c hx hb (by show decode bCha1 13 = _; decide +kernel) (mTxt_byt k (mix x)).1 ?_
  exact W.zret hx hb hr (mTxt_byt k (mix x)).2 (fun t hh hW => ⟨rfl, hh⟩) (fun q hq => by cases hq) (by show decode bCha1 14 = _; decide +kernel)
theorem mJ_cha {l : Launch} {ad : mAd} {b0 : Nat} {k : Nat} {x : Int32} (hk : mIn x (mTxt k).length = true) : Met l yCha (Cond.code yCha bCha 2 (some .char) :: gTbl) { frames := 6, cells := 0, slots := 0, locals := 150 } (va_Pc [.ref (ad 3 3 k), .int x] (fun U => mOldW ad b0 U U.heap)) (QcRead ((mTxt k).getD (mix x) 0)) 0 0 (fun _ => False) := by
  refine Met.ofW (cc := bCha) (maxL := 2) (ret := (some .char)) (ws' := gTbl) (by decide +kernel) rfl ?_
  intro p e s m args below meth c s₁ B hml hP
  have hts := atoms_spec B.pre
  have ht : ∀ w ∈ gTbl, w.before args s = true := fun w hw => hts w (List.mem_cons_of_mem _ hw)
  have hown := findClass_of_methodNamed B.named
  have hx := B.exec
  have hb := B.bytes
  have hr := B.returns
  have hlocks := B.notSynchronized
  obtain ⟨rfl, hO⟩ := hP
  rw [lg_entry_eq]
  have hl := lv_entry [Value.ref (ad 3 3 k), Value.int x] (n := 2) (Nat.le_of_ble_eq_true rfl)
  have hlen := (mTxt_len k).1
  have hk0 : 0 < (mTxt k).length := by
    unfold mIn at hk
    rw [Bool.and_eq_true] at hk
    have := Nat.le_of_ble_eq_true hk.2
    omega
  obtain ⟨aV, ⟨cell, g1, g2, g3, -⟩, o2, o3, o4⟩ := hO.2.2.2.2.2.2.2.2.2 k (mTxO_k hk0)
  refine lv_aload_n hx hb (k := 0) (by show decode bCha 0 = _; decide +kernel) rfl (lv_at hl 0 rfl) ?_
  refine W.callR (W.runV (C := yLat.cls) (b := ad 3 3 k) (As := []) (rest := []) ⟨hx, hb, hml, hown, ht⟩ (mJ_lat (mTxO_k hk0)) (cwV 0 ht gW_lat rfl rfl rfl (by decide +kernel) ⟨by decide, by decide⟩) ⟨fun a U g mk q => ⟨q.1, q.2⟩, ⟨cell, g1, g2, g3⟩, fun U hU hW => ⟨rfl, by show mOldW ad b0 U U.heap; rw [hU]; exact mOldW.moved hW.alike hO⟩⟩ rfl rfl hl.1 rfl (lv_room (by decide)) (by show decode bCha 1 = _; decide +kernel) ⟨by decide, by decide⟩) ?_
  refine lv_if_eq hx hb (off := 12) (tgt := 16) (by show decode bCha 4 = _; decide +kernel) rfl (fun z => by cases z) fun _ => ?_
  refine lv_aload_n hx hb (k := 0) (by show decode bCha 7 = _; decide +kernel) rfl (lv_at hl 0 rfl) ?_
  refine vk_getf hx hb o3 va_S.rf hown (ht _ gLk_val) (fun _ z => z) (by show decode bCha 8 = _; decide +kernel) ?_
  refine lv_iload_n hx hb (k := 1) (by show decode bCha 11 = _; decide +kernel) rfl (lv_at hl 1 rfl) ?_
  refine W.callR (W.runS (As := [.ref aV, .int x]) (rest := []) ⟨hx, hb, hml, hown, ht⟩ (mJ_cha1 (ad := ad) (b0 := b0) hk) (va_cwS 2 ht gW_Cha1 rfl rfl rfl (by decide +kernel) ⟨by decide, by decide⟩) ⟨fun a U g mk q => ⟨q.1, q.2.1, q.2.2⟩, fun U hU hW => ⟨rfl, by show mOldW ad b0 U U.heap; rw [hU]; exact mOldW.moved hW.alike hO, by show va_T _ _ _ _ _ U U.heap; rw [hU]; exact o4.moved hW.alike⟩⟩ rfl rfl hl.1 rfl (lv_room (by decide)) (by show decode bCha 12 = _; decide +kernel) ⟨by decide, by decide⟩) ?_
  exact W.zret hx hb hr (mTxt_byt k (mix x)).2 (fun t hh hW => ⟨rfl, hh⟩) (fun q hq => by cases hq) (by show decode bCha 15 = _; decide +kernel)
theorem mJ_len {l : Launch} {ad : mAd} {b0 : Nat} {k : Nat} (hk : mTxO k = true) : Met l yLen (Cond.code yLen bLen 1 (some .int) :: gTbl) { frames := 4, cells := 0, slots := 0, locals := 100 } (va_Pc [.ref (ad 3 3 k)] (fun U => mOldW ad b0 U U.heap)) (QcRead (Int32.ofNat (mTxt k).length)) 0 0 (fun _ => False) := by
  refine Met.ofW (cc := bLen) (maxL := 1) (ret := (some .int)) (ws' := gTbl) (by decide +kernel) rfl ?_
  intro p e s m args below meth c s₁ B hml hP
  have hts := atoms_spec B.pre
  have ht : ∀ w ∈ gTbl, w.before args s = true := fun w hw => hts w (List.mem_cons_of_mem _ hw)
  have hown := findClass_of_methodNamed B.named
  have hx := B.exec
  have hb := B.bytes
  have hr := B.returns
  have hlocks := B.notSynchronized
  obtain ⟨rfl, hO⟩ := hP
  rw [lg_entry_eq]
  have hl := lv_entry [Value.ref (ad 3 3 k)] (n := 1) (Nat.le_of_ble_eq_true rfl)
  obtain ⟨aV, ⟨cell, g1, g2, g3, -⟩, o2, o3, o4⟩ := hO.2.2.2.2.2.2.2.2.2 k hk
  refine lv_aload_n hx hb (k := 0) (by show decode bLen 0 = _; decide +kernel) rfl (lv_at hl 0 rfl) ?_
  refine vk_getf hx hb o3 va_S.rf hown (ht _ gLk_val) (fun _ z => z) (by show decode bLen 1 = _; decide +kernel) ?_
  refine va_tlen hx hb o4 va_S.rf rfl (by show decode bLen 4 = _; decide +kernel) ?_
  refine lv_aload_n hx hb (k := 0) (by show decode bLen 5 = _; decide +kernel) rfl (lv_at hl 0 rfl) ?_
  refine W.callR (W.runV (C := yCod.cls) (b := ad 3 3 k) (As := []) (rest := [.int (Int32.ofNat (mTxt k).length)]) ⟨hx, hb, hml, hown, ht⟩ (mJ_cod (fr := 1) (lc := 50) hk) (cwV 0 ht gW_cod rfl rfl rfl (by decide +kernel) ⟨by decide, by decide⟩) ⟨fun a U g mk q => ⟨q.1, q.2⟩, ⟨cell, g1, g2, g3⟩, fun U hU hW => ⟨rfl, by show mOldW ad b0 U U.heap; rw [hU]; exact mOldW.moved hW.alike hO⟩⟩ rfl rfl hl.1 rfl (lv_room (Nat.le_of_ble_eq_true rfl)) (by show decode bLen 6 = _; decide +kernel) ⟨by decide, by decide⟩) ?_
  refine lv_ishr hx hb (by show decode bLen 9 = _; decide +kernel) ?_
  rw [(mTxt_len k).2]
  exact W.iret hx hb hr (fun t hh hW => ⟨rfl, hh⟩) (fun q hq => by cases hq) (by show decode bLen 10 = _; decide +kernel)
theorem mFil_arr {cA : ClassId} {n i : Nat} {v : Int32} {g : Nat → Int32} : (vp_cell cA (n, .inl (fun j => if j < i then v else g j))).setSlot i (.int v) = vp_cell cA (n, .inl (fun j => if j < i + 1 then v else g j)) := by
  rw [vp_cell_i, vp_cell_i, arrV_store]
  congr 1
  funext q
  unfold updV
  by_cases h1 : q = i
  · rw [if_pos h1, h1, if_pos (Nat.lt_succ_self i)]
  · rw [if_neg h1]
    by_cases h2 : q < i
    · show Value.int (if q < i then v else g q) = _
      rw [if_pos h2, if_pos (Nat.lt_succ_of_lt h2)]
    · show Value.int (if q < i then v else g q) = _
      rw [if_neg h2, if_neg (by omega)]
theorem mFil_end {cA : ClassId} {n i : Nat} {v : Int32} {g : Nat → Int32} (h : n ≤ i) : vp_cell cA (n, .inl (fun j => if j < i then v else g j)) = vp_cell cA (n, .inl (fun _ => v)) := by
  rw [vp_cell_i, vp_cell_i]
  exact mArrV_ext (fun q hq => by rw [if_pos (Nat.lt_of_lt_of_le hq h)])
section MF
variable {p : Program} {l : Launch} {e : Env} {R : Room} {s : State} {m : MethodId} {args : Array Value} {below : List Frame} {meth : Method} {c : Code}
theorem mFil_loop {a n : Nat} {cA : ClassId} {g : Nat → Int32} {v : Int32} {Q : State → Prop} (hx : p.tables.exec = Jvm.exec) (hb : c.code = bFil) (hn : n < 2 ^ 31) (hA : ArrOfT s cA .int) {H0 : Heap}
    (kk : ∀ (H : Heap) (locs : List Loc) (ls : Array Slot), H[a]? = some (vp_cell cA (n, .inl (fun _ => v))) → H.size = H0.size → (∀ q, q ≠ a → H[q]? = H0[q]?) → (∀ z ∈ locs, z.base = a) → W p l e R s m args below meth c H locs 0 0 Q (F0 m 20 ls [])) :
    ∀ (k i : Nat), i + k = n → ∀ (H : Heap) (locs : List Loc) (ls : Array Slot), lv_has ls 4 [(2, .int (Int32.ofNat i)), (3, .int (Int32.ofNat n)), (0, .ref a), (1, .int v)] → H[a]? = some (vp_cell cA (n, .inl (fun j => if j < i then v else g j))) → H.size = H0.size → (∀ q, q ≠ a → H[q]? = H0[q]?) → (∀ z ∈ locs, z.base = a) → W p l e R s m args below meth c H locs 0 0 Q (F0 m 5 ls []) := by
  intro k
  induction k with
  | zero =>
    intro i hi H locs ls hl hc hz ho hL
    have hi : i = n := by omega
    subst hi
    refine lv_iload_n hx hb (k := 2) (by show decode bFil 5 = _; decide +kernel) rfl (lv_at hl 0 rfl) ?_
    refine lv_iload_n hx hb (k := 3) (by show decode bFil 6 = _; decide +kernel) rfl (lv_at hl 1 rfl) ?_
    refine lv_icmp_ge hx hb (off := 13) (tgt := 20) (by show decode bFil 7 = _; decide +kernel) rfl (fun _ => ?_) fun z => (z (Int32.le_refl _)).elim
    exact kk H locs ls (by rw [hc, mFil_end (Nat.le_refl _)]) hz ho hL
  | succ k ih =>
    intro i hi H locs ls hl hc hz ho hL
    have e1 : (Int32.ofNat i).toInt = i := Int32.toInt_ofNat_of_lt (by omega)
    have e2 : (Int32.ofNat n).toInt = n := Int32.toInt_ofNat_of_lt (by omega)
    have e3 : (Int32.ofNat i).toNatClampNeg = i := by
      show (Int32.ofNat i).toInt.toNat = i
      rw [e1]; rfl
    refine lv_iload_n hx hb (k := 2) (by show decode bFil 5 = _; decide +kernel) rfl (lv_at hl 0 rfl) ?_
    refine lv_iload_n hx hb (k := 3) (by show decode bFil 6 = _; decide +kernel) rfl (lv_at hl 1 rfl) ?_
    refine lv_icmp_ge hx hb (off := 13) (tgt := 20) (by show decode bFil 7 = _; decide +kernel) rfl (fun z => ?_) fun _ => ?_
    · rw [Int32.le_iff_toInt_le, e1, e2] at z
      omega
    refine lv_aload_n hx hb (k := 0) (by show decode bFil 10 = _; decide +kernel) rfl (lv_at hl 2 rfl) ?_
    refine lv_iload_n hx hb (k := 2) (by show decode bFil 11 = _; decide +kernel) rfl (lv_at hl 0 rfl) ?_
    refine lv_iload_n hx hb (k := 1) (by show decode bFil 12 = _; decide +kernel) rfl (lv_at hl 3 rfl) ?_
    refine W.iast hx hb hc (hA n _) (fun q => by cases q) (by
      show ¬ (Int32.ofNat i < 0 ∨ (arrV _ _ _).slots.size ≤ _)
      rw [arrV_size, e3, Int32.lt_iff_toInt_lt, e1]
      intro q
      rcases q with q | q
      · have : (0 : Int32).toInt = 0 := rfl
        omega
      · omega) rfl rfl (by show decode bFil 13 = _; decide +kernel) fun H1 q1 q2 q3 => ?_
    refine lv_iinc hx hb (i := 2) (n := 1) (nL := 4) (k := 0) (v := Int32.ofNat (i + 1)) (by show decode bFil 14 = _; decide +kernel) hl rfl ?_ (by decide) rfl fun ls1 hl1 => ?_
    · apply Int32.toInt_inj.mp
      rw [Int32.toInt_add, e1, Int32.toInt_ofNat_of_lt (by omega)]
      show Int.bmod ((i : Int) + 1) _ = _
      rw [Int.bmod_eq_of_le (by omega) (by omega)]
      omega
    refine lv_goto hx hb (off := -12) (tgt := 5) (by show decode bFil 17 = _; decide +kernel) rfl ?_
    refine ih (i + 1) (by omega) H1 _ ls1 hl1 ?_ (by omega) (fun q hq => (q3 q hq).trans (ho q hq)) (fun z hz => ?_)
    · rw [q1, e3, mFil_arr]
    · rcases List.mem_append.mp hz with h | h
      · exact hL z h
      · rw [List.mem_singleton] at h
        rw [h]
end MF
theorem mJ_fil {l : Launch} {a n : Nat} {cA : ClassId} {g : Nat → Int32} {v : Int32} (hn : n < 2 ^ 31) : Met l yFil (Cond.code yFil bFil 4 none :: gTbl) { frames := 1, cells := 0, slots := 0, locals := 50 } (va_Pc [.ref a, .int v] (fun U => U.heap[a]? = some (vp_cell cA (n, .inl g)) ∧ ArrOfT U cA .int ∧ va_RA U cA .int)) (QcSet a (vp_cell cA (n, .inl (fun _ => v))) (.returned none)) 0 0 (fun x => x = a) := by
  refine Met.ofW (cc := bFil) (maxL := 4) (ret := none) (ws' := gTbl) (by decide +kernel) rfl ?_
  intro p e s m args below meth c s₁ B hml hP
  have hx := B.exec
  have hb := B.bytes
  have hr := B.returns
  have hlocks := B.notSynchronized
  obtain ⟨rfl, hc, hA, -⟩ := hP
  rw [lg_entry_eq]
  have hl := lv_entry [Value.ref a, Value.int v] (n := 4) (Nat.le_of_ble_eq_true rfl)
  refine lv_iconst hx hb (n := 0) (v := 0) (by show decode bFil 0 = _; decide +kernel) rfl ?_
  refine lv_istore_n hx hb (k := 2) (by show decode bFil 1 = _; decide +kernel) rfl hl (by decide) rfl fun ls1 hl1 => ?_
  refine lv_aload_n hx hb (k := 0) (by show decode bFil 2 = _; decide +kernel) rfl (lv_at hl1 1 rfl) ?_
  refine W.alen hx hb hc (hA n _) (n := Int32.ofNat n) (by show (arrV _ _ _).slots.size.toInt32 = _; rw [arrV_size]) rfl rfl (by show decode bFil 3 = _; decide +kernel) ?_
  refine lv_istore_n hx hb (k := 3) (by show decode bFil 4 = _; decide +kernel) rfl hl1 (by decide) rfl fun ls2 hl2 => ?_
  refine mFil_loop (g := g) (H0 := s.heap) hx hb hn hA (fun H locs ls h1 h2 h3 h4 => ?_) n 0 (by omega) s.heap [] ls2 (lv_sub hl2 [1, 0, 2, 3] rfl) ?_ rfl (fun _ _ => rfl) (fun z hz => by cases hz)
  · refine W.vret hx hb hr (fun t hh hW => ⟨rfl, by rw [hh]; exact h1, by rw [hh]; exact h2, fun q cell hq hc => ?_⟩) h4 (by show decode bFil 20 = _; decide +kernel)
    rw [hh, h3 q hq]
    exact hc
  · rw [hc]
    congr 3
theorem gLk_acp : Jvm.Cond.methodLink "java/lang/String" 212 arraycopyName ∈ gTbl := gTbl_of 572 (by decide +kernel) rfl
theorem mTxt_fit (k : Nat) : ∀ j, j < (mTxt k).length → fits .byte (.int ((mTxt k).getD j 0)) = true := by
  intro j hj
  have key : ∀ k, k < 25 → ∀ x ∈ mTxt k, mByte1 x = true := by decide +kernel
  have hm : (mTxt k).getD j 0 ∈ mTxt k := by
    rw [List.getD_eq_getElem?_getD, List.getElem?_eq_getElem hj, Option.getD_some]
    exact List.getElem_mem hj
  rcases Nat.lt_or_ge k 25 with h | h
  · exact key k h _ hm
  · rw [mTxt_out h] at hj; cases hj
theorem mOfN {N : Nat} (h : N ≤ 6) : (Int32.ofNat N).toNatClampNeg = N ∧ ¬ Int32.ofNat N < 0 ∧ (Int32.ofNat N).toInt = N := by
  have e : (Int32.ofNat N).toInt = N := Int32.toInt_ofNat_of_lt (by omega)
  refine ⟨?_, fun z => ?_, e⟩
  · show (Int32.ofNat N).toInt.toNat = N
    rw [e]; rfl
  · rw [Int32.lt_iff_toInt_lt, e] at z
    have : (0 : Int32).toInt = 0 := rfl
    omega
section MG
variable {p : Program} {l : Launch} {e : Env} {R : Room} {s : State} {m : MethodId} {args : Array Value} {below : List Frame} {meth : Method} {c : Code}
/-- a text that was there, laid onto a row of bytes -/
theorem mW_copyT {H : Heap} {locs : List Loc} {cells slots : Nat} {Q : State → Prop} {cc : ByteArray} {pc : Nat} {ls : Array Slot} {rest : List Value} {A : Nat → Prop} {aV a N n : Nat} {F g : Nat → Int32} {cA : ClassId} {dp : Int32} {own : String} {ix : Nat} (hx : p.tables.exec = Jvm.exec) (hb : c.code = cc) (hml : ls.size = c.maxLocals) (hown : s.vm.findClass own = some m.cls)
    (ht : ∀ w ∈ gTbl, w.before args s = true) (hlink : Jvm.Cond.methodLink own ix arraycopyName ∈ gTbl) (hT : va_T .byte aV N (fun j => .int (F j)) A s H) (hd : H[a]? = some (vp_cell cA (n, .inl g))) (hA : ArrOfT s cA .byte) (hN : N ≤ 6) (hfit : ∀ j, j < N → fits .byte (.int (F j)) = true)
    (h2 : ¬ dp < 0) (h5 : dp.toNatClampNeg + N ≤ n) (hfr : 1 ≤ R.frames) (hlo : 150 ≤ R.locals) (hrest : (rest.map fun v => v.category).sum ≤ 8) (hdg : decode cc pc = .ok (.invokestatic ix, 3))
    (kk : ∀ (H1 : Heap) (L : List Loc), H1.size = H.size → H1[a]? = some (vp_cell cA (n, .inl (va_cpy F g 0 dp.toNatClampNeg N))) → (∀ q, q ≠ a → H1[q]? = H[q]?) → (∀ z ∈ L, z.base = a) → W p l e R s m args below meth c H1 (locs ++ L) cells slots Q (F0 m (pc + 3) ls rest)) :
    W p l e R s m args below meth c H locs cells slots Q (F0 m pc ls (.int (Int32.ofNat N) :: .int dp :: .ref a :: .int 0 :: .ref aV :: rest)) := by
  obtain ⟨n1, n2, n3⟩ := mOfN hN
  have nn : ∀ z : Int32, ¬ z < 0 → z.toInt = (z.toNatClampNeg : Int) := by
    intro z hz
    have hz0 : (0 : Int) ≤ z.toInt := by
      have := Int32.not_lt.mp hz
      simpa using Int32.le_iff_toInt_le.mp this
    show z.toInt = ((z.toInt.toNat : Nat) : Int)
    omega
  intro T hTT X
  obtain ⟨scr, t1, t2, t3, t4, t5, t6, t7⟩ := hT
  obtain ⟨hs6, k0, hk0, cm0, hkk0⟩ := t2
  obtain ⟨-, k1, hk1, cm1, hkk1⟩ := hA n (fun j => .int (g j))
  obtain ⟨vm', X', stp⟩ := X.arraycopy hx hown (ht _ hlink) (ht _ gCpy_v) (ht _ gCpy_t) (ht _ gCpy_n) (src := aV) (dst := a) (cs := scr) (cd := vp_cell cA (n, .inl g)) (srcPos := 0) (destPos := dp) (n := Int32.ofNat N) (by rw [hTT]; exact t1) (by rw [hTT]; exact hd)
    hs6 (fun _ h => by cases h) t3 (fun h => by cases h) hk0 hk1 hkk0 hkk1 (by simp [refKind]) (by decide) h2 n2
    (by rw [n3]; show ¬ (0 : Int) + _ > _; omega)
    (by rw [nn dp h2, n3]; show ¬ _ > ((arrV cA n (fun j => .int (g j))).slots.size : Int); rw [arrV_size]; omega)
    (fun vm₁ _ i hi => by
      rw [n1] at hi
      have e : scr.slots.getD ((0 : Int32).toNatClampNeg + i) .null = .int (F i) := by
        rw [show (0 : Int32).toNatClampNeg + i = i from Nat.zero_add i, Array.getD_eq_getD_getElem?, t6 _ hi]
        rfl
      refine ⟨?_, ?_⟩
      · rw [e]; exact hfit i hi
      · rw [e]; exact trivial)
    (g := F0 m pc ls (.int (Int32.ofNat N) :: .int dp :: .ref a :: .int 0 :: .ref aV :: rest)) rfl hml (rest := rest) rfl (by rw [hb]; exact hdg) hfr (by show 2 * 0 + _ + _ ≤ _; exact Nat.le_trans (Nat.add_le_add (Nat.add_le_add (Nat.le_refl (2 * 0)) hrest) (Nat.add_le_add (show nativeFrameWords "java/lang/System" "arraycopy" 5 ≤ 100 by decide +kernel) (Nat.le_refl 11))) (by omega))
  have ec : copied scr (vp_cell cA (n, .inl g)) 0 dp (Int32.ofNat N) = vp_cell cA (n, .inl (va_cpy F g 0 dp.toNatClampNeg N)) := by
    have := va_copiedX (fun z => Value.int z) scr cA (n1 := n) (sp := 0) (dp := dp.toNatClampNeg) (n := N) F g t6 (by omega)
    unfold copied
    rw [n1]
    exact this
  rw [ec] at X' stp
  have hl : a < H.size := (Array.getElem?_eq_some_iff.mp hd).1
  obtain ⟨t, b1, b2⟩ := kk (H.setIfInBounds a (vp_cell cA (n, .inl (va_cpy F g 0 dp.toNatClampNeg N)))) _ (by simp) (by simp [Array.getElem?_setIfInBounds, hl]) (fun q hq => by simp [Array.getElem?_setIfInBounds, Ne.symm hq]) (fun z hz => by
    obtain ⟨y, -, hy⟩ := List.mem_map.mp hz
    rw [← hy]) _ (by rw [← hTT]; rfl) X'
  exact ⟨t, stp t b1, b2⟩
end MG
theorem mShl0 (x : Int32) : x <<< ((0 : Int32) &&& 31) = x := by
  rw [show (0 : Int32) &&& 31 = 0 by decide]
  simp
theorem mJ_gby {l : Launch} {ad : mAd} {b0 k a n : Nat} {cA : ClassId} {g : Nat → Int32} {dp : Int32} (hk : mTxO k = true) (ha : b0 ≤ a) (ho : mSpanB (some (22, n)) dp (mTxt k).length = true) : Met l yGby (Cond.code yGby bGby 4 none :: gTbl) { frames := 6, cells := 0, slots := 0, locals := 250 } (va_Pc [.ref (ad 3 3 k), .ref a, .int dp, .int 0] (fun U => mOldW ad b0 U U.heap ∧ U.heap[a]? = some (vp_cell cA (n, .inl g)) ∧ ArrOfT U cA .byte ∧ va_RA U cA .byte)) (QcSet a (vp_cell cA (n, .inl (fun q => if mix dp ≤ q ∧ q < mix dp + (mTxt k).length then (mTxt k).getD (q - mix dp) 0 else g q))) (.returned none)) 0 0 (fun x => x = a) := by
  refine Met.ofW (cc := bGby) (maxL := 4) (ret := none) (ws' := gTbl) (by decide +kernel) rfl ?_
  intro p e s m args below meth c s₁ B hml hP
  have hts := atoms_spec B.pre
  have ht : ∀ w ∈ gTbl, w.before args s = true := fun w hw => hts w (List.mem_cons_of_mem _ hw)
  have hown := findClass_of_methodNamed B.named
  have hx := B.exec
  have hb := B.bytes
  have hr := B.returns
  have hlocks := B.notSynchronized
  obtain ⟨rfl, hO, hc, hA, hRA⟩ := hP
  rw [lg_entry_eq]
  have hl := lv_entry [Value.ref (ad 3 3 k), Value.ref a, Value.int dp, Value.int 0] (n := 4) (Nat.le_of_ble_eq_true rfl)
  have hlen := (mTxt_len k).1
  obtain ⟨N2, e1, a2, a5⟩ := mSpanB_spec ho
  cases e1
  obtain ⟨aV, ⟨cell, g1, g2, g3, -⟩, o2, o3, o4⟩ := hO.2.2.2.2.2.2.2.2.2 k hk
  refine lv_aload_n hx hb (k := 0) (by show decode bGby 0 = _; decide +kernel) rfl (lv_at hl 0 rfl) ?_
  refine W.callR (W.runV (C := yCod.cls) (b := ad 3 3 k) (As := []) (rest := []) ⟨hx, hb, hml, hown, ht⟩ (mJ_cod (fr := 1) (lc := 50) hk) (cwV 0 ht gW_cod rfl rfl rfl (by decide +kernel) ⟨by decide, by decide⟩) ⟨fun a U g mk q => ⟨q.1, q.2⟩, ⟨cell, g1, g2, g3⟩, fun U hU hW => ⟨rfl, by show mOldW ad b0 U U.heap; rw [hU]; exact mOldW.moved hW.alike hO⟩⟩ rfl rfl hl.1 rfl (lv_room (by decide)) (by show decode bGby 1 = _; decide +kernel) ⟨by decide, by decide⟩) ?_
  refine lv_iload_n hx hb (k := 3) (by show decode bGby 4 = _; decide +kernel) rfl (lv_at hl 3 rfl) ?_
  refine lv_icmp_ne hx hb (off := 23) (tgt := 28) (by show decode bGby 5 = _; decide +kernel) rfl (fun z => (z rfl).elim) fun _ => ?_
  refine lv_aload_n hx hb (k := 0) (by show decode bGby 8 = _; decide +kernel) rfl (lv_at hl 0 rfl) ?_
  refine vk_getf hx hb o3 va_S.rf hown (ht _ gLk_val) (fun _ z => z) (by show decode bGby 9 = _; decide +kernel) ?_
  refine lv_iconst hx hb (n := 0) (v := 0) (by show decode bGby 12 = _; decide +kernel) rfl ?_
  refine lv_aload_n hx hb (k := 1) (by show decode bGby 13 = _; decide +kernel) rfl (lv_at hl 1 rfl) ?_
  refine lv_iload_n hx hb (k := 2) (by show decode bGby 14 = _; decide +kernel) rfl (lv_at hl 2 rfl) ?_
  refine lv_iload_n hx hb (k := 3) (by show decode bGby 15 = _; decide +kernel) rfl (lv_at hl 3 rfl) ?_
  refine lv_ishl hx hb (by show decode bGby 16 = _; decide +kernel) ?_
  rw [mShl0]
  refine lv_aload_n hx hb (k := 0) (by show decode bGby 17 = _; decide +kernel) rfl (lv_at hl 0 rfl) ?_
  refine vk_getf hx hb o3 va_S.rf hown (ht _ gLk_val) (fun _ z => z) (by show decode bGby 18 = _; decide +kernel) ?_
  refine va_tlen hx hb o4 va_S.rf rfl (by show decode bGby 21 = _; decide +kernel) ?_
  refine mW_copyT hx hb (hl.1.trans hml.symm) hown ht gLk_acp o4 hc hA hlen (mTxt_fit k) a2 a5 (by decide) (by decide) (by decide) (by show decode bGby 22 = _; decide +kernel) fun H1 L q1 q2 q3 q4 => ?_
  refine lv_goto hx hb (off := 18) (tgt := 43) (by show decode bGby 25 = _; decide +kernel) rfl ?_
  refine W.vret hx hb hr (fun t hh hW => ⟨rfl, ?_, ?_⟩) (fun q hq => q4 q hq) (by show decode bGby 43 = _; decide +kernel)
  · rw [hh, q2]
    rw [vp_cell_i, vp_cell_i]
    refine congrArg some (mArrV_ext fun q hq => congrArg Value.int ?_)
    unfold va_cpy
    by_cases h : dp.toNatClampNeg ≤ q ∧ q < dp.toNatClampNeg + (mTxt k).length
    · rw [if_pos h, if_pos h, Nat.zero_add]
    · rw [if_neg h, if_neg h]
  · exact ⟨by rw [hh]; exact q1, fun z cl hz hcl => by rw [hh, q3 z hz]; exact hcl⟩
theorem mJdk_ok (l : Launch) (ad : mAd) (b0 : Nat) : mJdk l ad b0 := ⟨fun k hk => mJ_len hk, fun k x _ hk => mJ_cha hk, fun a cA n g v hn => mJ_fil hn, fun k hk => mJ_cod hk, fun k a cA n g dp hk ha ho => mJ_gby hk ha ho, fun x n h0 h1 => mJ_chk (by decide) (by decide) h0 h1⟩
