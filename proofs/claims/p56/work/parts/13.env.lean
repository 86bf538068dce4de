/-! WHAT STANDS AROUND THE SYSTEM: strings, statics, links by the nest. -/
theorem gGood {ws : List Jvm.Cond} (h : ∀ w ∈ ws, w ∈ gTbl) : GoodIn gTbl ws := fun w hw => ⟨h w hw, good_of_word (List.mem_filter.mp (h w hw)).2⟩
def mA (b0 : Nat) : Nat → Prop := fun q => b0 ≤ q
def mTxS (k : Nat) : String := (["no such card, place or index", "table", "card", "lean", "lay", "not possible with these arguments", "there is nothing for this call", "lwbx", "table", "card", "lean", "lay", "table ", " ", "", ";card ", ";lean ", ";lay ", "-", "/", " ", ":", " > ", "", "lwbx"] : List String).getD k ""
def mMsg : List (Nat × String) := [(392, "there is nothing for this call"), (399, "no such card, place or index"), (404, "not possible with these arguments")]
def mStrAt (ad : mAd) (b0 k : Nat) (U : State) (H : Heap) : Prop := ∃ aV : Nat, va_O "java/lang/String" (ad 3 3 k) (mA b0) U H ∧ va_OF "java/lang/String" "coder" "B" (.int 0) (ad 3 3 k) (mA b0) U H ∧ va_OF "java/lang/String" "value" "[B" (.ref aV) (ad 3 3 k) (mA b0) U H ∧ va_T .byte aV (mTxt k).length (fun j => .int ((mTxt k).getD j 0)) (mA b0) U H
theorem mStrAt.moved {ad : mAd} {b0 k : Nat} {u U : State} {H : Heap} (hvm : u.vm.Alike U.vm) (h : mStrAt ad b0 k u H) : mStrAt ad b0 k U H := by
  obtain ⟨aV, h1, h2, h3, h4⟩ := h
  exact ⟨aV, h1.moved hvm, h2.moved hvm, h3.moved hvm, h4.moved hvm⟩
theorem mStrAt.kept {ad : mAd} {b0 k : Nat} {U : State} {H H1 : Heap} (h : mStrAt ad b0 k U H) (hq : ∀ a : Nat, a < H.size → ¬ mA b0 a → H1[a]? = H[a]?) : mStrAt ad b0 k U H1 := by
  obtain ⟨aV, h1, h2, h3, h4⟩ := h
  exact ⟨aV, h1.kept hq, h2.kept hq, h3.kept hq, h4.kept hq⟩
/-- what lies below b0, and stays -/
def mOldW (ad : mAd) (b0 : Nat) (U : State) (H : Heap) : Prop := b0 ≤ H.size ∧
  va_Z "CardCastle" "LEAST_SETTINGS" "[I" (.ref (ad 3 1 0)) (mA b0) U H ∧ va_Z "CardCastle" "MOST_SETTINGS" "[I" (.ref (ad 3 2 0)) (mA b0) U H ∧
  vx_Zq Bundle.tN "UNASSIGNED_STACK" Bundle.steD (mA b0) U H ∧ vx_Zq Bundle.tN "SUPPRESSED_SENTINEL" Bundle.listD (mA b0) U H ∧
  va_Z "java/lang/Integer" "DigitOnes" "[B" (.ref (ad 3 4 0)) (mA b0) U H ∧ va_Z "java/lang/Integer" "DigitTens" "[B" (.ref (ad 3 5 0)) (mA b0) U H ∧
  va_Z "java/lang/String" "COMPACT_STRINGS" "Z" (.int 1) (mA b0) U H ∧ va_Zq "jdk/internal/util/Preconditions" "SIOOBE_FORMATTER" "Ljava/util/function/BiFunction;" (mA b0) U H ∧ ∀ k, mTxO k = true → mStrAt ad b0 k U H
theorem mOldW.moved {ad : mAd} {b0 : Nat} {u U : State} {H : Heap} (hvm : u.vm.Alike U.vm) (h : mOldW ad b0 u H) : mOldW ad b0 U H := by
  obtain ⟨h0, h1, h2, h3, h4, h8, h9, h5, h6, h7⟩ := h
  exact ⟨h0, h1.moved hvm, h2.moved hvm, vx_Zq.moved hvm h3, vx_Zq.moved hvm h4, h8.moved hvm, h9.moved hvm, h5.moved hvm, va_Zq.moved hvm h6, fun k hk => (h7 k hk).moved hvm⟩
theorem mOldW.kept {ad : mAd} {b0 : Nat} {U : State} {H H1 : Heap} (h : mOldW ad b0 U H) (hz : H.size ≤ H1.size) (hq : ∀ a : Nat, a < H.size → ¬ mA b0 a → H1[a]? = H[a]?) : mOldW ad b0 U H1 := by
  obtain ⟨h0, h1, h2, h3, h4, h8, h9, h5, h6, h7⟩ := h
  exact ⟨Nat.le_trans h0 hz, h1.kept hq, h2.kept hq, h3.kept hq, h4.kept hq, h8.kept hq, h9.kept hq, h5.kept hq, va_Zq.kept h6 hq, fun k hk => (h7 k hk).kept hq⟩
/-- the class of rows of int rows, by its name; that rows of bytes may be cloned -/
def mAI (U : State) : Prop := (∃ comp c k, U.vm.findClass (FieldType.array .int).toString = some comp ∧ U.vm.classes[c]? = some k ∧ k.kind = .array comp (.array .int) ∧ U.vm.findClass ("[" ++ (FieldType.array .int).toString) = some c) ∧ va_Nw (.castable "[B" "java/lang/Cloneable") U
theorem mAI.same {u U : State} (hv : u.vm = U.vm) (h : mAI u) : mAI U := ⟨by rw [← hv]; exact h.1, va_Nw.same rfl hv h.2⟩
theorem mAI.warm {s U : State} (hW : s.WarmedH U.vm) (h : mAI s) : mAI U := by
  obtain ⟨⟨comp, c, k, h1, h2, h3, h4⟩, h5⟩ := h
  obtain ⟨k1, e1, e2⟩ := hW.alike.2.2 _ _ h2
  exact ⟨⟨comp, c, k1, (hW.alike.findClass _ _).trans h1, e1, by rw [e2]; exact h3, (hW.alike.findClass _ _).trans h4⟩, va_Nw.warmC hW h5⟩
/-- what the tables say beside the good words -/
def mOldS (ad : mAd) (U : State) : Prop :=
  (∀ own ix k, mStr own ix = some k → vk_R (mCN own) ix (mTxS k) (ad 3 3 k) U) ∧
  (∀ (a : String) (i : Nat) (x : MethodName) (d : String), Jvm.Cond.methodLinkNest a i x d ∈ lw_tbl → va_Nw (.methodLinkNest a i x d) U) ∧
  (∀ (a : String) (i : Nat) (b n d e : String), Jvm.Cond.fieldLinkNest a i b n d e ∈ lw_tbl → va_Nw (.fieldLinkNest a i b n d e) U) ∧
  (∀ k, 0 < k → k < 4 → va_Nw (.castable (mXN k) (mXN k)) U) ∧ (∀ k j, 0 < k → k < 4 → 0 < j → j < 4 → k ≠ j → va_Nc (mXN k) (mXN j) U) ∧ va_AO "CardCastle$Castle" U ∧ mAI U ∧ (∀ q ∈ mMsg, ∃ a, vk_R "CardCastle" q.1 q.2 a U) ∧ ∀ x : MethodName, Jvm.Cond.declares x ∈ lw_tbl → va_Nw (.declares x) U
theorem mOldS.warm {ad : mAd} {s U : State} (hW : s.WarmedH U.vm) (h : mOldS ad s) : mOldS ad U := by
  obtain ⟨h1, h2, h3, h4, h5, h6, h9, h7, h8⟩ := h
  exact ⟨fun own ix k hk => vk_R.warm hW (h1 own ix k hk), fun a i x d hm => va_Nw.warmM hW (h2 a i x d hm), fun a i b n d e hm => va_Nw.warmF hW (h3 a i b n d e hm), fun k k1 k2 => va_Nw.warmC hW (h4 k k1 k2), fun k j a1 a2 a3 a4 a5 => va_Nc.moved hW.alike (h5 k j a1 a2 a3 a4 a5), va_AO.moved hW.alike h6, mAI.warm hW h9, fun q hq => (h7 q hq).imp fun a ha => vk_R.warm hW ha, fun x hx => va_Nw.warmD hW (h8 x hx)⟩
theorem mOldS.same {ad : mAd} {u U : State} (hv : u.vm = U.vm) (h : mOldS ad u) : mOldS ad U := by
  obtain ⟨h1, h2, h3, h4, h5, h6, h9, h7, h8⟩ := h
  have hal : u.vm.Alike U.vm := by rw [hv]; exact Vm.Alike.refl U.vm
  exact ⟨fun own ix k hk => vk_R.same hv.symm (h1 own ix k hk), fun a i x d hm => va_Nw.same rfl hv (h2 a i x d hm), fun a i b n d e hm => va_Nw.same rfl hv (h3 a i b n d e hm), fun k k1 k2 => va_Nw.same rfl hv (h4 k k1 k2), fun k j a1 a2 a3 a4 a5 => va_Nc.moved hal (h5 k j a1 a2 a3 a4 a5), va_AO.moved hal h6, mAI.same hv h9, fun q hq => (h7 q hq).imp fun a ha => vk_R.same hv.symm ha, fun x hx => va_Nw.same rfl hv (h8 x hx)⟩
/-- all that a method stands on: its start's state s -/
def mEv (ad : mAd) (b0 : Nat) (D : va_G) (s : State) : Prop := mV0 ad b0 D s ∧ mOldW ad b0 s s.heap ∧ mOldS ad s
def yLen : MethodName := ⟨"java/lang/String", "length", "()I"⟩
abbrev bLen : ByteArray := prog_27_method_54_code
theorem gLen_i : Jvm.Cond.instanceMethod yLen ∈ gTbl := gTbl_of 439 (by decide +kernel) rfl
theorem gLen_s : Jvm.Cond.selects yLen.cls yLen yLen ∈ gTbl := gTbl_of 440 (by decide +kernel) rfl
theorem gLen_n : Jvm.Cond.initialized yLen.cls ∈ gTbl := gTbl_of 34 (by decide +kernel) rfl
theorem gLen_c : Jvm.Cond.code yLen bLen 1 (some .int) ∈ gTbl := gTbl_of 441 (by decide +kernel) rfl
def yCha : MethodName := ⟨"java/lang/String", "charAt", "(I)C"⟩
abbrev bCha : ByteArray := prog_27_method_56_code
theorem gCha_i : Jvm.Cond.instanceMethod yCha ∈ gTbl := gTbl_of 830 (by decide +kernel) rfl
theorem gCha_s : Jvm.Cond.selects yCha.cls yCha yCha ∈ gTbl := gTbl_of 831 (by decide +kernel) rfl
theorem gCha_n : Jvm.Cond.initialized yCha.cls ∈ gTbl := gTbl_of 34 (by decide +kernel) rfl
theorem gCha_c : Jvm.Cond.code yCha bCha 2 (some .char) ∈ gTbl := gTbl_of 832 (by decide +kernel) rfl
def yCod : MethodName := ⟨"java/lang/String", "coder", "()B"⟩
abbrev bCod : ByteArray := prog_27_method_152_code
theorem gCod_i : Jvm.Cond.instanceMethod yCod ∈ gTbl := gTbl_of 443 (by decide +kernel) rfl
theorem gCod_s : Jvm.Cond.selects yCod.cls yCod yCod ∈ gTbl := gTbl_of 444 (by decide +kernel) rfl
theorem gCod_n : Jvm.Cond.initialized yCod.cls ∈ gTbl := gTbl_of 34 (by decide +kernel) rfl
theorem gCod_c : Jvm.Cond.code yCod bCod 1 (some .byte) ∈ gTbl := gTbl_of 445 (by decide +kernel) rfl
def yGby : MethodName := ⟨"java/lang/String", "getBytes", "([BIB)V"⟩
abbrev bGby : ByteArray := prog_27_method_147_code
theorem gGby_i : Jvm.Cond.instanceMethod yGby ∈ gTbl := gTbl_of 569 (by decide +kernel) rfl
theorem gGby_s : Jvm.Cond.selects yGby.cls yGby yGby ∈ gTbl := gTbl_of 570 (by decide +kernel) rfl
theorem gGby_n : Jvm.Cond.initialized yGby.cls ∈ gTbl := gTbl_of 34 (by decide +kernel) rfl
theorem gGby_c : Jvm.Cond.code yGby bGby 4 none ∈ gTbl := gTbl_of 571 (by decide +kernel) rfl
def yChk : MethodName := ⟨"java/lang/String", "checkIndex", "(II)V"⟩
abbrev bChk : ByteArray := prog_27_method_155_code
theorem gChk_t : Jvm.Cond.static yChk ∈ gTbl := gTbl_of 639 (by decide +kernel) rfl
theorem gChk_c : Jvm.Cond.code yChk bChk 2 none ∈ gTbl := gTbl_of 640 (by decide +kernel) rfl
def yFil : MethodName := ⟨"java/util/Arrays", "fill", "([II)V"⟩
abbrev bFil : ByteArray := prog_33_method_103_code
theorem gFil_t : Jvm.Cond.static yFil ∈ gTbl := gTbl_of 942 (by decide +kernel) rfl
theorem gFil_n : Jvm.Cond.initialized yFil.cls ∈ gTbl := gTbl_of 38 (by decide +kernel) rfl
theorem gFil_c : Jvm.Cond.code yFil bFil 4 none ∈ gTbl := gTbl_of 943 (by decide +kernel) rfl
theorem gMax_t : Jvm.Cond.static Lib.Math.max.name ∈ gTbl := gTbl_of 487 (by decide +kernel) rfl
theorem gMax_c : Jvm.Cond.code Lib.Math.max.name Lib.Math.max.code 2 (some .int) ∈ gTbl := gTbl_of 488 (by decide +kernel) rfl
theorem gMin_t : Jvm.Cond.static Lib.Math.min.name ∈ gTbl := gTbl_of 504 (by decide +kernel) rfl
theorem gMin_c : Jvm.Cond.code Lib.Math.min.name Lib.Math.min.code 2 (some .int) ∈ gTbl := gTbl_of 505 (by decide +kernel) rfl
theorem gAbs_t : Jvm.Cond.static Lib.Math.abs.name ∈ gTbl := gTbl_of 707 (by decide +kernel) rfl
theorem gAbs_c : Jvm.Cond.code Lib.Math.abs.name Lib.Math.abs.code 1 (some .int) ∈ gTbl := gTbl_of 708 (by decide +kernel) rfl
theorem gMath_n : Jvm.Cond.initialized "java/lang/Math" ∈ gTbl := gTbl_of 37 (by decide +kernel) rfl
theorem gCpy_t : Jvm.Cond.static arraycopyName ∈ gTbl := gTbl_of 507 (by decide +kernel) rfl
theorem gCpy_v : Jvm.Cond.native arraycopyName ∈ gTbl := gTbl_of 508 (by decide +kernel) rfl
theorem gCpy_n : Jvm.Cond.initialized "java/lang/System" ∈ gTbl := gTbl_of 39 (by decide +kernel) rfl
theorem gObj_i : Jvm.Cond.instanceMethod Lib.objectInit ∈ gTbl := gTbl_of 68 (by decide +kernel) rfl
theorem gObj_c : Jvm.Cond.code Lib.objectInit ⟨#[0xb1]⟩ 1 none ∈ gTbl := gTbl_of 69 (by decide +kernel) rfl
theorem gCon_12_17 : Jvm.Cond.constant "CardCastleLaw$Draws" 17 2147483647 ∈ gTbl := gTbl_of 421 (by decide +kernel) rfl
theorem gSta_15_38 : Jvm.Cond.fieldLink "java/lang/String" 38 "java/lang/String" "COMPACT_STRINGS" "Z" ∈ gTbl := gTbl_of 446 (by decide +kernel) rfl
theorem gCon_17_38 : Jvm.Cond.constant "java/lang/AbstractStringBuilder" 38 2147483631 ∈ gTbl := gTbl_of 448 (by decide +kernel) rfl
theorem gCon_17_39 : Jvm.Cond.constant "java/lang/AbstractStringBuilder" 39 2147483647 ∈ gTbl := gTbl_of 449 (by decide +kernel) rfl
theorem gCon_21_200 : Jvm.Cond.constant "jdk/internal/util/ArraysSupport" 200 2147483639 ∈ gTbl := gTbl_of 489 (by decide +kernel) rfl
theorem gSta_17_18 : Jvm.Cond.fieldLink "java/lang/AbstractStringBuilder" 18 "java/lang/String" "COMPACT_STRINGS" "Z" ∈ gTbl := gTbl_of 514 (by decide +kernel) rfl
theorem gSta_18_83 : Jvm.Cond.fieldLink "java/lang/Integer" 83 "java/lang/Integer" "DigitOnes" "[B" ∈ gTbl := gTbl_of 609 (by decide +kernel) rfl
theorem gSta_18_87 : Jvm.Cond.fieldLink "java/lang/Integer" 87 "java/lang/Integer" "DigitTens" "[B" ∈ gTbl := gTbl_of 611 (by decide +kernel) rfl
theorem gSet_83 : Jvm.Cond.fieldLinkNest "CardCastle$Parser" 83 "CardCastle" "LEAST_SETTINGS" "[I" "CardCastle" ∈ lw_tbl := List.mem_of_getElem? (i := 1003) (by decide +kernel)
theorem gSet_87 : Jvm.Cond.fieldLinkNest "CardCastle$Parser" 87 "CardCastle" "MOST_SETTINGS" "[I" "CardCastle" ∈ lw_tbl := List.mem_of_getElem? (i := 1005) (by decide +kernel)
theorem gLon : Jvm.Cond.constantLong "CardCastleLaw" 123 (-99999) ∈ gTbl := gTbl_of 1486 (by decide +kernel) rfl
