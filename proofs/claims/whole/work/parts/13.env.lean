/-! WHAT STANDS AROUND THE SYSTEM: strings, statics, links by the nest. -/
theorem gGood {ws : List Jvm.Cond} (h : ∀ w ∈ ws, w ∈ gTbl) : GoodIn gTbl ws := fun w hw => ⟨h w hw, good_of_word (List.mem_filter.mp (h w hw)).2⟩
def mA (b0 : Nat) : Nat → Prop := fun q => b0 ≤ q
def mTxS (k : Nat) : String := (["no such card, place or index", "table", "card", "lean", "lay", "not possible with these arguments", "there is nothing for this call", "lwbx", "table", "card", "lean", "lay"] : List String).getD k ""
def mMsg : List (Nat × String) := [(399, "no such card, place or index"), (404, "not possible with these arguments"), (392, "there is nothing for this call")]
def mStrAt (ad : mAd) (b0 k : Nat) (U : State) (H : Heap) : Prop := ∃ aV : Nat, va_O "java/lang/String" (ad 3 3 k) (mA b0) U H ∧ va_OF "java/lang/String" "coder" "B" (.int 0) (ad 3 3 k) (mA b0) U H ∧ va_OF "java/lang/String" "value" "[B" (.ref aV) (ad 3 3 k) (mA b0) U H ∧ va_T .byte aV (mTxt k).length (fun j => .int ((mTxt k).getD j 0)) (mA b0) U H
theorem mStrAt.moved {ad : mAd} {b0 k : Nat} {u U : State} {H : Heap} (hvm : u.vm.Alike U.vm) (h : mStrAt ad b0 k u H) : mStrAt ad b0 k U H := by
  obtain ⟨aV, h1, h2, h3, h4⟩ := h
  exact ⟨aV, h1.moved hvm, h2.moved hvm, h3.moved hvm, h4.moved hvm⟩
theorem mStrAt.kept {ad : mAd} {b0 k : Nat} {U : State} {H H1 : Heap} (h : mStrAt ad b0 k U H) (hq : ∀ a : Nat, a < H.size → ¬ mA b0 a → H1[a]? = H[a]?) : mStrAt ad b0 k U H1 := by
  obtain ⟨aV, h1, h2, h3, h4⟩ := h
  exact ⟨aV, h1.kept hq, h2.kept hq, h3.kept hq, h4.kept hq⟩
/-- what lies below b0, and stays -/
def mOldW (ad : mAd) (b0 : Nat) (U : State) (H : Heap) : Prop := b0 ≤ H.size ∧
  va_Z "CardCastle" "LEAST_SETTINGS" "[I" (.ref (ad 3 1 0)) (mA b0) U H ∧ va_Z "CardCastle" "MOST_SETTINGS" "[I" (.ref (ad 3 2 0)) (mA b0) U H ∧
  vx_Zq Bundle.tN "UNASSIGNED_STACK" Bundle.steD (mA b0) U H ∧ vx_Zq Bundle.tN "SUPPRESSED_SENTINEL" Bundle.listD (mA b0) U H ∧
  va_Z "java/lang/String" "COMPACT_STRINGS" "Z" (.int 1) (mA b0) U H ∧ va_Zq "jdk/internal/util/Preconditions" "SIOOBE_FORMATTER" "Ljava/util/function/BiFunction;" (mA b0) U H ∧ ∀ k, 0 < (mTxt k).length → mStrAt ad b0 k U H
theorem mOldW.moved {ad : mAd} {b0 : Nat} {u U : State} {H : Heap} (hvm : u.vm.Alike U.vm) (h : mOldW ad b0 u H) : mOldW ad b0 U H := by
  obtain ⟨h0, h1, h2, h3, h4, h5, h6, h7⟩ := h
  exact ⟨h0, h1.moved hvm, h2.moved hvm, vx_Zq.moved hvm h3, vx_Zq.moved hvm h4, h5.moved hvm, va_Zq.moved hvm h6, fun k hk => (h7 k hk).moved hvm⟩
theorem mOldW.kept {ad : mAd} {b0 : Nat} {U : State} {H H1 : Heap} (h : mOldW ad b0 U H) (hz : H.size ≤ H1.size) (hq : ∀ a : Nat, a < H.size → ¬ mA b0 a → H1[a]? = H[a]?) : mOldW ad b0 U H1 := by
  obtain ⟨h0, h1, h2, h3, h4, h5, h6, h7⟩ := h
  exact ⟨Nat.le_trans h0 hz, h1.kept hq, h2.kept hq, h3.kept hq, h4.kept hq, h5.kept hq, va_Zq.kept h6 hq, fun k hk => (h7 k hk).kept hq⟩
/-- what the tables say beside the good words -/
def mOldS (ad : mAd) (U : State) : Prop :=
  (∀ own ix k, mStr own ix = some k → vk_R (mCN own) ix (mTxS k) (ad 3 3 k) U) ∧
  (∀ (a : String) (i : Nat) (x : MethodName) (d : String), Jvm.Cond.methodLinkNest a i x d ∈ lw_tbl → va_Nw (.methodLinkNest a i x d) U) ∧
  (∀ (a : String) (i : Nat) (b n d e : String), Jvm.Cond.fieldLinkNest a i b n d e ∈ lw_tbl → va_Nw (.fieldLinkNest a i b n d e) U) ∧
  (∀ k, 0 < k → k < 4 → va_Nw (.castable (mXN k) (mXN k)) U) ∧ (∀ k j, 0 < k → k < 4 → 0 < j → j < 4 → k ≠ j → va_Nc (mXN k) (mXN j) U) ∧ va_AO "CardCastle$Castle" U ∧ (∀ q ∈ mMsg, ∃ a, vk_R "CardCastle" q.1 q.2 a U) ∧ ∀ x : MethodName, Jvm.Cond.declares x ∈ lw_tbl → va_Nw (.declares x) U
theorem mOldS.warm {ad : mAd} {s U : State} (hW : s.WarmedH U.vm) (h : mOldS ad s) : mOldS ad U := by
  obtain ⟨h1, h2, h3, h4, h5, h6, h7, h8⟩ := h
  exact ⟨fun own ix k hk => vk_R.warm hW (h1 own ix k hk), fun a i x d hm => va_Nw.warmM hW (h2 a i x d hm), fun a i b n d e hm => va_Nw.warmF hW (h3 a i b n d e hm), fun k k1 k2 => va_Nw.warmC hW (h4 k k1 k2), fun k j a1 a2 a3 a4 a5 => va_Nc.moved hW.alike (h5 k j a1 a2 a3 a4 a5), va_AO.moved hW.alike h6, fun q hq => (h7 q hq).imp fun a ha => vk_R.warm hW ha, fun x hx => va_Nw.warmD hW (h8 x hx)⟩
theorem mOldS.same {ad : mAd} {u U : State} (hv : u.vm = U.vm) (h : mOldS ad u) : mOldS ad U := by
  obtain ⟨h1, h2, h3, h4, h5, h6, h7, h8⟩ := h
  have hal : u.vm.Alike U.vm := by rw [hv]; exact Vm.Alike.refl U.vm
  exact ⟨fun own ix k hk => vk_R.same hv.symm (h1 own ix k hk), fun a i x d hm => va_Nw.same rfl hv (h2 a i x d hm), fun a i b n d e hm => va_Nw.same rfl hv (h3 a i b n d e hm), fun k k1 k2 => va_Nw.same rfl hv (h4 k k1 k2), fun k j a1 a2 a3 a4 a5 => va_Nc.moved hal (h5 k j a1 a2 a3 a4 a5), va_AO.moved hal h6, fun q hq => (h7 q hq).imp fun a ha => vk_R.same hv.symm ha, fun x hx => va_Nw.same rfl hv (h8 x hx)⟩
/-- all that a method stands on: its start's state s -/
def mEv (ad : mAd) (b0 : Nat) (D : va_G) (s : State) : Prop := mV0 ad b0 D s ∧ mOldW ad b0 s s.heap ∧ mOldS ad s
def yLen : MethodName := ⟨"java/lang/String", "length", "()I"⟩
abbrev bLen : ByteArray := prog_21_method_54_code
theorem gLen_i : Jvm.Cond.instanceMethod yLen ∈ gTbl := gTbl_of 629 (by decide +kernel) rfl
theorem gLen_s : Jvm.Cond.selects yLen.cls yLen yLen ∈ gTbl := gTbl_of 630 (by decide +kernel) rfl
theorem gLen_n : Jvm.Cond.initialized yLen.cls ∈ gTbl := gTbl_of 118 (by decide +kernel) rfl
theorem gLen_c : Jvm.Cond.code yLen bLen 1 (some .int) ∈ gTbl := gTbl_of 631 (by decide +kernel) rfl
def yCha : MethodName := ⟨"java/lang/String", "charAt", "(I)C"⟩
abbrev bCha : ByteArray := prog_21_method_56_code
theorem gCha_i : Jvm.Cond.instanceMethod yCha ∈ gTbl := gTbl_of 639 (by decide +kernel) rfl
theorem gCha_s : Jvm.Cond.selects yCha.cls yCha yCha ∈ gTbl := gTbl_of 640 (by decide +kernel) rfl
theorem gCha_n : Jvm.Cond.initialized yCha.cls ∈ gTbl := gTbl_of 118 (by decide +kernel) rfl
theorem gCha_c : Jvm.Cond.code yCha bCha 2 (some .char) ∈ gTbl := gTbl_of 641 (by decide +kernel) rfl
def yFil : MethodName := ⟨"java/util/Arrays", "fill", "([II)V"⟩
abbrev bFil : ByteArray := prog_26_method_103_code
theorem gFil_t : Jvm.Cond.static yFil ∈ gTbl := gTbl_of 571 (by decide +kernel) rfl
theorem gFil_n : Jvm.Cond.initialized yFil.cls ∈ gTbl := gTbl_of 116 (by decide +kernel) rfl
theorem gFil_c : Jvm.Cond.code yFil bFil 4 none ∈ gTbl := gTbl_of 572 (by decide +kernel) rfl
theorem gMax_t : Jvm.Cond.static Lib.Math.max.name ∈ gTbl := gTbl_of 1393 (by decide +kernel) rfl
theorem gMax_c : Jvm.Cond.code Lib.Math.max.name Lib.Math.max.code 2 (some .int) ∈ gTbl := gTbl_of 1394 (by decide +kernel) rfl
theorem gMin_t : Jvm.Cond.static Lib.Math.min.name ∈ gTbl := gTbl_of 597 (by decide +kernel) rfl
theorem gMin_c : Jvm.Cond.code Lib.Math.min.name Lib.Math.min.code 2 (some .int) ∈ gTbl := gTbl_of 598 (by decide +kernel) rfl
theorem gAbs_t : Jvm.Cond.static Lib.Math.abs.name ∈ gTbl := gTbl_of 859 (by decide +kernel) rfl
theorem gAbs_c : Jvm.Cond.code Lib.Math.abs.name Lib.Math.abs.code 1 (some .int) ∈ gTbl := gTbl_of 860 (by decide +kernel) rfl
theorem gMath_n : Jvm.Cond.initialized "java/lang/Math" ∈ gTbl := gTbl_of 117 (by decide +kernel) rfl
theorem gCpy_t : Jvm.Cond.static arraycopyName ∈ gTbl := gTbl_of 789 (by decide +kernel) rfl
theorem gCpy_v : Jvm.Cond.native arraycopyName ∈ gTbl := gTbl_of 790 (by decide +kernel) rfl
theorem gCpy_n : Jvm.Cond.initialized "java/lang/System" ∈ gTbl := gTbl_of 123 (by decide +kernel) rfl
theorem gObj_i : Jvm.Cond.instanceMethod Lib.objectInit ∈ gTbl := gTbl_of 131 (by decide +kernel) rfl
theorem gObj_c : Jvm.Cond.code Lib.objectInit ⟨#[0xb1]⟩ 1 none ∈ gTbl := gTbl_of 132 (by decide +kernel) rfl
theorem gSet_83 : Jvm.Cond.fieldLinkNest "CardCastle$Parser" 83 "CardCastle" "LEAST_SETTINGS" "[I" "CardCastle" ∈ lw_tbl := List.mem_of_getElem? (i := 680) (by decide +kernel)
theorem gSet_87 : Jvm.Cond.fieldLinkNest "CardCastle$Parser" 87 "CardCastle" "MOST_SETTINGS" "[I" "CardCastle" ∈ lw_tbl := List.mem_of_getElem? (i := 682) (by decide +kernel)
theorem gCon : Jvm.Cond.constant "CardCastleModel" 384 2147483647 ∈ gTbl := gTbl_of 1989 (by decide +kernel) rfl
