/-! THE CLAIM OUT OF ONE WALK OF THE LAW'S BODY. Your part is whole_start (and what it stands on); all else here is the same for every law, but numbers. -/
def R_law : String := "CardCastleLaw"
def lw_P (b : Addr) (xs : List Int32) (args : Array Value) (s : State) : Prop := args = #[.ref b] ∧ s.IntsAt b xs ∧ xs.length ≤ 260 ∧ (Jvm.Cond.and given_1 narrow_1).before args s = true
/-- what a walk over the start with the record d0 says of its end, said of the start itself -/
theorem lw_closed {s t : State} {o : Outcome} {d0 : Drawn} {L : List Loc} {k n : Nat} (hd0 : s.drawn.sameBut d0 lw_cs) (hv : ∃ v, o = .returned v) (hW : (s.setDrawn d0).WarmedH t.vm) (hs : (s.setDrawn d0).sameButNew ({ t with vm := s.vm } : State) L k n) : State.butDraws s t lw_cs (fun t1 => Framed s o t1 L k n) := by
  have h2 : t.drawn = d0 := congrArg State.drawn hs.1
  refine ⟨⟨hv, hW, State.sameButNew.setDrawn hs s.drawn⟩, ?_, by decide⟩
  rw [h2]
  exact hd0
def lw_Q (_ : Array Value) (s : State) (o : Outcome) (t : State) : Prop := o = .returned (some (.int 1)) ∧ State.butDraws s t lw_cs (fun t1 => Framed s o t1 [] 300000 6000000)
def lw_Z (below : List Frame) (a : Array Value) (s : State) : State → Prop := fun t => ∃ o, t.status = .running ∧ Ended t below o ∧ lw_Q a s o t
/-- the law's own end, with 1 on the stack, nothing written that was there before, its room as the claim has it; d0: the record of draws at this point (at the entry s.drawn: begin with 'refine W.base ?_' and 'have hd0 := Drawn.sameBut.refl s.drawn lw_cs') -/
theorem lw_ret {p : Program} {l : Launch} {e : Env} {s : State} {m : MethodId} {below : List Frame} {meth : Method} {c : Code} {b : Nat} {d0 : Drawn} (hd0 : s.drawn.sameBut d0 lw_cs) (hx : p.tables.exec = Jvm.exec) (hb : c.code = code) (hr : meth.sig.returnType = ret) (hlocks : meth.locks = false) {pc : Nat} {H : Heap} {ls : Array Slot} (hdg : decode code pc = .ok (.ireturn, 1)) : W p l e room_1 (s.setDrawn d0) m #[Value.ref b] below meth c H [] 300000 6000000 (lw_Z below #[Value.ref b] s) (F0 m pc ls [.int 1]) := by
  intro T hT X
  obtain ⟨fs, hret, hrun, hended, hW, hframe⟩ := X.leave (v := some (.int 1)) (hlocks := hlocks) (fun h => by rw [hr] at h; cases h)
  have hmeth' : T.vm.method? m = some meth := X.method'
  refine ⟨T.setFrames fs, ?_, .returned (some (.int 1)), hrun, hended, rfl, lw_closed hd0 ⟨_, rfl⟩ hW hframe⟩
  jvm_step X.here [X.here.top, hx, hb, hdg, hmeth', hr, ret, narrow_b1]
  (try refine ⟨rfl, ?_⟩); (try refine ⟨rfl, ?_⟩)
  first | (intro acts; rw [hret _ acts rfl rfl rfl]) | rw [hret _ _ rfl rfl rfl]
  exact Steps.refl _
/-- what holds at the law's entry: the machine, the code, the tables' words (any of lw_tbl by 'hts w (by decide +kernel)'), the script of L ints xs at the cell b, what the Statement gives of the start (any of its parts by flat_of_before) -/
def lw_At (p : Program) (s : State) (m : MethodId) (meth : Method) (c : Code) (b L : Nat) (xs : Nat → Int32) : Prop :=
  p.tables.exec = Jvm.exec ∧ c.code = code ∧ meth.sig.returnType = ret ∧ c.maxLocals = 6 ∧ s.vm.findClass R_law = some m.cls ∧ (∀ w ∈ lw_tbl, w.before #[Value.ref b] s = true) ∧ va_X b L xs s s.heap ∧ b < s.heap.size ∧ meth.locks = false ∧ (Jvm.Cond.and given_1 narrow_1).before #[Value.ref b] s = true
/-! THE START. -/
def nFlat : List Jvm.Cond := flatC (Jvm.Cond.and given_1 narrow_1)
def mTm (k : Nat) : Term := .string ((["CardCastle", "CardCastle$Parser", "CardCastle$Parser", "CardCastle$Parser", "CardCastle$Parser", "CardCastle", "CardCastle", "CardCastle", "CardCastle$Parser", "CardCastle$Parser", "CardCastle$Parser", "CardCastle$Parser", "CardCastleLaw$World", "CardCastleLaw$World", "CardCastleLaw$World", "CardCastleLaw$World", "CardCastleLaw$World", "CardCastleLaw$World", "CardCastleLaw", "CardCastleLaw", "CardCastleLaw", "CardCastleLaw", "java/util/Arrays", "CardCastleLaw", "CardCastleLaw"] : List String).getD k "") (([399, 77, 100, 108, 113, 404, 392, 412, 77, 100, 108, 113, 9, 80, 82, 95, 144, 153, 283, 296, 304, 306, 337, 337, 339] : List Nat).getD k 0)
def mLeast : List Int32 := [2, 1, 1, 0, 0, 0]
def mMost : List Int32 := [12, 8, 99, 9, 20, 8]
def mTset (k : Nat) : Term := .static "CardCastle" (if k = 1 then "LEAST_SETTINGS" else "MOST_SETTINGS") "[I"
def mSet (k : Nat) : List Int32 := if k = 1 then mLeast else mMost
set_option maxRecDepth 100000 in
theorem nSet_k : ∀ k, k = 1 ∨ k = 2 → Jvm.Cond.arrayOf (mTset k) .int ∈ nFlat ∧ Jvm.Cond.eq (.length (mTset k)) (.int (Int32.ofNat 6)) ∈ nFlat := by
  intro k hk
  rcases hk with rfl | rfl <;> decide +kernel
set_option maxRecDepth 100000 in
theorem nSet_e : ∀ k, k < 3 → 0 < k → ∀ j, j < 6 → Jvm.Cond.eq (.elem (mTset k) (.int (Int32.ofNat j))) (.int ((mSet k).getD j 0)) ∈ nFlat := by decide +kernel
set_option maxRecDepth 100000 in
theorem nStr_k : ∀ k, k < 25 → mTxO k = true → Jvm.Cond.exactly (mTm k) "java/lang/String" ∈ nFlat ∧ Jvm.Cond.eq (.field (mTm k) "java/lang/String" "coder" "B") (.int 0) ∈ nFlat ∧ Jvm.Cond.arrayOf (.field (mTm k) "java/lang/String" "value" "[B") .byte ∈ nFlat ∧ Jvm.Cond.eq (.length (.field (mTm k) "java/lang/String" "value" "[B")) (.int (Int32.ofNat (mTxt k).length)) ∈ nFlat := by decide +kernel
set_option maxRecDepth 100000 in
theorem nStr_x : ∀ k, k < 25 → Jvm.Cond.exactly (mTm k) "java/lang/String" ∈ nFlat := by decide +kernel
def mPosS : List (List Nat) := [[], [394, 395, 396, 397, 398], [410, 411, 412, 413], [426, 427, 428, 429], [443, 444, 445], [], [], [705, 706, 707, 708], [394, 395, 396, 397, 398], [410, 411, 412, 413], [426, 427, 428, 429], [443, 444, 445], [293, 294, 295, 296, 297, 298], [303], [], [315, 316, 317, 318, 319, 320], [328, 329, 330, 331, 332, 333], [342, 343, 344, 345, 346], [554], [572], [591], [611], [], [], [678, 679, 680, 681]]
set_option maxRecDepth 100000 in
theorem nStr_e0 : ∀ k, k < 7 → mTxO (0 + k) = true → ∀ j, j < (mTxt (0 + k)).length → nFlat[(mPosS.getD (0 + k) []).getD j 0]? = some (Jvm.Cond.eq (.elem (.field (mTm (0 + k)) "java/lang/String" "value" "[B") (.int (Int32.ofNat j))) (.int ((mTxt (0 + k)).getD j 0))) := by decide +kernel
set_option maxRecDepth 100000 in
theorem nStr_e7 : ∀ k, k < 5 → mTxO (7 + k) = true → ∀ j, j < (mTxt (7 + k)).length → nFlat[(mPosS.getD (7 + k) []).getD j 0]? = some (Jvm.Cond.eq (.elem (.field (mTm (7 + k)) "java/lang/String" "value" "[B") (.int (Int32.ofNat j))) (.int ((mTxt (7 + k)).getD j 0))) := by decide +kernel
set_option maxRecDepth 100000 in
theorem nStr_e12 : ∀ k, k < 4 → mTxO (12 + k) = true → ∀ j, j < (mTxt (12 + k)).length → nFlat[(mPosS.getD (12 + k) []).getD j 0]? = some (Jvm.Cond.eq (.elem (.field (mTm (12 + k)) "java/lang/String" "value" "[B") (.int (Int32.ofNat j))) (.int ((mTxt (12 + k)).getD j 0))) := by decide +kernel
set_option maxRecDepth 100000 in
theorem nStr_e16 : ∀ k, k < 9 → mTxO (16 + k) = true → ∀ j, j < (mTxt (16 + k)).length → nFlat[(mPosS.getD (16 + k) []).getD j 0]? = some (Jvm.Cond.eq (.elem (.field (mTm (16 + k)) "java/lang/String" "value" "[B") (.int (Int32.ofNat j))) (.int ((mTxt (16 + k)).getD j 0))) := by decide +kernel
theorem nStr_e (k : Nat) (hk : k < 25) (ho : mTxO k = true) (j : Nat) (hj : j < (mTxt k).length) : Jvm.Cond.eq (.elem (.field (mTm k) "java/lang/String" "value" "[B") (.int (Int32.ofNat j))) (.int ((mTxt k).getD j 0)) ∈ nFlat := by
  rcases Nat.lt_or_ge k 7 with q | q
  · have := nStr_e0 (k - 0) (by omega)
    rw [show 0 + (k - 0) = k by omega] at this
    exact List.mem_of_getElem? (this ho j hj)
  rcases Nat.lt_or_ge k 12 with q | q
  · have := nStr_e7 (k - 7) (by omega)
    rw [show 7 + (k - 7) = k by omega] at this
    exact List.mem_of_getElem? (this ho j hj)
  rcases Nat.lt_or_ge k 16 with q | q
  · have := nStr_e12 (k - 12) (by omega)
    rw [show 12 + (k - 12) = k by omega] at this
    exact List.mem_of_getElem? (this ho j hj)
  rcases Nat.lt_or_ge k 25 with q | q
  · have := nStr_e16 (k - 16) (by omega)
    rw [show 16 + (k - 16) = k by omega] at this
    exact List.mem_of_getElem? (this ho j hj)
  omega
set_option maxRecDepth 100000 in
theorem nCst_k : ∀ k, k < 4 → ∀ j, j < 4 → (Nat.beq k 0 || Nat.beq j 0 || Nat.beq k j) = true ∨ Jvm.Cond.not (.castable (mXN k) (mXN j)) ∈ nFlat := by decide +kernel
set_option maxRecDepth 100000 in
theorem nRest : Jvm.Cond.isRef (.static "java/lang/Throwable" "UNASSIGNED_STACK" "[Ljava/lang/StackTraceElement;") ∈ nFlat ∧ Jvm.Cond.isRef (.static "java/lang/Throwable" "SUPPRESSED_SENTINEL" "Ljava/util/List;") ∈ nFlat ∧ Jvm.Cond.eq (.static "java/lang/String" "COMPACT_STRINGS" "Z") (.int 1) ∈ nFlat ∧ Jvm.Cond.isRef (.static "jdk/internal/util/Preconditions" "SIOOBE_FORMATTER" "Ljava/util/function/BiFunction;") ∈ nFlat := by decide +kernel
set_option maxRecDepth 100000 in
theorem nTab : Jvm.Cond.laysStatic "java/lang/Throwable" "UNASSIGNED_STACK" "[Ljava/lang/StackTraceElement;" ∈ lw_tbl ∧ Jvm.Cond.laysStatic "java/lang/Throwable" "SUPPRESSED_SENTINEL" "Ljava/util/List;" ∈ lw_tbl ∧ Jvm.Cond.laysStatic "java/lang/String" "COMPACT_STRINGS" "Z" ∈ lw_tbl ∧ Jvm.Cond.laysStatic "jdk/internal/util/Preconditions" "SIOOBE_FORMATTER" "Ljava/util/function/BiFunction;" ∈ lw_tbl ∧ Jvm.Cond.laysStatic "CardCastle" "LEAST_SETTINGS" "[I" ∈ lw_tbl ∧ Jvm.Cond.laysStatic "CardCastle" "MOST_SETTINGS" "[I" ∈ lw_tbl ∧
    Jvm.Cond.initialized "java/lang/Throwable" ∈ lw_tbl ∧ Jvm.Cond.initialized "java/lang/String" ∈ lw_tbl ∧ Jvm.Cond.initialized "jdk/internal/util/Preconditions" ∈ lw_tbl ∧ Jvm.Cond.initialized "CardCastle" ∈ lw_tbl ∧ Jvm.Cond.arrayOver (.object "CardCastle$Castle") ∈ lw_tbl := by decide +kernel
set_option maxRecDepth 100000 in
theorem nTabJ : Jvm.Cond.laysStatic "java/lang/Integer" "DigitOnes" "[B" ∈ lw_tbl ∧ Jvm.Cond.laysStatic "java/lang/Integer" "DigitTens" "[B" ∈ lw_tbl ∧ Jvm.Cond.initialized "java/lang/Integer" ∈ lw_tbl ∧ Jvm.Cond.arrayOver (.array .int) ∈ lw_tbl ∧ Jvm.Cond.castable "[B" "java/lang/Cloneable" ∈ lw_tbl := by decide +kernel
def mTdig (k : Nat) : Term := .static "java/lang/Integer" (if k = 4 then "DigitOnes" else "DigitTens") "[B"
def mDig (k p : Nat) : Int32 := if k = 4 then Int32.ofNat (48 + p % 10) else Int32.ofNat (48 + p / 10)
set_option maxRecDepth 100000 in
theorem nDig_k : ∀ k, k = 4 ∨ k = 5 → Jvm.Cond.arrayOf (mTdig k) .byte ∈ nFlat ∧ Jvm.Cond.eq (.length (mTdig k)) (.int (Int32.ofNat 100)) ∈ nFlat := by
  intro k hk
  rcases hk with rfl | rfl <;> decide +kernel
set_option maxRecDepth 100000 in
theorem nDig_4_0 : ∀ j, j < 50 → nFlat[12 + j]? = some (Jvm.Cond.eq (.elem (mTdig 4) (.int (Int32.ofNat (0 + j)))) (.int (mDig 4 (0 + j)))) := by decide +kernel
set_option maxRecDepth 100000 in
theorem nDig_4_50 : ∀ j, j < 50 → nFlat[62 + j]? = some (Jvm.Cond.eq (.elem (mTdig 4) (.int (Int32.ofNat (50 + j)))) (.int (mDig 4 (50 + j)))) := by decide +kernel
set_option maxRecDepth 100000 in
theorem nDig_5_0 : ∀ j, j < 50 → nFlat[115 + j]? = some (Jvm.Cond.eq (.elem (mTdig 5) (.int (Int32.ofNat (0 + j)))) (.int (mDig 5 (0 + j)))) := by decide +kernel
set_option maxRecDepth 100000 in
theorem nDig_5_50 : ∀ j, j < 50 → nFlat[165 + j]? = some (Jvm.Cond.eq (.elem (mTdig 5) (.int (Int32.ofNat (50 + j)))) (.int (mDig 5 (50 + j)))) := by decide +kernel
theorem nDig_e (k : Nat) (h6 : k < 6) (h4 : 4 ≤ k) (j : Nat) (hj : j < 100) : Jvm.Cond.eq (.elem (mTdig k) (.int (Int32.ofNat j))) (.int (mDig k j)) ∈ nFlat := by
  have hk : k = 4 ∨ k = 5 := by omega
  rcases hk with rfl | rfl <;> rcases Nat.lt_or_ge j 50 with h | h
  · have := nDig_4_0 j h
    rw [Nat.zero_add] at this
    exact List.mem_of_getElem? this
  · have := nDig_4_50 (j - 50) (by omega)
    rw [show 50 + (j - 50) = j by omega] at this
    exact List.mem_of_getElem? this
  · have := nDig_5_0 j h
    rw [Nat.zero_add] at this
    exact List.mem_of_getElem? this
  · have := nDig_5_50 (j - 50) (by omega)
    rw [show 50 + (j - 50) = j by omega] at this
    exact List.mem_of_getElem? this
set_option maxRecDepth 100000 in
theorem nTab_c : ∀ k, k < 4 → 0 < k → Jvm.Cond.castable (mXN k) (mXN k) ∈ lw_tbl := by decide +kernel
set_option maxRecDepth 100000 in
theorem nTab_s : ∀ own, own < 24 → ∀ q ∈ (mStr_L).getD own [], q.2 < 25 ∧ mTm q.2 = .string (mCN own) q.1 ∧ Jvm.Cond.stringRef (mCN own) q.1 (mTxS q.2) ∈ lw_tbl := by decide +kernel
set_option maxRecDepth 100000 in
theorem nTab_m : ∀ q ∈ mMsg, Jvm.Cond.stringRef "CardCastle" q.1 q.2 ∈ lw_tbl ∧ ∃ k, k < 25 ∧ mTm k = .string "CardCastle" q.1 := by
  intro q hq
  simp only [mMsg, List.mem_cons, List.not_mem_nil, or_false] at hq
  rcases hq with rfl | rfl | rfl
  · exact ⟨by decide +kernel, 6, by decide, rfl⟩
  · exact ⟨by decide +kernel, 0, by decide, rfl⟩
  · exact ⟨by decide +kernel, 5, by decide, rfl⟩
def mDy0 : mDy := (fun _ => false, fun _ => none, fun _ => 0)
def mSh0 (L f i j : Nat) : Option (Nat × Nat) := match Nat.beq f 3 with
  | true => SHd false L mDy0 3 i j
  | false => none
def mMi0 (xs : Nat → Int32) : mMi := fun f i _ p => match Nat.beq f 3 with
  | true => match i with
    | 0 => xs p
    | 1 => mLeast.getD p 0
    | 2 => mMost.getD p 0
    | 4 => mDig 4 p
    | 5 => mDig 5 p
    | _ => 0
  | false => 0
/-- the memory at the law's entry; A0: where the system is going to lie -/
def hs0 (A0 L : Nat) (xs : Nat → Int32) : mH := ((mSh0 L, RFd false mDy0), (mMi0 xs, ((A0, 0), 0, 0, 0)))
theorem mSh0_f {L f i j kd n : Nat} (h : mSh0 L f i j = some (kd, n)) : f = 3 ∧ ((kd = 30 ∧ ((i = 0 ∧ n = L) ∨ (i = 1 ∧ n = 6) ∨ (i = 2 ∧ n = 6))) ∨ (kd = 24 ∧ n = 100 ∧ (i = 4 ∨ i = 5))) := by
  unfold mSh0 at h
  cases hb : Nat.beq f 3 with
  | false => rw [hb] at h; cases h
  | true =>
    rw [hb] at h
    have hf := Nat.eq_of_beq_eq_true hb
    refine ⟨hf, ?_⟩
    match i, h with
    | 0, h => cases h; exact Or.inl ⟨rfl, Or.inl ⟨rfl, rfl⟩⟩
    | 1, h => cases h; exact Or.inl ⟨rfl, Or.inr (Or.inl ⟨rfl, rfl⟩)⟩
    | 2, h => cases h; exact Or.inl ⟨rfl, Or.inr (Or.inr ⟨rfl, rfl⟩)⟩
    | 3, h => cases h
    | 4, h => cases h; exact Or.inr ⟨rfl, rfl, Or.inl rfl⟩
    | 5, h => cases h; exact Or.inr ⟨rfl, rfl, Or.inr rfl⟩
    | k + 6, h => cases h
set_option maxRecDepth 1000000 in
theorem mByt_law : mByt 245 = code := rfl
theorem mOld_T {U : State} {H : Heap} {t n : Nat} {g : Nat → Int32} {A : Nat → Prop} (h : va_T .int t n (fun j => .int (g j)) A U H) : mOld t U H n g := by
  obtain ⟨cell, h1, h2, h3, h4, h5, h6, -⟩ := h
  exact ⟨cell, h1, h2, h3, h4, h5, h6⟩
theorem mOldB_T {U : State} {H : Heap} {t n : Nat} {g : Nat → Int32} {A : Nat → Prop} (h : va_T .byte t n (fun j => .int (g j)) A U H) : mOldB t U H n g := by
  obtain ⟨cell, h1, h2, h3, h4, h5, h6, -⟩ := h
  exact ⟨cell, h1, h2, h3, h4, h5, h6⟩
theorem mOld_X {U : State} {H : Heap} {b n : Nat} {g : Nat → Int32} (h : va_X b n g U H) : mOld b U H n g := by
  obtain ⟨cell, h1, h2, h3, h4, h5⟩ := h
  exact ⟨cell, h1, h2, h3, by omega, by rw [h4], h5⟩

theorem mTxO_lt {k : Nat} (h : mTxO k = true) : k < 25 := by
  rcases Nat.lt_or_ge k 25 with z | z
  · exact z
  · unfold mTxO at h
    rw [List.getD_eq_getElem?_getD, List.getElem?_eq_none (by exact z)] at h
    cases h
theorem mAO_of {args : Array Value} {s : State} (h : (Cond.arrayOver (.array .int)).before args s = true) : ∃ comp c k, s.vm.findClass (FieldType.array .int).toString = some comp ∧ s.vm.classes[c]? = some k ∧ k.kind = .array comp (.array .int) ∧ s.vm.findClass ("[" ++ (FieldType.array .int).toString) = some c := by
  obtain ⟨comp, c, k, h1, -, h2, h3, h4⟩ := arrayOverA_spec h
  exact ⟨comp, c, k, h1, h2, h3, h4⟩
set_option maxHeartbeats 4000000 in
theorem whole_of {p : Program} {e : Env} {s : State} {m : MethodId} {below : List Frame} {meth : Method} {c : Code} (l : Launch) (hflags : l.flags = flags0) {b L A0 : Nat} {xs : Nat → Int32} (C0 : lw_At p s m meth c b L xs) (hDec : ∀ y, y < 246 → mDecH y)
    (hw : ∃ n D' hf, wp n D' 245 0 (mEntry 245 [mR 3 0 0]) [] (hs0 A0 L xs) (fun r h' => r = .inl (some (.inl 1)) ∧ h' = hf) ∧ D' ≤ 1300 ∧ mCt hf ≤ 300000 ∧ mSl hf ≤ 6000000) :
    W p l e room_1 s m #[Value.ref b] below meth c s.heap [] 0 0 (lw_Z below #[Value.ref b] s) (entryFrame m ([Value.ref b] : List Value).toArray 6) := by
  obtain ⟨n, D', hf, hw, hD', hct, hsl⟩ := hw
  obtain ⟨hx, hb, hr, hml, hown, hts, hX, hbl, hlocks, hgv⟩ := C0
  have hfl : l.stackTraces = false := by
    unfold Launch.stackTraces
    rw [hflags]
    decide +kernel
  have hq := flat_of_before _ hgv
  have hA : ∀ a : Nat, a < s.heap.size → ¬ mA s.heap.size a := fun a h => Nat.not_le.mpr h
  have hts' : ∀ w ∈ gTbl, w.before #[Value.ref b] s = true := fun w hw => hts w (List.mem_filter.mp hw).1
  -- the classes
  have hcl : ∀ k : Nat, ∃ q : ClassId × (Nat → Nat), ∀ r : vw_C, mcl[k]? = some r → u_Kn s r.1 r.2.1 r.2.2 q.1 q.2 := by
    intro k
    rcases Nat.lt_or_ge k 16 with hk | hk
    · obtain ⟨cC, iS, h⟩ := u_known (C := mCN k) (T := mT k) (N := mTN k) (n := mTN k) hts' (mLay_ok hk) (hts' _ (mInst_ok hk).1)
      refine ⟨(cC, iS), fun r hr => ?_⟩
      rw [mcl_at hk] at hr
      cases hr
      exact h
    · exact ⟨(0, fun _ => 0), fun r hr => by
        rw [List.getElem?_eq_none (by exact hk)] at hr
        cases hr⟩
  obtain ⟨dd, hdd⟩ := Classical.axiomOfChoice hcl
  -- the texts
  have htx : ∀ k : Nat, ∃ q : Nat, k < 25 → (mTm k).eval #[Value.ref b] s none [] s = some (.ref q) ∧ q < s.heap.size ∧ (mTxO k = true → ∃ aV : Nat, va_O "java/lang/String" q (mA s.heap.size) s s.heap ∧ va_OF "java/lang/String" "coder" "B" (.int 0) q (mA s.heap.size) s s.heap ∧ va_OF "java/lang/String" "value" "[B" (.ref aV) q (mA s.heap.size) s s.heap ∧ va_T .byte aV (mTxt k).length (fun j => .int ((mTxt k).getD j 0)) (mA s.heap.size) s s.heap) := by
    intro k
    by_cases hk : k < 25
    · obtain ⟨a, c', cA, kA, q1, q2, q3, q4, q5, q6, -⟩ := Cond.exactly_spec (args := #[Value.ref b]) (first := s) (o := none) (s := s) (idx := []) (t := mTm k) (cls := "java/lang/String") (hq _ (nStr_x k hk))
      have hlt : a < s.heap.size := (Array.getElem?_eq_some_iff.mp q3).1
      refine ⟨a, fun _ => ⟨q1, hlt, fun h0 => ?_⟩⟩
      obtain ⟨n1, n2, n3, n4⟩ := nStr_k k hk h0
      obtain ⟨t, ht, hT⟩ := va_Tof (f := fun j => .int ((mTxt k).getD j 0)) (A := mA s.heap.size) (by have := (mTxt_len k).1; omega) (hq _ n3) (va_eqt (hq _ n4)) (fun j hj => va_eqt (hq _ (nStr_e k hk h0 j hj))) hA
      exact ⟨t, ⟨cA, q3, q5, by rw [q6]; exact q2, hA a hlt⟩, vk_OFof q1 (va_eqt (hq _ n2)) hA, vk_OFof q1 ht hA, hT⟩
    · exact ⟨0, fun h => absurd h hk⟩
  obtain ⟨tx, htx⟩ := Classical.axiomOfChoice htx
  -- the two tables
  have hset : ∀ k, k = 1 ∨ k = 2 → ∃ t : Nat, (mTset k).eval #[Value.ref b] s none [] s = some (.ref t) ∧ va_T .int t 6 (fun j => .int ((mSet k).getD j 0)) (mA s.heap.size) s s.heap ∧ t < s.heap.size := by
    intro k hk
    obtain ⟨n1, n2⟩ := nSet_k k hk
    obtain ⟨t, h1, h2⟩ := va_Tof (f := fun j => .int ((mSet k).getD j 0)) (A := mA s.heap.size) (by decide) (hq _ n1) (va_eqt (hq _ n2)) (fun j hj => va_eqt (hq _ (nSet_e k (by omega) (by omega) j hj))) hA
    obtain ⟨cell, h3, -⟩ := id h2
    exact ⟨t, h1, h2, (Array.getElem?_eq_some_iff.mp h3).1⟩
  obtain ⟨t1, s11, s12, s13⟩ := hset 1 (Or.inl rfl)
  obtain ⟨t2, s21, s22, s23⟩ := hset 2 (Or.inr rfl)
  have hdig : ∀ k, k = 4 ∨ k = 5 → ∃ t : Nat, (mTdig k).eval #[Value.ref b] s none [] s = some (.ref t) ∧ va_T .byte t 100 (fun j => .int (mDig k j)) (mA s.heap.size) s s.heap ∧ t < s.heap.size := by
    intro k hk
    obtain ⟨n1, n2⟩ := nDig_k k hk
    obtain ⟨t, h1, h2⟩ := va_Tof (f := fun j => .int (mDig k j)) (A := mA s.heap.size) (by decide) (hq _ n1) (va_eqt (hq _ n2)) (fun j hj => va_eqt (hq _ (nDig_e k (by omega) (by omega) j hj))) hA
    obtain ⟨cell, h3, -⟩ := id h2
    exact ⟨t, h1, h2, (Array.getElem?_eq_some_iff.mp h3).1⟩
  obtain ⟨t4, s41, s42, s43⟩ := hdig 4 (Or.inl rfl)
  obtain ⟨t5, s51, s52, s53⟩ := hdig 5 (Or.inr rfl)
  let ad : mAd := fun f i j => if f = 3 then (if i = 1 then t1 else if i = 2 then t2 else if i = 4 then t4 else if i = 5 then t5 else if i = 3 ∧ j < 25 then tx j else b) else s.heap.size + mAdx A0 f i j
  have ad3 : ∀ k, k < 25 → ad 3 3 k = tx k := fun k hk => by show (if (3 : Nat) = 3 then _ else _) = _; rw [if_pos rfl, if_neg (by decide), if_neg (by decide), if_neg (by decide), if_neg (by decide), if_pos ⟨rfl, hk⟩]
  have hAd : mAdOk ad s.heap.size := by
    refine ⟨⟨A0, ?_, fun f i j h => if_neg h⟩, fun i j => ?_⟩
    · show (if (2 : Nat) = 3 then _ else _) = _
      rw [if_neg (by decide)]
      rfl
    · show (if (3 : Nat) = 3 then _ else _) < _
      rw [if_pos rfl]
      by_cases h1 : i = 1
      · rw [if_pos h1]; exact s13
      · rw [if_neg h1]
        by_cases h2 : i = 2
        · rw [if_pos h2]; exact s23
        · rw [if_neg h2]
          by_cases h4 : i = 4
          · rw [if_pos h4]; exact s43
          · rw [if_neg h4]
            by_cases h5 : i = 5
            · rw [if_pos h5]; exact s53
            · rw [if_neg h5]
              by_cases h3 : i = 3 ∧ j < 25
              · rw [if_pos h3]; exact (htx j h3.2).2.1
              · rw [if_neg h3]; exact hbl
  obtain ⟨v1, v2, v3, v4, v5⟩ := nTabJ
  obtain ⟨w1, w2, w3, w4, w5, w6, w7, w8, w9, w10, w11⟩ := nTab
  obtain ⟨r1, r2, r3, r4⟩ := nRest
  have hD : va_K (fun k => (dd k).1, fun k => (dd k).2) mcl [] s := ⟨fun k q h => hdd k q h, fun k q h => by simp at h⟩
  have hE : mEv ad s.heap.size (fun k => (dd k).1, fun k => (dd k).2) s := by
    refine ⟨⟨hAd, hD⟩, ⟨Nat.le_refl _, ?_, ?_, ?_, ?_, ?_, ?_, ?_, ?_, fun k hk => ?_⟩, fun own ix k hk => ?_, fun a i x d hm => va_Nw.of rfl (hts _ hm), fun a i b2 n2 d e2 hm => va_Nw.of rfl (hts _ hm), fun k k1 k2 => va_Nw.of rfl (hts _ (nTab_c k k2 k1)), fun k j k1 k2 j1 j2 hne => va_Nc.of (hq _ (by
      rcases nCst_k k k2 j j2 with z | z
      · simp only [Bool.or_eq_true] at z
        rcases z with (z | z) | z <;> (have := Nat.eq_of_beq_eq_true z; omega)
      · exact z)), va_AO.of (hts _ w11), ⟨mAO_of (hts _ v4), va_Nw.of rfl (hts _ v5)⟩, fun q hm => ?_, fun x hm => va_Nw.of rfl (hts _ hm)⟩
    · exact va_Zref (hts _ w5) (hts _ w10) s11 hA
    · exact va_Zref (hts _ w6) (hts _ w10) s21 hA
    · exact vx_Zqof (hts _ w1) (hts _ w7) (hq _ r1) hA
    · exact vx_Zqof (hts _ w2) (hts _ w7) (hq _ r2) hA
    · exact va_Zref (hts _ v1) (hts _ v3) s41 hA
    · exact va_Zref (hts _ v2) (hts _ v3) s51 hA
    · exact va_Zof (hts _ w3) (hts _ w8) (va_eqi (hq _ r3)) hA
    · exact va_Zqof (hts _ w4) (hts _ w9) (hq _ r4) hA
    · have hk12 : k < 25 := mTxO_lt hk
      obtain ⟨aV, a1, a2, a3, a4⟩ := (htx k hk12).2.2 hk
      refine ⟨aV, ?_⟩
      rw [ad3 k hk12]
      exact ⟨a1, a2, a3, a4⟩
    · have hm := mLook_mem hk
      have hlt := mGetD_mem hm
      obtain ⟨g1, g2, g3⟩ := nTab_s own hlt _ hm
      have g4 := (htx k g1).1
      rw [g2] at g4
      rw [ad3 k g1]
      exact vk_R.of (hts _ g3) g4
    · obtain ⟨g1, k, g2, g3⟩ := nTab_m q hm
      have g4 := (htx k g2).1
      rw [g3] at g4
      exact ⟨_, vk_R.of (hts _ g1) g4⟩
  have hrel : mRel (fun k => (dd k).1, fun k => (dd k).2) ad s.heap.size 0 (hs0 A0 L xs) s s.heap := by
    refine ⟨fun f i j kd n2 h => ?_, fun f i j kd n2 h => ?_, rfl, rfl, ?_⟩
    · obtain ⟨g1, g2⟩ := mSh0_f h
      exact ⟨⟨fun _ => g2.elim (fun z => Or.inl z.1) (fun z => Or.inr z.1), fun _ => g1⟩, fun z => (z g1).elim, fun _ _ _ _ _ _ z _ _ => (z g1).elim⟩
    · obtain ⟨g1, g2⟩ := mSh0_f h
      subst g1
      rcases g2 with ⟨rfl, g3⟩ | ⟨rfl, rfl, g3⟩
      · refine ⟨fun _ => ?_, Or.inr rfl, fun z => by omega, fun z => by omega, fun z => by omega, fun z => by omega, fun z => by omega, fun z => by omega, fun z => by omega⟩
        rcases g3 with ⟨rfl, rfl⟩ | ⟨rfl, rfl⟩ | ⟨rfl, rfl⟩
        · exact mOld_X hX
        · exact mOld_T s12
        · exact mOld_T s22
      · refine ⟨fun z => by omega, Or.inl (by decide), fun z => by omega, fun z => by omega, fun z => by omega, fun z => by omega, fun z => by omega, fun _ => ?_, fun z => by omega⟩
        rcases g3 with rfl | rfl
        · exact mOldB_T s42
        · exact mOldB_T s52
    · show (if (2 : Nat) = 3 then _ else _) = _
      rw [if_neg (by decide)]
      rfl
  have hF : mFr 245 p s m #[Value.ref b] meth c := ⟨hx, hb, hml, hown, hts', ⟨by decide, hDec 245 (by decide)⟩, fun z => by cases z⟩
  have hen : mEnds p l e room_1 s m #[Value.ref b] below meth c (fun k => (dd k).1, fun k => (dd k).2) ad s.heap.size 245 0 0 (lw_Z below #[Value.ref b] s) (.inl (some (.inl 1))) hf := by
    refine ⟨fun r pc lo ins ho hd hrk => ?_, fun E pc H locs ls rest na q ce ho => (by cases ho), fun pc ix ci n2 lo st h hd hn hle ho => (by cases ho)⟩
    cases ho
    intro H locs ls na h1 h2 h3 h4 h5
    have hins : ins = .ireturn := by
      cases ins <;> first | rfl | exact hrk.elim
    subst hins
    refine W.base ?_
    refine va_forget (s := s.setDrawn s.drawn) (fun q hq => h2.2.2 q hq) (W.widen (by omega) (by omega) ?_)
    have hdg := mDc (hDec 245 (by decide)) hd rfl rfl
    rw [mByt_law] at hdg
    exact lw_ret (Drawn.sameBut.refl s.drawn lw_cs) hx hb hr hlocks hdg
  have hk := mSound (ad := ad) (b0 := s.heap.size) (D := (fun k => (dd k).1, fun k => (dd k).2)) hfl (mJdk_ok l ad s.heap.size) hDec n D' 245 0 (mEntry 245 [mR 3 0 0]) [] (hs0 A0 L xs) (.inl (some (.inl 1))) hf p e room_1 s m #[Value.ref b] below meth c 0 0 _ hF hE (fun z => (z rfl).elim) ⟨by show D' + 12 ≤ 2048; omega, by show 60 * D' + 300 ≤ 84000; omega⟩ ⟨Nat.le_trans (by omega : mCt hf - 0 ≤ 300000) (by decide : 300000 ≤ room_1.cells), Nat.le_trans (by omega : mSl hf - 0 ≤ 6000000) (by decide : 6000000 ≤ room_1.slots)⟩ hen hw
  rw [lg_entry_eq]
  exact hk s.heap [] _ 0 hrel va_S.rf (mEntry_loc (ad := ad) (y := 245) (as := [mR 3 0 0]) rfl (by decide)) (Nat.le_refl _) (Nat.le_refl _)
