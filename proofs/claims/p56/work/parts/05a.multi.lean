/-! ROWS OF ROWS: what 'multianewarray' with two lengths makes, out of the model's own words. -/
/-- the outer row once i of its rows are there -/
def muC (cO : ClassId) (N h0 i : Nat) : Cell := arrV cO N (fun q => if q < i then .ref (h0 + 1 + q) else .null)
def muI (cI : ClassId) (M : Nat) : Cell := arrV cI M (fun _ => .int 0)
theorem muC_zero (cO : ClassId) (N h0 : Nat) : muC cO N h0 0 = { cls := cO, slots := Array.replicate N .null, vm := .none } := by
  rw [arrV_new]
  exact congrArg (arrV cO N) (funext fun q => if_neg (Nat.not_lt_zero q))
theorem muI_eq (cI : ClassId) (M : Nat) : muI cI M = { cls := cI, slots := Array.replicate M (.int 0), vm := .none } := (arrV_new cI M _).symm
theorem muC_size (cO : ClassId) (N h0 i : Nat) : (muC cO N h0 i).slots.size = N := arrV_size _ _ _
theorem muI_size (cI : ClassId) (M : Nat) : (muI cI M).slots.size = M := arrV_size _ _ _
theorem muC_next (cO : ClassId) (N h0 i : Nat) : (muC cO N h0 i).setSlot i (.ref (h0 + 1 + i)) = muC cO N h0 (i + 1) := by
  unfold muC
  rw [arrV_store]
  congr 1
  funext q
  unfold updV
  by_cases h : q = i
  · subst h
    rw [if_pos rfl, if_pos (Nat.lt_succ_self _)]
  · rw [if_neg h]
    dsimp only
    by_cases h2 : q < i
    · rw [if_pos h2, if_pos (Nat.lt_succ_of_lt h2)]
    · rw [if_neg h2, if_neg (by omega)]
def muS (T : State) (cO cI : ClassId) (N M : Nat) : Nat → State
  | 0 => T.pushCell (muC cO N T.heap.size 0)
  | i + 1 => ((muS T cO cI N M i).pushCell (muI cI M)).setCell T.heap.size (muC cO N T.heap.size (i + 1))
def muOk (T S : State) (cO cI : ClassId) (N M i : Nat) : Prop :=
  S.heap.size = T.heap.size + 1 + i ∧ S.heap[T.heap.size]? = some (muC cO N T.heap.size i) ∧ S.vm = T.vm ∧ S.slotsUsed = T.slotsUsed + N + i * M ∧
  (∀ a : Nat, a < T.heap.size → S.heap[a]? = T.heap[a]?) ∧ (∀ j, j < i → S.heap[T.heap.size + 1 + j]? = some (muI cI M))
theorem muS_ok (T : State) (cO cI : ClassId) (N M : Nat) : ∀ i, muOk T (muS T cO cI N M i) cO cI N M i
  | 0 => by
    refine ⟨by simp [muS], by simp [muS], rfl, ?_, fun a ha => State.heap_pushCell_of_lt _ _ ha, fun j hj => absurd hj (Nat.not_lt_zero _)⟩
    simp [muS, muC_size]
  | i + 1 => by
    obtain ⟨a1, a2, a3, a4, a5, a6⟩ := muS_ok T cO cI N M i
    have hlt : T.heap.size < (muS T cO cI N M i).heap.size := by omega
    have hb : ((muS T cO cI N M i).pushCell (muI cI M)).heap[T.heap.size]? = some (muC cO N T.heap.size i) := by rw [State.heap_pushCell_of_lt (h := hlt)]; exact a2
    refine ⟨?_, State.heap_setCell_self hb, by simp [muS, a3], ?_, fun a ha => ?_, fun j hj => ?_⟩
    · simp [muS, State.setCell, a1]; omega
    · simp [muS, a4, muI_size, Nat.succ_mul]; omega
    · show (((muS T cO cI N M i).pushCell (muI cI M)).setCell T.heap.size _).heap[a]? = _
      rw [State.heap_setCell_other (Nat.ne_of_gt ha), State.heap_pushCell_of_lt (h := Nat.lt_trans ha hlt)]
      exact a5 a ha
    · show (((muS T cO cI N M i).pushCell (muI cI M)).setCell T.heap.size _).heap[T.heap.size + 1 + j]? = _
      rw [State.heap_setCell_other (show T.heap.size ≠ T.heap.size + 1 + j by omega)]
      by_cases hj2 : j < i
      · rw [State.heap_pushCell_of_lt (h := show T.heap.size + 1 + j < (muS T cO cI N M i).heap.size by omega)]
        exact a6 j hj2
      · have e : T.heap.size + 1 + j = (muS T cO cI N M i).heap.size := by omega
        rw [e]
        exact State.heap_pushCell_size _ _
theorem muS_top (T : State) (f : JFrame) (cO cI : ClassId) (N M : Nat) : ∀ i, muS (T.setTop f) cO cI N M i = (muS T cO cI N M i).setTop f
  | 0 => rfl
  | i + 1 => by simp only [muS, muS_top T f cO cI N M i, State.heap_setTop, State.pushCell_setTop, State.setCell_setTop]
section MU
variable {E : CtlPost} {e : Env} {d : Bool} {acts : List Action} {s : State}
/-- one row -/
theorem mu_row {cA comp : ClassId} {k : Class} {ty : FieldType} {len : Nat} {v : Value} (hk : s.vm.classes[cA]? = some k) (hkind : k.kind = .array comp ty)
    (hl : ¬ len > e.platform.arrayLengthLimit) (hh : ¬ len * componentBytes ty > e.platform.maxHeapBytes) (hfit : fits ty v = true) (hdef : v.isDefault = true) {Q : Addr → Pre}
    (h1 : s.heap.size < e.platform.maxCells) (h2 : s.slotsUsed + len ≤ e.platform.maxSlots)
    (hq : Q s.heap.size d acts (s.pushCell { cls := cA, slots := Array.replicate len v, vm := .none })) : Jvm.Sem.wp (Jvm.newArray cA len v) Q E e d acts s := by
  have hf : ∀ i w, (Array.replicate len v)[i]? = some w → s.fitsSlot cA .none i w = true := by
    intro i w hw
    rw [Array.getElem?_replicate] at hw
    split at hw
    · cases hw
      simp [State.fitsSlot, State.slotType?, hk, hkind, hfit]
    · cases hw
  have ha : allocActs (Array.replicate len v) s.heap.size acts = acts := by
    have : ((Array.replicate len v).all (·.isDefault)) = true := by
      rw [Array.all_replicate]
      split <;> simp [hdef]
    unfold allocActs
    rw [if_pos this]
  simp only [Jvm.newArray, Jvm.arrayFits, wp_bind', Jvm.W.ask, Jvm.W.ite, hl, if_false, wp_pure', Jvm.W.theClass, hk, hkind, hh, Jvm.W.alloc, Jvm.W.stop, Option.some.injEq, exists_eq_left', Array.size_replicate, ha]
  rw [if_neg (by omega)]
  exact ⟨h1, h2, hf, hq⟩
/-- the inner rows, of ints -/
theorem mu_in {cI cc : ClassId} {kI : Class} {k : Int32} (hkI : s.vm.classes[cI]? = some kI) (hkd : kI.kind = .array cc .int) (hk : ¬ k < 0)
    (hl : ¬ k.toNatClampNeg > e.platform.arrayLengthLimit) (hh : ¬ k.toNatClampNeg * 4 > e.platform.maxHeapBytes)
    (h1 : s.heap.size < e.platform.maxCells) (h2 : s.slotsUsed + k.toNatClampNeg ≤ e.platform.maxSlots)
    {Q : Addr → Pre} (hq : Q s.heap.size d acts (s.pushCell (muI cI k.toNatClampNeg))) : Jvm.Sem.wp (Op.multianewarray.make cI [k]) Q E e d acts s := by
  rw [Op.multianewarray.make]
  simp only [wp_bind', Jvm.W.ite, hk, if_false, wp_pure', Jvm.W.theClass, hkI, hkd, Option.some.injEq, exists_eq_left']
  rw [muI_eq] at hq
  exact mu_row (v := .int 0) hkI hkd hl hh rfl rfl h1 h2 hq
/-- both -/
theorem mu_two {cO cI cc : ClassId} {kO kI : Class} {n k : Int32} (hkO : s.vm.classes[cO]? = some kO) (hO : kO.kind = .array cI (.array .int)) (hkI : s.vm.classes[cI]? = some kI) (hI : kI.kind = .array cc .int) (hn : ¬ n < 0) (hk : ¬ k < 0)
    (hl1 : ¬ n.toNatClampNeg > e.platform.arrayLengthLimit) (hh1 : ¬ n.toNatClampNeg * 4 > e.platform.maxHeapBytes) (hl2 : ¬ k.toNatClampNeg > e.platform.arrayLengthLimit) (hh2 : ¬ k.toNatClampNeg * 4 > e.platform.maxHeapBytes)
    (hc : s.heap.size + 1 + n.toNatClampNeg ≤ e.platform.maxCells) (hs : s.slotsUsed + n.toNatClampNeg + n.toNatClampNeg * k.toNatClampNeg ≤ e.platform.maxSlots)
    {Q : Addr → Pre} (hq : ∀ d' acts', Q s.heap.size d' acts' (muS s cO cI n.toNatClampNeg k.toNatClampNeg n.toNatClampNeg)) : Jvm.Sem.wp (Op.multianewarray.make cO [n, k]) Q E e d acts s := by
  have hfind : ([k].find? (· < 0)) = none := by simp [hk]
  rw [Op.multianewarray.make]
  simp only [wp_bind', Jvm.W.ite, hn, if_false, wp_pure', Jvm.W.theClass, hkO, hO, Option.some.injEq, exists_eq_left']
  refine mu_row (v := .null) hkO hO hl1 hh1 rfl rfl (by omega) (by have := Nat.zero_le (n.toNatClampNeg * k.toNatClampNeg); omega) ?_
  simp only [hfind]
  rw [ite_self, wp_bind', Std.Legacy.Range.forIn_eq_forIn_range']
  rw [show ([:n.toNatClampNeg] : Std.Legacy.Range).size = n.toNatClampNeg by simp [Std.Legacy.Range.size]]
  rw [← muC_zero cO n.toNatClampNeg s.heap.size]
  show Jvm.Sem.wp (forIn (List.range' 0 n.toNatClampNeg 1) PUnit.unit _) _ E e d acts _
  refine wp_forIn_inv (fun rest S => ∃ i, i ≤ n.toNatClampNeg ∧ rest = List.range' i (n.toNatClampNeg - i) ∧ S = muS s cO cI n.toNatClampNeg k.toNatClampNeg i) _ _ ⟨0, Nat.zero_le _, rfl, rfl⟩ ?_ ?_
  · rintro x rest S d' acts' Q' ⟨i, hi, hl, rfl⟩ hnext
    have hlt : i < n.toNatClampNeg := by
      rcases Nat.lt_or_ge i n.toNatClampNeg with h | h
      · exact h
      · rw [Nat.sub_eq_zero_of_le h] at hl
        cases hl
    rw [show n.toNatClampNeg - i = (n.toNatClampNeg - (i + 1)) + 1 by omega, List.range'_succ] at hl
    obtain ⟨rfl, hrest⟩ := List.cons.inj hl
    obtain ⟨f1, f2, f3, f4, -, -⟩ := muS_ok s cO cI n.toNatClampNeg k.toNatClampNeg x
    have hmul : x * k.toNatClampNeg + k.toNatClampNeg ≤ n.toNatClampNeg * k.toNatClampNeg := by
      have := Nat.mul_le_mul_right k.toNatClampNeg (show x + 1 ≤ n.toNatClampNeg from hlt)
      rwa [Nat.succ_mul] at this
    simp only [wp_bind']
    refine mu_in (by rw [f3]; exact hkI) hI hk hl2 hh2 (by omega) (by omega) ?_
    have hlt0 : s.heap.size < (muS s cO cI n.toNatClampNeg k.toNatClampNeg x).heap.size := by omega
    simp only [wp_bind', Jvm.W.writeLoc, wp_pure']
    refine ⟨muC cO n.toNatClampNeg s.heap.size x, by rw [State.heap_pushCell_of_lt (h := hlt0)]; exact f2, by simp [muC, arrV], by rw [muC_size]; exact hlt, ?_, hnext _ _ _ ⟨x + 1, hlt, hrest, ?_⟩⟩
    · show State.fitsSlot _ cO .none x _ = true
      simp [State.fitsSlot, State.slotType?, f3, hkO, hO]
      rfl
    · rw [f1, muC_next]
      rfl
  · rintro S d' acts' ⟨i, hi, hl, rfl⟩
    have hiN : i = n.toNatClampNeg := by
      rcases Nat.lt_or_ge i n.toNatClampNeg with h | h
      · rw [show n.toNatClampNeg - i = (n.toNatClampNeg - (i + 1)) + 1 by omega, List.range'_succ] at hl
        cases hl
      · omega
    subst hiN
    simp only [wp_pure']
    exact hq _ _
end MU
section MV
variable {p : Program} {l : Launch} {e : Env} {R : Room} {s : State} {m : MethodId} {args : Array Value} {below : List Frame} {meth : Method} {c : Code} {locs : List Loc} {cells slots : Nat}
theorem mu_stand {T : State} (X : Stand p l e R s m args below meth c T locs cells slots) (cO cI : ClassId) (N M : Nat) :
    ∀ i, Stand p l e R s m args below meth c (muS T cO cI N M i) (locs ++ (List.range i).map fun j => ⟨T.heap.size, j⟩) (cells + 1 + i) (slots + N + i * M)
  | 0 => by
    have h := X.pushed (muC cO N T.heap.size 0)
    rw [muC_size] at h
    simpa [muS] using h
  | i + 1 => by
    have Xi := mu_stand X cO cI N M i
    obtain ⟨f1, f2, -⟩ := muS_ok T cO cI N M i
    have hc : ((muS T cO cI N M i).pushCell (muI cI M)).heap[T.heap.size]? = some (muC cO N T.heap.size i) := by rw [State.heap_pushCell_of_lt (h := show T.heap.size < (muS T cO cI N M i).heap.size by omega)]; exact f2
    have h := (Xi.pushed (muI cI M)).stored hc i (.ref (T.heap.size + 1 + i))
    rw [muI_size, muC_next] at h
    have e2 : (locs ++ (List.range (i + 1)).map fun j => (⟨T.heap.size, j⟩ : Loc)) = (locs ++ (List.range i).map fun j => (⟨T.heap.size, j⟩ : Loc)) ++ [⟨T.heap.size, i⟩] := by simp [List.range_succ, List.append_assoc]
    rw [e2, show slots + N + (i + 1) * M = slots + N + i * M + M by rw [Nat.succ_mul]; omega]
    exact h
theorem W.multi {Q : State → Prop} {H : Heap} {cc : ByteArray} (hexec : p.tables.exec = Jvm.exec) (hb : c.code = cc) {own : String} {index : Nat} (hown : s.vm.findClass own = some m.cls)
    (hclink : (Cond.classLink own index ("[" ++ (FieldType.array .int).toString)).before args s = true) (hover : ∃ comp c k, s.vm.findClass (FieldType.array .int).toString = some comp ∧ s.vm.classes[c]? = some k ∧ k.kind = .array comp (.array .int) ∧ s.vm.findClass ("[" ++ (FieldType.array .int).toString) = some c) (harr : (Cond.arrayClass .int).before args s = true)
    {g : JFrame} (hg : g.method = m) (hdg : decode cc g.pc = .ok (.multianewarray index 2, 4)) {n k : Int32} {rest : List Value} (hstack : g.stack = .int k :: .int n :: rest) (hn : ¬ n < 0) (hk : ¬ k < 0) (hn2 : n.toNatClampNeg ≤ 1000) (hk2 : k.toNatClampNeg ≤ 1000)
    (hcells : cells + (1 + n.toNatClampNeg) ≤ R.cells) (hslots : slots + (n.toNatClampNeg + n.toNatClampNeg * k.toNatClampNeg) ≤ R.slots)
    (kk : ∀ (H1 : Heap) (cO cI : ClassId), s.vm.findClass ("[" ++ (FieldType.array .int).toString) = some cO → s.vm.findClass (FieldType.array .int).toString = some cI →
      (∃ kO, s.vm.classes[cO]? = some kO ∧ kO.kind = .array cI (.array .int)) → (∃ kI cc', s.vm.classes[cI]? = some kI ∧ kI.kind = .array cc' .int) →
      H1.size = H.size + 1 + n.toNatClampNeg → H1[H.size]? = some (muC cO n.toNatClampNeg H.size n.toNatClampNeg) → (∀ a : Nat, a < H.size → H1[a]? = H[a]?) → (∀ j, j < n.toNatClampNeg → H1[H.size + 1 + j]? = some (muI cI k.toNatClampNeg)) →
      W p l e R s m args below meth c H1 (locs ++ (List.range n.toNatClampNeg).map fun j => ⟨H.size, j⟩) (cells + 1 + n.toNatClampNeg) (slots + n.toNatClampNeg + n.toNatClampNeg * k.toNatClampNeg) Q { g with pc := g.pc + 4, stack := .ref H.size :: rest }) :
    W p l e R s m args below meth c H locs cells slots Q g := by
  intro T hT X
  subst hT; subst hb; subst hg
  have hpl : e.platform.magicAccessors = ({} : Platform).magicAccessors := by rw [X.admits.platform]
  obtain ⟨cI, cO, kO, hcI, hkO, hO, hnm⟩ := hover
  obtain ⟨cI', kI, cc', hcI', hkI, hI⟩ := Cond.arrayClass_spec harr
  have ec : cI' = cI := Option.some.inj (hcI'.symm.trans hcI)
  subst ec
  obtain ⟨c0, hfc0, hcl⟩ := Cond.classLink_spec hown hclink e.platform hpl
  cases hnm.symm.trans hfc0
  obtain ⟨hg1, hw1, -⟩ := State.classEntry (e := e) X.warmed hcl
  generalize T.vm.noted g.method.cls index (.cls cO) = vm1 at hg1 hw1
  have hal : s.vm.Alike vm1 := hw1.alike
  obtain ⟨kO1, hkO1, heO⟩ := hal.2.2 _ _ hkO
  obtain ⟨kI1, hkI1, heI⟩ := hal.2.2 _ _ hkI
  have hO1 : kO1.kind = .array cI' (.array .int) := by rw [heO]; exact hO
  have hI1 : kI1.kind = .array cc' .int := by rw [heI]; exact hI
  have XF := mu_stand (X.noted hw1) cO cI' n.toNatClampNeg k.toNatClampNeg n.toNatClampNeg
  obtain ⟨hr1, hr2⟩ := X.roomAbove hcells hslots
  obtain ⟨f1, f2, f3, f4, f5, f6⟩ := muS_ok (T.setVm vm1) cO cI' n.toNatClampNeg k.toNatClampNeg n.toNatClampNeg
  obtain ⟨t, a1, b1⟩ := kk (muS (T.setVm vm1) cO cI' n.toNatClampNeg k.toNatClampNeg n.toNatClampNeg).heap cO cI' hnm hcI ⟨kO, hkO, hO⟩ ⟨kI, cc', hkI, hI⟩ f1 f2 f5 f6 _ rfl XF
  refine ⟨t, ?_, b1⟩
  have hl1 : ¬ n.toNatClampNeg > e.platform.arrayLengthLimit := by rw [Launch.admits_arrayLengthLimit X.admits]; omega
  have hh1 : ¬ n.toNatClampNeg * 4 > e.platform.maxHeapBytes := by rw [Launch.admits_maxHeapBytes X.admits]; omega
  have hl2 : ¬ k.toNatClampNeg > e.platform.arrayLengthLimit := by rw [Launch.admits_arrayLengthLimit X.admits]; omega
  have hh2 : ¬ k.toNatClampNeg * 4 > e.platform.maxHeapBytes := by rw [Launch.admits_maxHeapBytes X.admits]; omega
  jvm_step X.here [hexec, hdg]
  simp only [Op.multianewarray.sem, wp_bind', Jvm.W.resolveClassAt_links (State.method?_setTop g X.here.top) hg1]
  rw [Jvm.W.popN, if_neg (by decide)]
  refine ⟨g, State.topJava?_setTop' (s := T.setVm vm1) g X.here.top, [.int n, .int k], rest, rfl, hstack, ?_⟩
  simp only [List.mapM_cons, List.mapM_nil, wp_bind', wp_pure']
  refine mu_two hkO1 hO1 hkI1 hI1 hn hk hl1 hh1 hl2 hh2 (by show T.heap.size + 1 + _ ≤ _; omega) (by show T.slotsUsed + _ + _ ≤ _; omega) (fun d' acts' => ?_)
  have eS : ((T.setTop g).setVm vm1).setTop { g with stack := rest } = (T.setVm vm1).setTop { g with stack := rest } := by
    show ((T.setVm vm1).setTop g).setTop _ = _
    rw [State.setTop_setTop]
  rw [eS, muS_top]
  simp only [wp_bind', Jvm.W.mark, Jvm.W.pushRef, State.topJava?_setTop' _ XF.here.top, Option.some.injEq, exists_eq_left', State.setTop_setTop, State.heap_setTop]
  intro acts
  simp [jvm, XF.here.top]
  exact a1
end MV
