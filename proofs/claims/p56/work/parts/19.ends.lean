/-! HANDLERS, THROWS, AND THE ENDS OF METHODS. -/
def mAstC (y hpc k pc2 : Nat) : Bool := match cd y hpc with
  | some (.astore_n i) => Nat.beq i k && Nat.beq pc2 (hpc + 1)
  | some (.astore i) => Nat.beq i k && Nat.beq pc2 (hpc + 2)
  | _ => false
def mHndZ (y : Nat) : List (Nat × Nat × Nat × Nat) → List (Nat × Nat × Nat × Nat × Nat) → Bool
  | [], [] => true
  | (a, b, hpc, ct) :: r, (a', b', E, pc2, k) :: r' => Nat.beq a a' && Nat.beq b b' && (match mNew (mOwn y) ct with
    | some (ci, _) => Nat.beq ci (900 + E)
    | none => false) && Nat.blt 0 E && Nat.blt E 4 && Nat.blt 0 ct && mAstC y hpc k pc2 && mHndZ y r r'
  | _, _ => false
def mHHl (y : Nat) : List (Nat × Nat × Nat × Nat) := (mHH y).getD []
def mHndC (y : Nat) : Bool := mHndZ y (mHHl y) ((mLook mHndL y).getD [])
set_option maxRecDepth 100000 in
theorem mHndC_ok : ∀ y, y < 246 → mHndC y = true := by decide +kernel
def mCov (z : Nat × Nat × Nat × Nat) (pc : Nat) : Bool := covers ⟨z.1, z.2.1, z.2.2.1, z.2.2.2⟩ pc
theorem mCov_eq (a b hpc ct pc : Nat) : mCov (a, b, hpc, ct) pc = (Nat.ble a pc && Nat.blt pc b) := by
  unfold mCov covers
  rw [Bool.eq_iff_iff]
  simp only [Bool.and_eq_true, decide_eq_true_eq, Nat.ble_eq, Nat.blt_eq]
theorem mHndF_spec {y pc E : Nat} : ∀ {hh : List (Nat × Nat × Nat × Nat)} {l : List (Nat × Nat × Nat × Nat × Nat)}, mHndZ y hh l = true →
    (∀ pc2 k, mHndF l pc E = some (pc2, k) → ∃ pre r suf, hh = pre ++ r :: suf ∧ (∀ z ∈ pre, mCov z pc = false ∨ (z.2.2.2 ≠ 0 ∧ ∃ E', 0 < E' ∧ E' < 4 ∧ E' ≠ E ∧ Jvm.Cond.classLink (mCN (mOwn y)) z.2.2.2 (mXN E') ∈ gTbl)) ∧ mCov r pc = true ∧ r.2.2.2 ≠ 0 ∧ Jvm.Cond.classLink (mCN (mOwn y)) r.2.2.2 (mXN E) ∈ gTbl ∧ 0 < E ∧ E < 4 ∧ mAstC y r.2.2.1 k pc2 = true) ∧
    (mHndF l pc E = none → ∀ z ∈ hh, mCov z pc = false ∨ (z.2.2.2 ≠ 0 ∧ ∃ E', 0 < E' ∧ E' < 4 ∧ E' ≠ E ∧ Jvm.Cond.classLink (mCN (mOwn y)) z.2.2.2 (mXN E') ∈ gTbl)) := by
  intro hh
  induction hh with
  | nil =>
    intro l hz
    cases l with
    | nil => exact ⟨fun _ _ q => (by cases q), fun _ z q => (by cases q)⟩
    | cons a r => cases hz
  | cons z r ih =>
    intro l hz
    obtain ⟨a, b, hpc, ct⟩ := z
    cases l with
    | nil => cases hz
    | cons z' r' =>
      obtain ⟨a', b', E', pc2', k'⟩ := z'
      unfold mHndZ at hz
      simp only [Bool.and_eq_true] at hz
      obtain ⟨⟨⟨⟨⟨⟨⟨z1, z2⟩, z3⟩, z4⟩, z5⟩, z6⟩, z7⟩, z8⟩ := hz
      cases Nat.eq_of_beq_eq_true z1
      cases Nat.eq_of_beq_eq_true z2
      obtain ⟨ih1, ih2⟩ := ih z8
      have hE0 : 0 < E' := Nat.le_of_ble_eq_true z4
      have hE4 : E' < 4 := Nat.le_of_ble_eq_true z5
      have hct : ct ≠ 0 := Nat.pos_iff_ne_zero.mp (Nat.le_of_ble_eq_true z6)
      have hlk : Jvm.Cond.classLink (mCN (mOwn y)) ct (mXN E') ∈ gTbl := by
        cases hn : mNew (mOwn y) ct with
        | none => rw [hn] at z3; cases z3
        | some x =>
          obtain ⟨ci, n⟩ := x
          rw [hn] at z3
          have hci := Nat.eq_of_beq_eq_true z3
          subst hci
          have q := (mNewX_ok hn (Nat.ble_eq_true_of_le (by omega))).1
          rwa [show 900 + E' - 900 = E' by omega] at q
      unfold mHndF
      rw [← mCov_eq a b hpc ct pc]
      cases hcv : mCov (a, b, hpc, ct) pc with
      | false =>
        simp only [Bool.false_and]
        refine ⟨fun pc2 k q => ?_, fun q z hzm => ?_⟩
        · obtain ⟨pre, x, suf, e1, e2, e3⟩ := ih1 pc2 k q
          refine ⟨(a, b, hpc, ct) :: pre, x, suf, by rw [e1]; rfl, fun z hzm => ?_, e3⟩
          rcases List.mem_cons.mp hzm with rfl | hzm
          · exact Or.inl hcv
          · exact e2 z hzm
        · rcases List.mem_cons.mp hzm with rfl | hzm
          · exact Or.inl hcv
          · exact ih2 q z hzm
      | true =>
        cases hEE : Nat.beq E' E with
        | true =>
          cases Nat.eq_of_beq_eq_true hEE
          simp only [Bool.and_self]
          refine ⟨fun pc2 k q => ?_, fun q => (by cases q)⟩
          cases q
          exact ⟨[], (a, b, hpc, ct), r, rfl, fun _ q => (by cases q), hcv, hct, hlk, hE0, hE4, z7⟩
        | false =>
          simp only [Bool.and_false]
          have hne : E' ≠ E := fun q => by rw [q, Nat.beq_refl] at hEE; cases hEE
          refine ⟨fun pc2 k q => ?_, fun q z hzm => ?_⟩
          · obtain ⟨pre, x, suf, e1, e2, e3⟩ := ih1 pc2 k q
            refine ⟨(a, b, hpc, ct) :: pre, x, suf, by rw [e1]; rfl, fun z hzm => ?_, e3⟩
            rcases List.mem_cons.mp hzm with rfl | hzm
            · exact Or.inr ⟨hct, E', hE0, hE4, hne, hlk⟩
            · exact e2 z hzm
          · rcases List.mem_cons.mp hzm with rfl | hzm
            · exact Or.inr ⟨hct, E', hE0, hE4, hne, hlk⟩
            · exact ih2 q z hzm
theorem mHnd_F {y pc E : Nat} : mHnd y pc E = mHndF ((mLook mHndL y).getD []) pc E := by
  unfold mHnd
  cases mLook mHndL y with
  | none => rfl
  | some l => rfl
def mTab (y : Nat) (c : Code) : Prop := c.exceptionTable.toList = tableOf (mHHl y)
section MX
variable {p : Program} {l : Launch} {e : Env} {R : Room} {s : State} {m : MethodId} {args : Array Value} {below : List Frame} {meth : Method} {c : Code} {D : va_G} {ad : mAd} {b0 y c0 s0 : Nat} {Z : State → Prop} {h : mH} {pc : Nat} {lo : mLo} {st : mSt}
theorem mi_catch {E pc2 k na : Nat} {H : Heap} {locs : List Loc} {ls : Array Slot} {rest : List Value} {q : Addr} {ce : Cell} (hF : mFr y p s m args meth c) (hE : mEv ad b0 D s) (hT : mTab y c) (hh : mHnd y pc E = some (pc2, k)) (ho : (Nat.blt k lo.length && mOkSt lo k) = true)
    (h1 : mRel D ad b0 na h s H) (h2 : va_S (mA b0) s.heap H locs) (h3 : mLoc ad (mMaxL y) lo ls) (h4 : c0 ≤ mCt h) (h5 : s0 ≤ mSl h) (hq : H[q]? = some ce) (hv : ce.vm = .none) (hcl : s.vm.findClass (mXN E) = some ce.cls) (kk : mW p l e R s m args below meth c D ad b0 y c0 s0 Z h pc2 (lo.set k none) []) :
    vx_W p l e R s m args below meth c H locs (mCt h - c0) (mSl h - s0) Z (F0 m pc ls rest) q := by
  rw [mHnd_F] at hh
  obtain ⟨pre, r, suf, e1, e2, e3, e4, e5, hE0, hE4, e6⟩ := (mHndF_spec (mHndC_ok y hF.2.2.2.2.2.1.1)).1 pc2 k hh
  obtain ⟨a, b, hpc, ct⟩ := r
  obtain ⟨hx, hb, hml, hown, hts, ⟨-, hdec⟩, -⟩ := hF
  rw [Bool.and_eq_true] at ho
  refine vx_catch (own := mCN (mOwn y)) (name := mXN E) (E := mXN E) hown (tableOf pre) ⟨a, b, hpc, ct⟩ (tableOf suf) (by rw [hT, e1]; simp [tableOf]) (fun z hz => ?_) e3 e4 (hts _ e5) (va_Nw.use rfl (hE.2.2.2.2.2.1 E hE0 hE4)) hq hv hcl ?_
  · unfold tableOf at hz
    obtain ⟨z0, hz0, rfl⟩ := List.mem_map.mp hz
    rcases e2 z0 hz0 with g | ⟨g1, E', g2, g3, g4, g5⟩
    · exact Or.inl g
    · exact Or.inr ⟨g1, mXN E', hts _ g5, hE.2.2.2.2.2.2.1 E E' hE0 hE4 g2 g3 (fun z => g4 z.symm)⟩
  · show W p l e R s m args below meth c H locs _ _ Z (F0 m hpc ls [.ref q])
    unfold mAstC at e6
    cases hcd : cd y hpc with
    | none => rw [hcd] at e6; cases e6
    | some ins =>
      rw [hcd] at e6
      have hk : k < mMaxL y := by rw [← h3.1]; exact Nat.le_of_ble_eq_true ho.1
      split at e6
      · rename_i i heq
        cases heq
        rw [Bool.and_eq_true] at e6
        cases Nat.eq_of_beq_eq_true e6.1
        cases Nat.eq_of_beq_eq_true e6.2
        exact lv_astore_n hx hb (mDc hdec hcd rfl rfl) rfl h3.2 hk rfl (fun ls2 hls => kk H locs ls2 na h1 h2 (h3.drop1 hls ho.2) h4 h5)
      · rename_i i heq
        cases heq
        rw [Bool.and_eq_true] at e6
        cases Nat.eq_of_beq_eq_true e6.1
        cases Nat.eq_of_beq_eq_true e6.2
        exact lv_astore hx hb (mDc hdec hcd rfl rfl) h3.2 hk rfl (fun ls2 hls => kk H locs ls2 na h1 h2 (h3.drop1 hls ho.2) h4 h5)
      · cases e6
def mThrown (h : mH) : mH := (h.1, (h.2.1, (mQ h, mNx h + 1, mCt h + 1, mSl h + 6)))
theorem mRel.thrown {na : Nat} {U : State} {H H1 : Heap} (hA : mAdOk ad b0) (hr : mRel D ad b0 na h U H) (hz : H1.size = H.size + 1) (hq : ∀ q : Nat, q < H.size → H1[q]? = H[q]?) : mRel D ad b0 (na + 1) (mThrown h) U H1 := by
  have hr0 := hr
  obtain ⟨ho, hc, h2, h3, h4⟩ := hr
  refine ⟨fun f i j kd n e => ?_, fun f i j kd n e => (hc f i j kd n e).kept (hq _ ?_), ?_, by omega, h4⟩
  · obtain ⟨o1, o2, o3⟩ := ho f i j kd n e
    exact ⟨o1, fun z => Nat.lt_succ_of_lt (o2 z), o3⟩
  · by_cases z : f = 3
    · subst z
      have := hA.2 i j
      omega
    · obtain ⟨a', ha', he'⟩ := mAd_ge hA hr0 e z
      omega
  · show mNx h + 1 = na + 1
    rw [h2]
/-- what a frame of y owes at its ends: the outcome o, over the memory hf -/
def mEnds (p : Program) (l : Launch) (e : Env) (R : Room) (s : State) (m : MethodId) (args : Array Value) (below : List Frame) (meth : Method) (c : Code) (D : va_G) (ad : mAd) (b0 : Nat) (y c0 s0 : Nat) (Z : State → Prop) (o : mOut) (hf : mH) : Prop :=
  (∀ r pc lo ins, o = .inl r → cd y pc = some ins → mRetOk y ins r → mW p l e R s m args below meth c D ad b0 y c0 s0 Z hf pc lo r.toList) ∧
  (∀ E pc H locs ls rest na q ce, o = .inr E → 0 < E → E < 4 → mRel D ad b0 na hf s H → va_S (mA b0) s.heap H locs → H[q]? = some ce → ce.vm = .none → s.vm.findClass (mXN E) = some ce.cls → mHnd y pc E = none → c0 ≤ mCt hf → s0 ≤ mSl hf →
    vx_W p l e R s m args below meth c H locs (mCt hf - c0) (mSl hf - s0) Z (F0 m pc ls rest) q) ∧
  (∀ pc ix ci n lo st h, cd y pc = some (.new ix) → mNew (mOwn y) ix = some (ci, n) → Nat.ble 900 ci = true → o = .inr (ci - 900) → hf = mThrown h → mDeep st = true → mW p l e R s m args below meth c D ad b0 y c0 s0 Z h pc lo st)
end MX
/-- where an exception of our own is made -/
def mThrS (y pc : Nat) : Bool := match cd y pc with
  | some (.new ix) => match mNew (mOwn y) ix with
    | some (ci, _) => Nat.ble 900 ci
    | none => false
  | _ => false
def mThrL (y : Nat) : Nat → Bool
  | 0 => true
  | n + 1 => (!(mThrS y n) || ((Nat.beq y 106 && Nat.beq n 9) || (Nat.beq y 107 && Nat.beq n 4) || (Nat.beq y 115 && Nat.beq n 4))) && mThrL y n
theorem mThrL_ok {y : Nat} : ∀ {n : Nat}, mThrL y n = true → ∀ pc, pc < n → mThrS y pc = true → (y = 106 ∧ pc = 9) ∨ (y = 107 ∧ pc = 4) ∨ (y = 115 ∧ pc = 4) := by
  intro n
  induction n with
  | zero => intro _ pc hp; omega
  | succ n ih =>
    intro hz pc hp hs
    unfold mThrL at hz
    rw [Bool.and_eq_true] at hz
    by_cases hpn : pc = n
    · subst hpn
      have h1 := hz.1
      rw [hs] at h1
      simpa [or_assoc] using h1
    · exact ih hz.2 pc (by omega) hs
def mThrTop (y : Nat) : Nat := 32 * (mCode y).length
set_option maxRecDepth 100000 in
theorem mThr_0 : ∀ y, y < 60 → mThrL (0 + y) (mThrTop (0 + y)) = true := by decide +kernel
set_option maxRecDepth 100000 in
theorem mThr_1 : ∀ y, y < 60 → mThrL (60 + y) (mThrTop (60 + y)) = true := by decide +kernel
set_option maxRecDepth 100000 in
theorem mThr_2 : ∀ y, y < 60 → mThrL (120 + y) (mThrTop (120 + y)) = true := by decide +kernel
set_option maxRecDepth 100000 in
theorem mThr_3 : ∀ y, y < 60 → mThrL (180 + y) (mThrTop (180 + y)) = true := by decide +kernel
set_option maxRecDepth 100000 in
theorem mThr_4 : ∀ y, y < 6 → mThrL (240 + y) (mThrTop (240 + y)) = true := by decide +kernel
theorem mThr_all {y pc : Nat} (hy : y < 246) (hs : mThrS y pc = true) : (y = 106 ∧ pc = 9) ∨ (y = 107 ∧ pc = 4) ∨ (y = 115 ∧ pc = 4) := by
  have hp : pc < mThrTop y := by
    unfold mThrTop
    rcases Nat.lt_or_ge pc (32 * (mCode y).length) with h | h
    · exact h
    · unfold mThrS cd at hs
      rw [List.getD_eq_getElem?_getD (l := mCode y), List.getElem?_eq_none (show (mCode y).length ≤ pc / 32 by omega)] at hs
      simp at hs
  rcases Nat.lt_or_ge y 60 with q | q
  · have := mThr_0 (y - 0) (by omega)
    rw [show 0 + (y - 0) = y by omega] at this
    exact mThrL_ok this pc hp hs
  rcases Nat.lt_or_ge y 120 with q | q
  · have := mThr_1 (y - 60) (by omega)
    rw [show 60 + (y - 60) = y by omega] at this
    exact mThrL_ok this pc hp hs
  rcases Nat.lt_or_ge y 180 with q | q
  · have := mThr_2 (y - 120) (by omega)
    rw [show 120 + (y - 120) = y by omega] at this
    exact mThrL_ok this pc hp hs
  rcases Nat.lt_or_ge y 240 with q | q
  · have := mThr_3 (y - 180) (by omega)
    rw [show 180 + (y - 180) = y by omega] at this
    exact mThrL_ok this pc hp hs
  rcases Nat.lt_or_ge y 246 with q | q
  · have := mThr_4 (y - 240) (by omega)
    rw [show 240 + (y - 240) = y by omega] at this
    exact mThrL_ok this pc hp hs
  omega
