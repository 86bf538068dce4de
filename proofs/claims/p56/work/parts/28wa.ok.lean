/-! WHAT MAKES CELLS, and references as answers, as functions. -/
def mGw (v : Nat) (F : Nat → Prop) : Prop := match v with
  | 0 => False
  | v + 1 => F v
theorem ex_gv {v : Nat} {F : Nat → Nat → Prop} : (∃ n, mGw v (F n)) ↔ mGw v (fun q => ∃ n, F n q) := by
  cases v
  · exact ex_one
  · exact Iff.rfl
def mLn (o : Option (Nat × Nat)) (F : Nat → Prop) : Prop := match o with
  | some (kd, n) => mck (Nat.blt 19 kd) (F n)
  | none => False
theorem ex_ln {o : Option (Nat × Nat)} {F : Nat → Nat → Prop} : (∃ n, mLn o (F n)) ↔ mLn o (fun q => ∃ n, F n q) := by
  rcases o with _ | ⟨kd, q⟩
  · exact ex_one
  · exact ex_mck
/-! the steps -/
theorem mex_xc {own m pc : Nat} {o : Option Instr} {ins : Instr} {lo : mLo} {st : mSt} {h : mH} {k : mS → Prop} (c : o = some ins) (b : mIsCall ins = false) : mexO o own m pc lo st h k = mx own m pc ins lo st h k := by
  rw [c]
  unfold mexO
  dsimp only
  rw [b]
theorem mex_c {own m pc : Nat} {o : Option Instr} {ins : Instr} {lo : mLo} {st : mSt} {h : mH} {k : mS → Prop} (c : o = some ins) (b : mIsCall ins = true) : mexO o own m pc lo st h k = mxC own m pc ins lo st h k := by
  rw [c]
  unfold mexO
  dsimp only
  rw [b]
theorem sStep {D m pc pc' : Nat} {ins : Instr} {lo lo' : mLo} {st st' : mSt} {h h' : mH} {Q : mOut → mH → Prop} (c : cd m pc = some ins) (b : mIsCall ins = false) (e : ∀ k : mS → Prop, mx (mOwn m) m pc ins lo st h k = k (.inl (pc', lo', st', h'))) (w : WP D m pc' lo' st' h' Q) : WP D m pc lo st h Q := by
  obtain ⟨n, hn⟩ := w
  refine ⟨n + 1, ?_⟩
  show mexO (cd m pc) (mOwn m) m pc lo st h _
  rw [mex_xc c b, e]
  exact hn
theorem sStepC {D m pc pc' : Nat} {ins : Instr} {lo lo' : mLo} {st st' : mSt} {h h' : mH} {Q : mOut → mH → Prop} (c : cd m pc = some ins) (b : mIsCall ins = true) (e : ∀ k : mS → Prop, mxC (mOwn m) m pc ins lo st h k = k (.inl (pc', lo', st', h'))) (w : WP D m pc' lo' st' h' Q) : WP D m pc lo st h Q := by
  obtain ⟨n, hn⟩ := w
  refine ⟨n + 1, ?_⟩
  show mexO (cd m pc) (mOwn m) m pc lo st h _
  rw [mex_c c b, e]
  exact hn
theorem mck_u2 {b : Bool} {P : Prop} (h : b = true) : mck b P = P := by
  rw [h]
  rfl
/-- an object of class ci with n fields is made -/
def rsO (rs : mRs) (ci n : Nat) : mRs := (rs.1, (rs.2.1.1, (fun a => match Nat.beq rs.2.2.1 a with
  | true => some (ci, 0)
  | false => rs.2.1.2.1 a), (fun a => match Nat.beq rs.2.2.1 a with
  | true => 0
  | false => rs.2.1.2.2 a)), rs.2.2.1 + 1, rs.2.2.2.1 + 1, rs.2.2.2.2 + n)
/-- a text's row is laid -/
def rsV (rs : mRs) (a v : Nat) : mRs := (rs.1, dyV rs.2.1 a (v + 1), rs.2.2)
def bR (r : mRz) (k : Nat → mMi → mRs → mRz) : mRz := match r with
  | some (.inl (some (.inr (.inl (some q)))), mi, rs) => mckO (decide (q = (9, q.2.1, 0))) (k q.2.1 mi rs)
  | some (.inr E, mi, rs) => some (.inr E, mi, rs)
  | _ => none
def bL (r : mRz) (k : Int64 → mMi → mRs → mRz) : mRz := match r with
  | some (.inl (some (.inr (.inr (.inl v)))), mi, rs) => k v mi rs
  | some (.inr E, mi, rs) => some (.inr E, mi, rs)
  | _ => none
def bO (x : Option (Nat × mMi × mRs)) (k : Nat → mMi → mRs → mRz) : mRz := match x with
  | some (a, mi, rs) => k a mi rs
  | none => none
def bN (kd : Nat) (z : Int32) (mi : mMi) (rs : mRs) (k : Nat → mMi → mRs → mRz) : mRz := mckO ((!(decide (z < 0)) && Nat.ble (mix z) 100000) && nOk rs) (k rs.2.2.1 (mfill mi 9 rs.2.2.1 0 (mix z) 0) (rsA rs kd (mix z) (mix z)))
def bNo (ci n : Nat) (mi : mMi) (rs : mRs) (k : Nat → mMi → mRs → mRz) : mRz := mckO (nOk rs) (k rs.2.2.1 (mfill mi 9 rs.2.2.1 0 n 0) (rsO rs ci n))
def bP (ci a v : Nat) (mi : mMi) (rs : mRs) (k : mMi → mRs → mRz) : mRz := mckO (mIsObj (rs.2.1.2.1 a) ci) (k mi (rsV rs a v))
def bC (a : Nat) (mi : mMi) (rs : mRs) (k : Nat → mMi → mRs → mRz) : mRz := match rs.2.1.2.1 a with
  | some (kd, n) => mckO ((Nat.beq kd 22 && Nat.ble n 100000 && mByteOk mi 9 a 0 0 n) && nOk rs) (k rs.2.2.1 (mcopy mi 9 a 0 0 9 rs.2.2.1 0 0 n) (rsA rs 22 n n))
  | none => none
def mLnO (o : Option (Nat × Nat)) (F : Nat → mRz) : mRz := match o with
  | some (kd, n) => mckO (Nat.blt 19 kd) (F n)
  | none => none
def mGwO (v : Nat) (F : Nat → mRz) : mRz := match v with
  | 0 => none
  | v + 1 => F v
theorem bR_some {r : mRz} {k : Nat → mMi → mRs → mRz} {z : mZ3} (h : bR r k = some z) : (∃ a mi rs, r = some (.inl (some (mR 9 a 0)), mi, rs) ∧ k a mi rs = some z) ∨ ∃ E mi rs, r = some (.inr E, mi, rs) ∧ z = (.inr E, mi, rs) := by
  unfold bR at h
  split at h
  · rename_i q mi rs
    obtain ⟨g, h2⟩ := mckO_some h
    refine Or.inl ⟨q.2.1, mi, rs, ?_, h2⟩
    have e : q = (9, q.2.1, 0) := of_decide_eq_true g
    show some (Sum.inl (some ((Sum.inr (Sum.inl (some q)) : mV))), mi, rs) = some (Sum.inl (some ((Sum.inr (Sum.inl (some (9, q.2.1, 0))) : mV))), mi, rs)
    rw [← e]
  · cases h; exact Or.inr ⟨_, _, _, rfl, rfl⟩
  · cases h
theorem bL_some {r : mRz} {k : Int64 → mMi → mRs → mRz} {z : mZ3} (h : bL r k = some z) : (∃ v mi rs, r = some (.inl (some (mL v)), mi, rs) ∧ k v mi rs = some z) ∨ ∃ E mi rs, r = some (.inr E, mi, rs) ∧ z = (.inr E, mi, rs) := by
  unfold bL at h
  split at h
  · exact Or.inl ⟨_, _, _, rfl, h⟩
  · cases h; exact Or.inr ⟨_, _, _, rfl, rfl⟩
  · cases h
theorem Ok.callR {r : mRz} {k : Nat → mMi → mRs → mRz} {L : mLb} {D d n pc y : Nat} {as : List mV} {lo : mLo} {st : mSt} {mi : mMi} {rs : mRs} {K : mOut → mH → Prop} (hR : Does y as L mi rs r d) (hD : d ≤ D) (hk : ∀ a mi rs, Ok (k a mi rs) L K (WP (D + 1) n pc lo (mR 9 a 0 :: st) (hq L mi rs) K)) :
    Ok (bR r k) L K (WP D y 0 (mEntry y as) [] (hq L mi rs) (Bk (D + 1) n pc lo st K)) := fun z e kk => by
  rcases bR_some e with ⟨v, m1, r1, e1, e2⟩ | ⟨E, m1, r1, e1, rfl⟩
  · exact hR _ e1 D _ hD (hk v m1 r1 z e2 kk)
  · exact hR _ e1 D _ hD kk
theorem Ok.callL {r : mRz} {k : Int64 → mMi → mRs → mRz} {L : mLb} {D d n pc y : Nat} {as : List mV} {lo : mLo} {st : mSt} {mi : mMi} {rs : mRs} {K : mOut → mH → Prop} (hR : Does y as L mi rs r d) (hD : d ≤ D) (hk : ∀ v mi rs, Ok (k v mi rs) L K (WP (D + 1) n pc lo (mL v :: st) (hq L mi rs) K)) :
    Ok (bL r k) L K (WP D y 0 (mEntry y as) [] (hq L mi rs) (Bk (D + 1) n pc lo st K)) := fun z e kk => by
  rcases bL_some e with ⟨v, m1, r1, e1, e2⟩ | ⟨E, m1, r1, e1, rfl⟩
  · exact hR _ e1 D _ hD (hk v m1 r1 z e2 kk)
  · exact hR _ e1 D _ hD kk
theorem Ok.ln {o : Option (Nat × Nat)} {F : Nat → mRz} {G : Nat → Prop} {L : mLb} {K : mOut → mH → Prop} (h : ∀ n, Ok (F n) L K (G n)) : Ok (mLnO o F) L K (mLn o G) := by
  rcases o with _ | ⟨kd, n⟩
  · exact Ok.no
  · exact Ok.gd (h n)
theorem Ok.gv {v : Nat} {F : Nat → mRz} {G : Nat → Prop} {L : mLb} {K : mOut → mH → Prop} (h : ∀ n, Ok (F n) L K (G n)) : Ok (mGwO v F) L K (mGw v G) := by
  cases v with
  | zero => exact Ok.no
  | succ v => exact h v
/-! memories behind a making -/
theorem shq_ext {L : mLb} {f i j : Nat} {dy dy' : mDy} (h1 : dy.1 = dy'.1) (h2 : f = 9 → j = 0 → dy.2.1 i = dy'.2.1 i) : SHq L dy f i j = SHq L dy' f i j := by
  unfold SHq
  rw [SHd_ext (b := L.1) (L := L.2.1) h1 h2]
theorem shq_at {L : mLb} {i j : Nat} {dy : mDy} : SHq L dy 9 i j = SHd L.1 L.2.1 dy 9 i j := rfl
theorem shq_new {L : mLb} {kd n : Nat} {dy dy' : mDy} {a : Nat} (h1 : dy'.1 = dy.1) (h2 : ∀ x, dy'.2.1 x = if x = a then some (kd, n) else dy.2.1 x) : msset (SHq L dy) 9 a 0 (kd, n) = SHq L dy' := by
  funext f i j
  by_cases h : f = 9 ∧ i = a ∧ j = 0
  · obtain ⟨rfl, rfl, rfl⟩ := h
    rw [msset_at]
    show some (kd, n) = dy'.2.1 i
    rw [h2, if_pos rfl]
  · rw [msset_ne h]
    refine shq_ext h1.symm fun e1 e2 => ?_
    rw [h2, if_neg (fun e => h ⟨e1, e, e2⟩)]
theorem mUp_if {α : Type} {a x : Nat} {u v : α} : (match Nat.beq a x with
  | true => u
  | false => v) = if x = a then u else v := by
  by_cases h : x = a
  · rw [if_pos h, h, Nat.beq_refl]
  · rw [if_neg h, mBeqF h]
theorem rfq_ext {L : mLb} {f i j q : Nat} {dy dy' : mDy} (h2 : f = 9 → j = 0 → dy.2.2 i = dy'.2.2 i) : RFq L dy f i j q = RFq L dy' f i j q := by
  unfold RFq
  rw [RFd_ext (b := L.1) (f := f) (i := i) (j := j) (q := q) h2]
theorem rfq_set {L : mLb} {a v : Nat} {dy : mDy} : mrset (RFq L dy) 9 a 0 0 (some (9, v, 0)) = RFq L (dyV dy a (v + 1)) := by
  funext f i j q
  by_cases h : f = 9
  · subst h
    have e := congrFun (congrFun (congrFun (congrFun (rfV (b := L.1) (a := a) (v := v) (dy := dy)) 9) i) j) q
    exact e
  · rw [mrset_ne (fun e => h e.1)]
    exact rfq_ext fun e1 _ => absurd e1 h
theorem rfq_new {L : mLb} {a : Nat} {dy dy' : mDy} (h2 : ∀ x, dy'.2.2 x = if x = a then 0 else dy.2.2 x) : (fun f' i' j' p' => match Nat.beq 9 f' && Nat.beq a i' && Nat.beq 0 j' with
    | true => none
    | false => RFq L dy f' i' j' p') = RFq L dy' := by
  funext f i j q
  by_cases h : f = 9 ∧ i = a ∧ j = 0
  · obtain ⟨rfl, rfl, rfl⟩ := h
    show (match Nat.beq 9 9 && Nat.beq i i && Nat.beq 0 0 with
      | true => none
      | false => _) = RFd L.1 dy' 9 i 0 q
    rw [mBeqT]
    show none = RFd L.1 dy' 9 i 0 q
    match q with
    | 0 =>
      show none = (match dy'.2.2 i with
        | 0 => none
        | v + 1 => some (9, v, 0))
      rw [h2, if_pos rfl]
    | k + 1 => rfl
  · have e : (Nat.beq 9 f && Nat.beq a i && Nat.beq 0 j) = false := by
      rw [Bool.eq_false_iff]
      intro e
      simp only [Bool.and_eq_true] at e
      exact h ⟨(Nat.eq_of_beq_eq_true e.1.1).symm, (Nat.eq_of_beq_eq_true e.1.2).symm, (Nat.eq_of_beq_eq_true e.2).symm⟩
    show (match Nat.beq 9 f && Nat.beq a i && Nat.beq 0 j with
      | true => none
      | false => RFq L dy f i j q) = _
    rw [e]
    refine rfq_ext fun e1 e2 => ?_
    rw [h2, if_neg (fun e3 => h ⟨e1, e3, e2⟩)]
/-! the steps -/
theorem Ok.newarr {D m pc kd : Nat} {L : mLb} {t : ArrayType} {z : Int32} {lo : mLo} {st : mSt} {mi : mMi} {rs : mRs} {K : mOut → mH → Prop} {k : Nat → mMi → mRs → mRz} (hcd : cd m pc = some (.newarray t)) (hk : mKind t = kd) (hl : Nat.blt kd 99 = true) (h : ∀ a mi rs, Ok (k a mi rs) L K (WP D m (pc + 2) lo (mR 9 a 0 :: st) (hq L mi rs) K)) :
    Ok (bN kd z mi rs k) L K (WP D m pc lo (mI z :: st) (hq L mi rs) K) := fun z' e kk => by
  unfold bN at e
  obtain ⟨g, e⟩ := mckO_some e
  rw [Bool.and_eq_true] at g
  obtain ⟨g1, g2⟩ := g
  obtain ⟨n, hn⟩ := h _ _ _ z' e kk
  refine ⟨n + 1, ?_⟩
  have hm : mNam rs.1 rs.2.2.1 = (9, rs.2.2.1, 0) := of_decide_eq_true g2
  have hg : (!(decide (z < 0)) && Nat.ble (mix z) 100000 && Nat.blt (mKind t) 99) = true := by rw [g1, hk, hl]; rfl
  have h0 : wp (n + 1) D m pc lo (mI z :: st) (hq L mi rs) K ↔ (match mNam rs.1 rs.2.2.1 with
      | (f, i, j) => mck (!(decide (z < 0)) && Nat.ble (mix z) 100000 && Nat.blt (mKind t) 99) (wp n D m (pc + 2) lo (mR f i j :: st) ((msset (SHq L rs.2.1) f i j (mKind t, mix z), RFq L rs.2.1), (mfill mi f i j (mix z) 0, (rs.1, rs.2.2.1 + 1, rs.2.2.2.1 + 1, rs.2.2.2.2 + mix z))) K)) := by
    show mexO (cd m pc) _ _ _ _ _ _ _ ↔ _
    rw [hcd]
    exact Iff.rfl
  rw [h0, hm]
  dsimp only
  rw [hg, shq_new (dy := rs.2.1) (a := rs.2.2.1) (kd := mKind t) (n := mix z) (dy' := (rsA rs kd (mix z) (mix z)).2.1) rfl (fun x => by rw [hk]; exact mUp_if)]
  have e2 : RFq L rs.2.1 = RFq L (rsA rs kd (mix z) (mix z)).2.1 := by
    funext f i j q
    exact rfq_ext fun _ _ => rfl
  rw [e2]
  exact hn
theorem wp_newobj {D m pc ix ci n : Nat} {L : mLb} {lo : mLo} {st : mSt} {mi : mMi} {rs : mRs} {K : mOut → mH → Prop} (hcd : cd m pc = some (.new ix)) (hN : mNew (mOwn m) ix = some (ci, n)) (hc : (Nat.ble 900 ci || Nat.beq ci 13) = false) (g : nOk rs = true) (h : WP D m (pc + 3) lo (mR 9 rs.2.2.1 0 :: st) (hq L (mfill mi 9 rs.2.2.1 0 n 0) (rsO rs ci n)) K) :
    WP D m pc lo st (hq L mi rs) K := by
  obtain ⟨q, dy, nx, c, s⟩ := rs
  rw [Bool.or_eq_false_iff] at hc
  have hm : mNam q nx = (9, nx, 0) := of_decide_eq_true g
  have hb : mNwb ci nx q = q := by
    unfold mNwb
    rw [hc.2]
  refine sStep (pc' := pc + 3) (lo' := lo) (st' := mR 9 nx 0 :: st) (h' := hq L (mfill mi 9 nx 0 n 0) (rsO (q, dy, nx, c, s) ci n)) hcd rfl (fun k => ?_) h
  unfold mx
  dsimp only [hq]
  rw [hN]
  dsimp only
  rw [hc.1]
  dsimp only
  rw [hb, hm]
  dsimp only
  rw [shq_new (dy := dy) (a := nx) (kd := ci) (n := 0) (dy' := (rsO (q, dy, nx, c, s) ci n).2.1) rfl (fun x => mUp_if)]
  exact congrArg (fun x : Nat → Nat → Nat → Nat → Option mRf => k (Sum.inl (pc + 3, lo, mR 9 nx 0 :: st, ((SHq L (rsO (q, dy, nx, c, s) ci n).2.1, x), (mfill mi 9 nx 0 n 0, (q, nx + 1, c + 1, s + n)))))) (rfq_new (L := L) (dy := dy) (a := nx) (dy' := (rsO (q, dy, nx, c, s) ci n).2.1) (fun x => mUp_if))
theorem Ok.newobj {D m pc ix ci n : Nat} {L : mLb} {lo : mLo} {st : mSt} {mi : mMi} {rs : mRs} {K : mOut → mH → Prop} {k : Nat → mMi → mRs → mRz} (hcd : cd m pc = some (.new ix)) (hN : mNew (mOwn m) ix = some (ci, n)) (hc : (Nat.ble 900 ci || Nat.beq ci 13) = false) (h : ∀ a mi rs, Ok (k a mi rs) L K (WP D m (pc + 3) lo (mR 9 a 0 :: st) (hq L mi rs) K)) :
    Ok (bNo ci n mi rs k) L K (WP D m pc lo st (hq L mi rs) K) := fun z' e kk => by
  unfold bNo at e
  obtain ⟨g, e⟩ := mckO_some e
  exact wp_newobj hcd hN hc g (h _ _ _ z' e kk)
theorem Ok.pv {D m pc ix ci a v : Nat} {fin : Bool} {L : mLb} {lo : mLo} {st : mSt} {mi : mMi} {rs : mRs} {K : mOut → mH → Prop} {k : mMi → mRs → mRz} (hcd : cd m pc = some (.putfield ix)) (hf : mFld (mOwn m) ix = some (ci, 0, 1, fin)) (hg : (!fin || (mInit m && Nat.beq (mOwn m) ci)) = true) (h : ∀ mi rs, Ok (k mi rs) L K (WP D m (pc + 3) lo st (hq L mi rs) K)) :
    Ok (bP ci a v mi rs k) L K (WP D m pc lo (mR 9 v 0 :: mR 9 a 0 :: st) (hq L mi rs) K) := fun z' e kk => by
  unfold bP at e
  obtain ⟨g, e⟩ := mckO_some e
  have hn := h _ _ z' e kk
  obtain ⟨q, dy, nx, c, s⟩ := rs
  refine sStep (pc' := pc + 3) (lo' := lo) (st' := st) (h' := hq L mi (rsV (q, dy, nx, c, s) a v)) hcd rfl (fun k => ?_) hn
  unfold mx
  dsimp only [hq]
  rw [hf]
  dsimp only
  have g2 : (mIsObj (SHq L dy 9 a 0) ci && (!fin || (mInit m && Nat.beq (mOwn m) ci)) && Nat.beq 1 1) = true := by
    rw [hg]
    show (mIsObj (dy.2.1 a) ci && true && true) = true
    have g : mIsObj (dy.2.1 a) ci = true := g
    rw [g]
    rfl
  rw [g2, rfq_set]
  have e2 : SHq L dy = SHq L (rsV (q, dy, nx, c, s) a v).2.1 := by
    funext f i j
    exact shq_ext rfl fun _ _ => rfl
  rw [e2]
  rfl
theorem Ok.clone {D m pc ix a : Nat} {L : mLb} {lo : mLo} {st : mSt} {mi : mMi} {rs : mRs} {K : mOut → mH → Prop} {k : Nat → mMi → mRs → mRz} (hcd : cd m pc = some (.invokevirtual ix)) (hm : mMet (mOwn m) ix = some (1010, 1)) (hst : mDeep st = true) (h : ∀ a mi rs, Ok (k a mi rs) L K (WP D m (pc + 3) lo (mR 9 a 0 :: st) (hq L mi rs) K)) :
    Ok (bC a mi rs k) L K (WP D m pc lo (mR 9 a 0 :: st) (hq L mi rs) K) := fun z' e kk => by
  unfold bC at e
  cases hd : rs.2.1.2.1 a with
  | none => rw [hd] at e; cases e
  | some p =>
    obtain ⟨kd, l⟩ := p
    rw [hd] at e
    dsimp only at e
    obtain ⟨g, e⟩ := mckO_some e
    rw [Bool.and_eq_true] at g
    obtain ⟨g1, g2⟩ := g
    have hn := h _ _ _ z' e kk
    obtain ⟨q, dy, nx, c, s⟩ := rs
    have hq' : mNam q nx = (9, nx, 0) := of_decide_eq_true g2
    have hd : dy.2.1 a = some (kd, l) := hd
    refine sStepC (pc' := pc + 3) (lo' := lo) (st' := mR 9 nx 0 :: st) (h' := hq L (mcopy mi 9 a 0 0 9 nx 0 0 l) (rsA (q, dy, nx, c, s) 22 l l)) hcd rfl (fun k => ?_) hn
    unfold mxC
    dsimp only
    rw [hm]
    show mxK 1010 pc lo (mR 9 a 0 :: st) (hq L mi (q, dy, nx, c, s)) k = _
    unfold mxK
    dsimp only [hq]
    have hs : SHq L dy 9 a 0 = some (kd, l) := hd
    rw [hs]
    dsimp only
    rw [hq']
    dsimp only
    have g3 : (Nat.beq 1010 1010 && Nat.beq kd 22 && Nat.ble l 100000 && mByteOk mi 9 a 0 0 l && mDeep st) = true := by
      rw [hst]
      show (Nat.beq kd 22 && Nat.ble l 100000 && mByteOk mi 9 a 0 0 l && true) = true
      rw [g1]
      rfl
    rw [g3, shq_new (dy := dy) (a := nx) (kd := 22) (n := l) (dy' := (rsA (q, dy, nx, c, s) 22 l l).2.1) rfl (fun x => mUp_if)]
    have e2 : RFq L dy = RFq L (rsA (q, dy, nx, c, s) 22 l l).2.1 := by
      funext f i j q
      exact rfq_ext fun _ _ => rfl
    rw [e2]
    rfl
theorem Ok.gvf {D m pc ix ci a : Nat} {fin : Bool} {L : mLb} {lo : mLo} {st : mSt} {mi : mMi} {rs : mRs} {K : mOut → mH → Prop} {F : Nat → mRz} (hcd : cd m pc = some (.getfield ix)) (hf : mFld (mOwn m) ix = some (ci, 0, 1, fin)) (h : ∀ v, Ok (F v) L K (WP D m (pc + 3) lo (mR 9 v 0 :: st) (hq L mi rs) K)) :
    Ok (mckO (mIsObj (rs.2.1.2.1 a) ci) (mGwO (rs.2.1.2.2 a) F)) L K (WP D m pc lo (mR 9 a 0 :: st) (hq L mi rs) K) := fun z e kk => by
  obtain ⟨g, e⟩ := mckO_some e
  cases hv : rs.2.1.2.2 a with
  | zero => rw [hv] at e; cases e
  | succ v =>
    rw [hv] at e
    have hn := h v z e kk
    obtain ⟨q, dy, nx, c, s⟩ := rs
    refine sStep (pc' := pc + 3) (lo' := lo) (st' := mR 9 v 0 :: st) (h' := hq L mi (q, dy, nx, c, s)) hcd rfl (fun k => ?_) hn
    unfold mx
    dsimp only [hq]
    rw [hf]
    dsimp only
    have g : mIsObj (SHq L dy 9 a 0) ci = true := g
    have hr : RFq L dy 9 a 0 0 = some (9, v, 0) := by
      show (match dy.2.2 a with
        | 0 => none
        | v + 1 => some (9, v, 0)) = _
      have hv : dy.2.2 a = v + 1 := hv
      rw [hv]
    rw [g, hr]
    rfl
