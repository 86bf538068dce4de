/-! WHAT MAKES CELLS, and references as answers, as functions. -/
/-- an object of class ci with n fields is made -/
def rsO (rs : mRs) (ci n : Nat) : mRs := (rs.1, (rs.2.1.1, (fun a => match Nat.beq rs.2.2.1 a with
  | true => some (ci, 0)
  | false => rs.2.1.2.1 a), (fun a => match Nat.beq rs.2.2.1 a with
  | true => 0
  | false => rs.2.1.2.2 a)), rs.2.2.1 + 1, rs.2.2.2.1 + 1, rs.2.2.2.2 + n)
/-- a text's row is laid -/
def rsV (rs : mRs) (a v : Nat) : mRs := (rs.1, dyV rs.2.1 a (v + 1), rs.2.2)
def bR (r : mRz) (k : Nat → mMi → mRs → mRz) : mRz := match r with
  | some (.inl (some (.inr (.inl (some q)))), mi, rs) => mckO (decide (q = (9, q.2.1, 0))) (k q.2.1 mi rs)
  | some (.inr E, mi, rs) => some (.inr E, mi, rs)
  | _ => none
def bL (r : mRz) (k : Int64 → mMi → mRs → mRz) : mRz := match r with
  | some (.inl (some (.inr (.inr (.inl v)))), mi, rs) => k v mi rs
  | some (.inr E, mi, rs) => some (.inr E, mi, rs)
  | _ => none
def bO (x : Option (Nat × mMi × mRs)) (k : Nat → mMi → mRs → mRz) : mRz := match x with
  | some (a, mi, rs) => k a mi rs
  | none => none
def bN (kd : Nat) (z : Int32) (mi : mMi) (rs : mRs) (k : Nat → mMi → mRs → mRz) : mRz := mckO ((!(decide (z < 0)) && Nat.ble (mix z) 100000) && nOk rs) (k rs.2.2.1 (mfill mi 9 rs.2.2.1 0 (mix z) 0) (rsA rs kd (mix z) (mix z)))
def bNo (ci n : Nat) (mi : mMi) (rs : mRs) (k : Nat → mMi → mRs → mRz) : mRz := mckO (nOk rs) (k rs.2.2.1 (mfill mi 9 rs.2.2.1 0 n 0) (rsO rs ci n))
def bP (ci a v : Nat) (mi : mMi) (rs : mRs) (k : mMi → mRs → mRz) : mRz := mckO (mIsObj (rs.2.1.2.1 a) ci) (k mi (rsV rs a v))
def bC (a : Nat) (mi : mMi) (rs : mRs) (k : Nat → mMi → mRs → mRz) : mRz := match rs.2.1.2.1 a with
  | some (kd, n) => mckO ((Nat.beq kd 22 && Nat.ble n 100000 && mByteOk mi 9 a 0 0 n) && nOk rs) (k rs.2.2.1 (mcopy mi 9 a 0 0 9 rs.2.2.1 0 0 n) (rsA rs 22 n n))
  | none => none
def mLnO (o : Option (Nat × Nat)) (F : Nat → mRz) : mRz := match o with
  | some (kd, n) => mckO (Nat.blt 19 kd) (F n)
  | none => none
def mGvO (v : Nat) (F : Nat → mRz) : mRz := match v with
  | 0 => none
  | v + 1 => F v
theorem bR_some {r : mRz} {k : Nat → mMi → mRs → mRz} {z : mZ3} (h : bR r k = some z) : (∃ a mi rs, r = some (.inl (some (mR 9 a 0)), mi, rs) ∧ k a mi rs = some z) ∨ ∃ E mi rs, r = some (.inr E, mi, rs) ∧ z = (.inr E, mi, rs) := by
  unfold bR at h
  split at h
  · rename_i q mi rs
    obtain ⟨g, h2⟩ := mckO_some h
    refine Or.inl ⟨q.2.1, mi, rs, ?_, h2⟩
    have e : q = (9, q.2.1, 0) := of_decide_eq_true g
    show some (Sum.inl (some (.inr (.inl (some q)))), mi, rs) = some (Sum.inl (some (.inr (.inl (some (9, q.2.1, 0))))), mi, rs)
    rw [← e]
  · cases h; exact Or.inr ⟨_, _, _, rfl, rfl⟩
  · cases h
theorem bL_some {r : mRz} {k : Int64 → mMi → mRs → mRz} {z : mZ3} (h : bL r k = some z) : (∃ v mi rs, r = some (.inl (some (mL v)), mi, rs) ∧ k v mi rs = some z) ∨ ∃ E mi rs, r = some (.inr E, mi, rs) ∧ z = (.inr E, mi, rs) := by
  unfold bL at h
  split at h
  · exact Or.inl ⟨_, _, _, rfl, h⟩
  · cases h; exact Or.inr ⟨_, _, _, rfl, rfl⟩
  · cases h
theorem Ok.callR {r : mRz} {k : Nat → mMi → mRs → mRz} {L : mLb} {D d n pc y : Nat} {as : List mV} {lo : mLo} {st : mSt} {mi : mMi} {rs : mRs} {K : mOut → mH → Prop} (hR : Does y as L mi rs r d) (hD : d ≤ D) (hk : ∀ a mi rs, Ok (k a mi rs) L K (WP (D + 1) n pc lo (mR 9 a 0 :: st) (hq L mi rs) K)) :
    Ok (bR r k) L K (WP D y 0 (mEntry y as) [] (hq L mi rs) (Bk (D + 1) n pc lo st K)) := fun z e kk => by
  rcases bR_some e with ⟨v, m1, r1, e1, e2⟩ | ⟨E, m1, r1, e1, rfl⟩
  · exact hR _ e1 D _ hD (hk v m1 r1 z e2 kk)
  · exact hR _ e1 D _ hD kk
theorem Ok.callL {r : mRz} {k : Int64 → mMi → mRs → mRz} {L : mLb} {D d n pc y : Nat} {as : List mV} {lo : mLo} {st : mSt} {mi : mMi} {rs : mRs} {K : mOut → mH → Prop} (hR : Does y as L mi rs r d) (hD : d ≤ D) (hk : ∀ v mi rs, Ok (k v mi rs) L K (WP (D + 1) n pc lo (mL v :: st) (hq L mi rs) K)) :
    Ok (bL r k) L K (WP D y 0 (mEntry y as) [] (hq L mi rs) (Bk (D + 1) n pc lo st K)) := fun z e kk => by
  rcases bL_some e with ⟨v, m1, r1, e1, e2⟩ | ⟨E, m1, r1, e1, rfl⟩
  · exact hR _ e1 D _ hD (hk v m1 r1 z e2 kk)
  · exact hR _ e1 D _ hD kk
theorem Ok.ln {o : Option (Nat × Nat)} {F : Nat → mRz} {G : Nat → Prop} {L : mLb} {K : mOut → mH → Prop} (h : ∀ n, Ok (F n) L K (G n)) : Ok (mLnO o F) L K (mLn o G) := by
  rcases o with _ | ⟨kd, n⟩
  · exact Ok.no
  · exact Ok.gd (h n)
theorem Ok.gv {v : Nat} {F : Nat → mRz} {G : Nat → Prop} {L : mLb} {K : mOut → mH → Prop} (h : ∀ n, Ok (F n) L K (G n)) : Ok (mGvO v F) L K (mGv v G) := by
  cases v with
  | zero => exact Ok.no
  | succ v => exact h v
/-! memories behind a making -/
theorem shq_ext {L : mLb} {f i j : Nat} {dy dy' : mDy} (h1 : dy.1 = dy'.1) (h2 : f = 9 → j = 0 → dy.2.1 i = dy'.2.1 i) : SHq L dy f i j = SHq L dy' f i j := by
  unfold SHq
  rw [SHd_ext (b := L.1) (L := L.2.1) h1 h2]
theorem shq_at {L : mLb} {i j : Nat} {dy : mDy} : SHq L dy 9 i j = SHd L.1 L.2.1 dy 9 i j := rfl
theorem shq_new {L : mLb} {kd n : Nat} {dy dy' : mDy} {a : Nat} (h1 : dy'.1 = dy.1) (h2 : ∀ x, dy'.2.1 x = if x = a then some (kd, n) else dy.2.1 x) : msset (SHq L dy) 9 a 0 (kd, n) = SHq L dy' := by
  funext f i j
  by_cases h : f = 9 ∧ i = a ∧ j = 0
  · obtain ⟨rfl, rfl, rfl⟩ := h
    rw [msset_at]
    show some (kd, n) = dy'.2.1 i
    rw [h2, if_pos rfl]
  · rw [msset_ne h]
    refine shq_ext h1.symm fun e1 e2 => ?_
    rw [h2, if_neg (fun e => h ⟨e1, e, e2⟩)]
theorem mUp_if {α : Type} {a x : Nat} {u v : α} : (match Nat.beq a x with
  | true => u
  | false => v) = if x = a then u else v := by
  by_cases h : x = a
  · rw [if_pos h, h, Nat.beq_refl]
  · rw [if_neg h, mBeqF h]
theorem rfq_ext {L : mLb} {f i j q : Nat} {dy dy' : mDy} (h2 : f = 9 → j = 0 → dy.2.2 i = dy'.2.2 i) : RFq L dy f i j q = RFq L dy' f i j q := by
  unfold RFq
  rw [RFd_ext (b := L.1) (f := f) (i := i) (j := j) (q := q) h2]
theorem rfq_set {L : mLb} {a v : Nat} {dy : mDy} : mrset (RFq L dy) 9 a 0 0 (some (9, v, 0)) = RFq L (dyV dy a (v + 1)) := by
  funext f i j q
  by_cases h : f = 9
  · subst h
    have e := congrFun (congrFun (congrFun (congrFun (rfV (b := L.1) (a := a) (v := v) (dy := dy)) 9) i) j) q
    exact e
  · rw [mrset_ne (fun e => h e.1)]
    exact rfq_ext fun e1 _ => absurd e1 h
theorem rfq_new {L : mLb} {a : Nat} {dy dy' : mDy} (h2 : ∀ x, dy'.2.2 x = if x = a then 0 else dy.2.2 x) : (fun f' i' j' p' => match Nat.beq 9 f' && Nat.beq a i' && Nat.beq 0 j' with
    | true => none
    | false => RFq L dy f' i' j' p') = RFq L dy' := by
  funext f i j q
  by_cases h : f = 9 ∧ i = a ∧ j = 0
  · obtain ⟨rfl, rfl, rfl⟩ := h
    show (match Nat.beq 9 9 && Nat.beq i i && Nat.beq 0 0 with
      | true => none
      | false => _) = RFd L.1 dy' 9 i 0 q
    rw [mBeqT]
    show none = RFd L.1 dy' 9 i 0 q
    match q with
    | 0 =>
      show none = (match dy'.2.2 i with
        | 0 => none
        | v + 1 => some (9, v, 0))
      rw [h2, if_pos rfl]
    | k + 1 => rfl
  · have e : (Nat.beq 9 f && Nat.beq a i && Nat.beq 0 j) = false := by
      rw [Bool.eq_false_iff]
      intro e
      simp only [Bool.and_eq_true] at e
      exact h ⟨(Nat.eq_of_beq_eq_true e.1.1).symm, (Nat.eq_of_beq_eq_true e.1.2).symm, (Nat.eq_of_beq_eq_true e.2).symm⟩
    show (match Nat.beq 9 f && Nat.beq a i && Nat.beq 0 j with
      | true => none
      | false => RFq L dy f i j q) = _
    rw [e]
    refine rfq_ext fun e1 e2 => ?_
    rw [h2, if_neg (fun e3 => h ⟨e1, e3, e2⟩)]
/-! the steps -/
theorem Ok.newarr {D m pc kd : Nat} {L : mLb} {t : ArrayType} {z : Int32} {lo : mLo} {st : mSt} {mi : mMi} {rs : mRs} {K : mOut → mH → Prop} {k : Nat → mMi → mRs → mRz} (hcd : cd m pc = some (.newarray t)) (hk : mKind t = kd) (hl : Nat.blt kd 99 = true) (h : ∀ a mi rs, Ok (k a mi rs) L K (WP D m (pc + 2) lo (mR 9 a 0 :: st) (hq L mi rs) K)) :
    Ok (bN kd z mi rs k) L K (WP D m pc lo (mI z :: st) (hq L mi rs) K) := fun z' e kk => by
  unfold bN at e
  obtain ⟨g, e⟩ := mckO_some e
  rw [Bool.and_eq_true] at g
  obtain ⟨g1, g2⟩ := g
  obtain ⟨n, hn⟩ := h _ _ _ z' e kk
  refine ⟨n + 1, ?_⟩
  have hm : mNam rs.1 rs.2.2.1 = (9, rs.2.2.1, 0) := of_decide_eq_true g2
  have hg : (!(decide (z < 0)) && Nat.ble (mix z) 100000 && Nat.blt (mKind t) 99) = true := by rw [g1, hk, hl]; rfl
  have h0 : wp (n + 1) D m pc lo (mI z :: st) (hq L mi rs) K ↔ (match mNam rs.1 rs.2.2.1 with
      | (f, i, j) => mck (!(decide (z < 0)) && Nat.ble (mix z) 100000 && Nat.blt (mKind t) 99) (wp n D m (pc + 2) lo (mR f i j :: st) ((msset (SHq L rs.2.1) f i j (mKind t, mix z), RFq L rs.2.1), (mfill mi f i j (mix z) 0, (rs.1, rs.2.2.1 + 1, rs.2.2.2.1 + 1, rs.2.2.2.2 + mix z))) K)) := by
    show mexO (cd m pc) _ _ _ _ _ _ _ ↔ _
    rw [hcd]
    exact Iff.rfl
  rw [h0, hm]
  dsimp only
  rw [hg, shq_new (dy := rs.2.1) (a := rs.2.2.1) (kd := mKind t) (n := mix z) (dy' := (rsA rs kd (mix z) (mix z)).2.1) rfl (fun x => by rw [hk]; exact mUp_if)]
  have e2 : RFq L rs.2.1 = RFq L (rsA rs kd (mix z) (mix z)).2.1 := by
    funext f i j q
    exact rfq_ext fun _ _ => rfl
  rw [e2]
  exact hn
theorem wp_newobj {D m pc ix ci n : Nat} {L : mLb} {lo : mLo} {st : mSt} {mi : mMi} {rs : mRs} {K : mOut → mH → Prop} (hcd : cd m pc = some (.new ix)) (hN : mNew (mOwn m) ix = some (ci, n)) (hc : (Nat.ble 900 ci || Nat.beq ci 13) = false) (g : nOk rs = true) (h : WP D m (pc + 3) lo (mR 9 rs.2.2.1 0 :: st) (hq L (mfill mi 9 rs.2.2.1 0 n 0) (rsO rs ci n)) K) :
    WP D m pc lo st (hq L mi rs) K := by
  obtain ⟨n', hn⟩ := h
  refine ⟨n' + 1, ?_⟩
  rw [Bool.or_eq_false_iff] at hc
  have hm : mNam rs.1 rs.2.2.1 = (9, rs.2.2.1, 0) := of_decide_eq_true g
  have hb : mNwb ci rs.2.2.1 rs.1 = rs.1 := by
    unfold mNwb
    rw [hc.2]
  have h0 : wp (n' + 1) D m pc lo st (hq L mi rs) K ↔ (match mNew (mOwn m) ix with
      | some (ci, n) => match Nat.ble 900 ci with
        | true => mck (mDeep st) (K (.inr (ci - 900)) ((SHq L rs.2.1, RFq L rs.2.1), (mi, (rs.1, rs.2.2.1 + 1, rs.2.2.2.1 + 1, rs.2.2.2.2 + 6))))
        | false => match mNam (mNwb ci rs.2.2.1 rs.1) rs.2.2.1 with
          | (f, i, j) => wp n' D m (pc + 3) lo (mR f i j :: st) ((msset (SHq L rs.2.1) f i j (ci, 0), fun f' i' j' p' => match Nat.beq f f' && Nat.beq i i' && Nat.beq j j' with
            | true => none
            | false => RFq L rs.2.1 f' i' j' p'), (mfill mi f i j n 0, (mNwb ci rs.2.2.1 rs.1, rs.2.2.1 + 1, rs.2.2.2.1 + 1, rs.2.2.2.2 + n))) K
      | none => False) := by
    show mexO (cd m pc) _ _ _ _ _ _ _ ↔ _
    rw [hcd]
    exact Iff.rfl
  rw [h0, hN]
  dsimp only
  rw [hc.1]
  dsimp only
  rw [hb, hm]
  dsimp only
  rw [shq_new (dy := rs.2.1) (a := rs.2.2.1) (kd := ci) (n := 0) (dy' := (rsO rs ci n).2.1) rfl (fun x => mUp_if), rfq_new (dy := rs.2.1) (a := rs.2.2.1) (dy' := (rsO rs ci n).2.1) (fun x => mUp_if)]
  exact hn
theorem Ok.newobj {D m pc ix ci n : Nat} {L : mLb} {lo : mLo} {st : mSt} {mi : mMi} {rs : mRs} {K : mOut → mH → Prop} {k : Nat → mMi → mRs → mRz} (hcd : cd m pc = some (.new ix)) (hN : mNew (mOwn m) ix = some (ci, n)) (hc : (Nat.ble 900 ci || Nat.beq ci 13) = false) (h : ∀ a mi rs, Ok (k a mi rs) L K (WP D m (pc + 3) lo (mR 9 a 0 :: st) (hq L mi rs) K)) :
    Ok (bNo ci n mi rs k) L K (WP D m pc lo st (hq L mi rs) K) := fun z' e kk => by
  unfold bNo at e
  obtain ⟨g, e⟩ := mckO_some e
  exact wp_newobj hcd hN hc g (h _ _ _ z' e kk)
theorem Ok.pv {D m pc ix ci a v : Nat} {fin : Bool} {L : mLb} {lo : mLo} {st : mSt} {mi : mMi} {rs : mRs} {K : mOut → mH → Prop} {k : mMi → mRs → mRz} (hcd : cd m pc = some (.putfield ix)) (hf : mFld (mOwn m) ix = some (ci, 0, 1, fin)) (hg : (!fin || (mInit m && Nat.beq (mOwn m) ci)) = true) (h : ∀ mi rs, Ok (k mi rs) L K (WP D m (pc + 3) lo st (hq L mi rs) K)) :
    Ok (bP ci a v mi rs k) L K (WP D m pc lo (mR 9 v 0 :: mR 9 a 0 :: st) (hq L mi rs) K) := fun z' e kk => by
  unfold bP at e
  obtain ⟨g, e⟩ := mckO_some e
  obtain ⟨n', hn⟩ := h _ _ z' e kk
  refine ⟨n' + 1, ?_⟩
  have h0 : wp (n' + 1) D m pc lo (mR 9 v 0 :: mR 9 a 0 :: st) (hq L mi rs) K ↔ (match mFld (mOwn m) ix with
      | some (ci, q, kd, fin) => mck (mIsObj (SHq L rs.2.1 9 a 0) ci && (!fin || (mInit m && Nat.beq (mOwn m) ci)) && Nat.beq kd 1) (wp n' D m (pc + 3) lo st ((SHq L rs.2.1, mrset (RFq L rs.2.1) 9 a 0 q (some (9, v, 0))), (mi, (rs.1, rs.2.2))) K)
      | none => False) := by
    show mexO (cd m pc) _ _ _ _ _ _ _ ↔ _
    rw [hcd]
    exact Iff.rfl
  rw [h0, hf]
  dsimp only
  have g2 : (mIsObj (SHq L rs.2.1 9 a 0) ci && (!fin || (mInit m && Nat.beq (mOwn m) ci)) && Nat.beq 1 1) = true := by
    rw [hg]
    show (mIsObj (rs.2.1.2.1 a) ci && true && true) = true
    rw [g]
    rfl
  rw [g2, rfq_set]
  have e2 : SHq L rs.2.1 = SHq L (rsV rs a v).2.1 := by
    funext f i j
    exact shq_ext rfl fun _ _ => rfl
  rw [e2]
  exact hn
theorem Ok.clone {D m pc ix a : Nat} {L : mLb} {lo : mLo} {st : mSt} {mi : mMi} {rs : mRs} {K : mOut → mH → Prop} {k : Nat → mMi → mRs → mRz} (hcd : cd m pc = some (.invokevirtual ix)) (hm : mMet (mOwn m) ix = some (1010, 1)) (hst : mDeep st = true) (h : ∀ a mi rs, Ok (k a mi rs) L K (WP D m (pc + 3) lo (mR 9 a 0 :: st) (hq L mi rs) K)) :
    Ok (bC a mi rs k) L K (WP D m pc lo (mR 9 a 0 :: st) (hq L mi rs) K) := fun z' e kk => by
  unfold bC at e
  cases hd : rs.2.1.2.1 a with
  | none => rw [hd] at e; cases e
  | some p =>
    obtain ⟨kd, l⟩ := p
    rw [hd] at e
    dsimp only at e
    obtain ⟨g, e⟩ := mckO_some e
    rw [Bool.and_eq_true] at g
    obtain ⟨g1, g2⟩ := g
    obtain ⟨n', hn⟩ := h _ _ _ z' e kk
    refine ⟨n' + 1, ?_⟩
    have hq' : mNam rs.1 rs.2.2.1 = (9, rs.2.2.1, 0) := of_decide_eq_true g2
    have h0 : wp (n' + 1) D m pc lo (mR 9 a 0 :: st) (hq L mi rs) K ↔ (match mMet (mOwn m) ix with
        | some (y, n) => match Nat.ble 1000 y with
          | true => (match SHq L rs.2.1 9 a 0 with
            | some (kd, l) => match mNam rs.1 rs.2.2.1 with
              | (f2, i2, j2) => mck (Nat.beq y 1010 && Nat.beq kd 22 && Nat.ble l 100000 && mByteOk mi 9 a 0 0 l && mDeep st) (wp n' D m (pc + 3) lo (mR f2 i2 j2 :: st) ((msset (SHq L rs.2.1) f2 i2 j2 (22, l), RFq L rs.2.1), (mcopy mi 9 a 0 0 f2 i2 j2 0 l, (rs.1, rs.2.2.1 + 1, rs.2.2.2.1 + 1, rs.2.2.2.2 + l))) K)
            | none => False)
          | false => mxV (mOwn m) y n pc lo (mR 9 a 0 :: st) (hq L mi rs) (fun x => match x with
            | .inl (pc', lo', st', h') => wp n' D m pc' lo' st' h' K
            | .inr (.inl (r, h')) => K r h'
            | .inr (.inr (y, args, pc', lo', st', h')) => mck (mAll1 args) (match D with
              | 0 => False
              | D' + 1 => wp n' D' y 0 (mEntry y args) [] h' (fun r h2 => match r with
                | .inl v => wp n' (D' + 1) m pc' lo' (v.toList ++ st') h2 K
                | .inr E => match mHnd m pc E with
                  | none => K (.inr E) h2
                  | some (pc2, i) => mck (Nat.blt i lo'.length && mOkSt lo' i) (wp n' (D' + 1) m pc2 (lo'.set i none) [] h2 K))))
        | none => False) := by
      show mexO (cd m pc) _ _ _ _ _ _ _ ↔ _
      rw [hcd]
      exact Iff.rfl
    rw [h0, hm]
    dsimp only
    show (match rs.2.1.2.1 a with
      | some (kd, l) => match mNam rs.1 rs.2.2.1 with
        | (f2, i2, j2) => mck (Nat.beq 1010 1010 && Nat.beq kd 22 && Nat.ble l 100000 && mByteOk mi 9 a 0 0 l && mDeep st) (wp n' D m (pc + 3) lo (mR f2 i2 j2 :: st) ((msset (SHq L rs.2.1) f2 i2 j2 (22, l), RFq L rs.2.1), (mcopy mi 9 a 0 0 f2 i2 j2 0 l, (rs.1, rs.2.2.1 + 1, rs.2.2.2.1 + 1, rs.2.2.2.2 + l))) K)
      | none => False)
    rw [hd, hq']
    dsimp only
    have g3 : (Nat.beq 1010 1010 && Nat.beq kd 22 && Nat.ble l 100000 && mByteOk mi 9 a 0 0 l && mDeep st) = true := by
      rw [hst]
      show (Nat.beq kd 22 && Nat.ble l 100000 && mByteOk mi 9 a 0 0 l && true) = true
      rw [g1]
      rfl
    rw [g3, shq_new (dy := rs.2.1) (a := rs.2.2.1) (kd := 22) (n := l) (dy' := (rsA rs 22 l l).2.1) rfl (fun x => mUp_if)]
    have e2 : RFq L rs.2.1 = RFq L (rsA rs 22 l l).2.1 := by
      funext f i j q
      exact rfq_ext fun _ _ => rfl
    rw [e2]
    exact hn
