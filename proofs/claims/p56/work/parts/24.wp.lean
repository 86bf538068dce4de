/-! RUNS OF THE SMALL MACHINE, BY BLOCKS. -/
theorem wp_succ : ∀ {n D m pc : Nat} {lo : mLo} {st : mSt} {h : mH} {P : mOut → mH → Prop}, wp n D m pc lo st h P → wp (n + 1) D m pc lo st h P := by
  intro n
  induction n with
  | zero => intro D m pc lo st h P hw; exact hw.elim
  | succ n ih =>
    intro D m pc lo st h P hw
    obtain ⟨x, hx, hk⟩ := mex_iff.mp hw
    refine mex_iff.mpr ⟨x, hx, ?_⟩
    rcases x with ⟨pc', lo', st', h'⟩ | ⟨r, h'⟩ | ⟨y, args, pc', lo', st', h'⟩
    · exact ih hk
    · exact hk
    · dsimp only at hk ⊢
      rw [mck_iff] at hk ⊢
      refine ⟨hk.1, ?_⟩
      have hk := hk.2
      cases D with
      | zero => exact hk.elim
      | succ D' =>
        obtain ⟨r, h2, a1, -, -, a4⟩ := wp_det hk
        refine ih (a4 _ ?_)
        cases r with
        | inl v => exact ih a1
        | inr E =>
          dsimp only at a1 ⊢
          cases hh : mHnd m pc E with
          | none => rw [hh] at a1; exact a1
          | some q =>
            obtain ⟨pc2, i⟩ := q
            rw [hh] at a1
            dsimp only at a1 ⊢
            rw [mck_iff] at a1 ⊢
            exact ⟨a1.1, ih a1.2⟩
theorem wp_le {n k D m pc : Nat} {lo : mLo} {st : mSt} {h : mH} {P : mOut → mH → Prop} (hw : wp n D m pc lo st h P) (hk : n ≤ k) : wp k D m pc lo st h P := by
  induction k with
  | zero => rw [Nat.le_zero.mp hk] at hw; exact hw
  | succ k ih =>
    rcases Nat.lt_or_eq_of_le hk with h1 | h1
    · exact wp_succ (ih (Nat.le_of_lt_succ h1))
    · rw [h1] at hw; exact hw
/-- k steps ahead -/
theorem WP_k (k : Nat) {D m pc : Nat} {lo : mLo} {st : mSt} {h : mH} {K : mOut → mH → Prop} : WP D m pc lo st h K ↔ ∃ n, wp (n + k) D m pc lo st h K :=
  ⟨fun ⟨n, hn⟩ => ⟨n, wp_le hn (Nat.le_add_right n k)⟩, fun ⟨n, hn⟩ => ⟨n + k, hn⟩⟩
theorem ex_mck {b : Bool} {P : Nat → Prop} : (∃ n, mck b (P n)) ↔ mck b (∃ n, P n) := by
  cases b
  · exact ⟨fun ⟨_, h⟩ => h, fun h => h.elim⟩
  · exact Iff.rfl
theorem ex_mif {b : Bool} {P Q : Nat → Prop} : (∃ n, mif b (P n) (Q n)) ↔ mif b (∃ n, P n) (∃ n, Q n) := by
  cases b <;> exact Iff.rfl
theorem mck_c {b : Bool} {P Q : Prop} (h : P ↔ Q) : mck b P ↔ mck b Q := by
  cases b
  · exact Iff.rfl
  · exact h
theorem mif_c {b : Bool} {P Q P' Q' : Prop} (h : P ↔ P') (h' : Q ↔ Q') : mif b P Q ↔ mif b P' Q' := by
  cases b
  · exact h'
  · exact h
theorem ex_one {P : Prop} : (∃ _ : Nat, P) ↔ P := ⟨fun ⟨_, h⟩ => h, fun h => ⟨0, h⟩⟩
/-- a call, and what comes behind it -/
theorem ex_call {D y : Nat} {lo : mLo} {h : mH} {F : Nat → mOut → mH → Prop} (hF : ∀ n r h', F n r h' → ∀ k, n ≤ k → F k r h') : (∃ n, wp n D y 0 lo [] h (F n)) ↔ WP D y 0 lo [] h (fun r h' => ∃ n, F n r h') := by
  constructor
  · rintro ⟨n, hn⟩
    obtain ⟨r, h', a1, -, -, a4⟩ := wp_det hn
    exact ⟨n, a4 _ ⟨n, a1⟩⟩
  · rintro ⟨n, hn⟩
    obtain ⟨r, h', ⟨k, a1⟩, -, -, a4⟩ := wp_det hn
    refine ⟨max n k, wp_le (a4 _ ?_) (Nat.le_max_left n k)⟩
    exact hF _ _ _ a1 _ (Nat.le_max_right n k)
/-- behind a call, in a method with no handler there -/
def Bk (D m pc : Nat) (lo : mLo) (st : mSt) (K : mOut → mH → Prop) : mOut → mH → Prop := fun r h2 => match r with
  | .inl v => WP D m pc lo (v.toList ++ st) h2 K
  | .inr E => K (.inr E) h2
def Bkn (n D m pc : Nat) (lo : mLo) (st : mSt) (K : mOut → mH → Prop) : mOut → mH → Prop := fun r h2 => match r with
  | .inl v => wp n D m pc lo (v.toList ++ st) h2 K
  | .inr E => K (.inr E) h2
theorem ex_Bk {D D' m pc y : Nat} {lo lo' : mLo} {st : mSt} {h : mH} {K : mOut → mH → Prop} : (∃ n, wp n D' y 0 lo' [] h (Bkn n D m pc lo st K)) ↔ WP D' y 0 lo' [] h (Bk D m pc lo st K) := by
  refine (ex_call (F := fun n => Bkn n D m pc lo st K) fun n r h' hw k hk => ?_).trans ?_
  · cases r with
    | inl v => exact wp_le hw hk
    | inr E => exact hw
  · have e : (fun r h' => ∃ n, Bkn n D m pc lo st K r h') = Bk D m pc lo st K := by
      funext r h'
      cases r with
      | inl v => rfl
      | inr E => exact propext ex_one
    rw [e]
/-- what a method does: on as, over the memory h, the outcome o and the memory h', in depth d -/
def Run (y : Nat) (as : List mV) (h : mH) (o : mOut) (h' : mH) (d : Nat) : Prop := ∀ (D : Nat) (K : mOut → mH → Prop), d ≤ D → K o h' → WP D y 0 (mEntry y as) [] h K
theorem Run.up {y d d' : Nat} {as : List mV} {h h' : mH} {o : mOut} (hr : Run y as h o h' d) (hd : d ≤ d') : Run y as h o h' d' := fun D K hD hK => hr D K (Nat.le_trans hd hD) hK
/-- no long, no double -/
def mC2 (l : Option mV) : Bool := !(mCat2 (some l))
def mUpdD (md : Nat → UInt64) (k : Nat) (v : UInt64) : Nat → UInt64 := fun p => match Nat.beq k p with
  | true => v
  | false => md p
theorem ex_mifF {b : Bool} {P : Nat → Prop} : (∃ n : Nat, mif b (P n) False) ↔ mif b (∃ n, P n) False := by
  cases b
  · exact ex_one
  · exact Iff.rfl
theorem mif_F {b : Bool} {P Q : Prop} (h : P ↔ Q) : mif b P False ↔ mif b Q False := by
  cases b
  · exact Iff.rfl
  · exact h
/-- an array's reference, taken out -/
def mAa (o : Option mRf) (F : mRf → Prop) : Prop := match o with
  | some r => F r
  | none => False
theorem ex_aa {o : Option mRf} {F : Nat → mRf → Prop} : (∃ n, mAa o (F n)) ↔ mAa o (fun r => ∃ n, F n r) := by
  cases o
  · exact ex_one
  · exact Iff.rfl
def mTsw (x : Int32) (pc : Nat) (d lw hi : Int) (offs : Array Int) (F : Nat → Prop) : Prop :=
  mif (decide (x.toInt < lw) || decide (hi < x.toInt)) (mck (mFw pc d) (F (mTgt pc d))) (match offs[(x.toInt - lw).toNat]? with
    | some off => mck (mFw pc off) (F (mTgt pc off))
    | none => False)
theorem ex_tsw {x : Int32} {pc : Nat} {d lw hi : Int} {offs : Array Int} {F : Nat → Nat → Prop} : (∃ n, mTsw x pc d lw hi offs (F n)) ↔ mTsw x pc d lw hi offs (fun t => ∃ n, F n t) := by
  unfold mTsw
  refine ex_mif.trans (mif_c ex_mck ?_)
  cases offs[(x.toInt - lw).toNat]? with
  | none => exact ex_one
  | some off => exact ex_mck
/-- behind a call, where a handler may stand -/
def BkH (D m pc0 pc : Nat) (lo : mLo) (st : mSt) (K : mOut → mH → Prop) : mOut → mH → Prop := fun r h2 => match r with
  | .inl v => WP D m pc lo (v.toList ++ st) h2 K
  | .inr E => match mHnd m pc0 E with
    | none => K (.inr E) h2
    | some (pc2, i) => mck (Nat.blt i lo.length && mOkSt lo i) (WP D m pc2 (lo.set i none) [] h2 K)
def BkHn (n D m pc0 pc : Nat) (lo : mLo) (st : mSt) (K : mOut → mH → Prop) : mOut → mH → Prop := fun r h2 => match r with
  | .inl v => wp n D m pc lo (v.toList ++ st) h2 K
  | .inr E => match mHnd m pc0 E with
    | none => K (.inr E) h2
    | some (pc2, i) => mck (Nat.blt i lo.length && mOkSt lo i) (wp n D m pc2 (lo.set i none) [] h2 K)
theorem ex_BkH {D D' m pc0 pc y : Nat} {lo lo' : mLo} {st : mSt} {h : mH} {K : mOut → mH → Prop} : (∃ n, wp n D' y 0 lo' [] h (BkHn n D m pc0 pc lo st K)) ↔ WP D' y 0 lo' [] h (BkH D m pc0 pc lo st K) := by
  refine (ex_call (F := fun n => BkHn n D m pc0 pc lo st K) fun n r h' hw k hk => ?_).trans ?_
  · cases r with
    | inl v => exact wp_le hw hk
    | inr E =>
      unfold BkHn at hw ⊢
      dsimp only at hw ⊢
      cases hh : mHnd m pc0 E with
      | none => rw [hh] at hw; exact hw
      | some q =>
        obtain ⟨pc2, i⟩ := q
        rw [hh] at hw
        dsimp only at hw ⊢
        rw [mck_iff] at hw ⊢
        exact ⟨hw.1, wp_le hw.2 hk⟩
  · have e : (fun r h' => ∃ n, BkHn n D m pc0 pc lo st K r h') = BkH D m pc0 pc lo st K := by
      funext r h'
      cases r with
      | inl v => rfl
      | inr E =>
        unfold BkHn BkH
        dsimp only
        cases hh : mHnd m pc0 E with
        | none => exact propext ex_one
        | some q => exact propext ex_mck
    rw [e]
/-- whole numbers of the machine, out of natural ones and of whole ones -/
def N (n : Nat) : Int32 := Int32.ofNat n
def I (z : Int) : Int32 := Int32.ofInt z
theorem WP_iinc {D m pc i : Nat} {d : Int} {x : Int32} {lo : mLo} {st : mSt} {h : mH} {K : mOut → mH → Prop} (hcd : cd m pc = some (.iinc i d)) (hl : lo[i]? = some (some (.inl x))) (hb : (Nat.blt i lo.length && mOkSt lo i) = true) : WP D m pc lo st h K ↔ WP D m (pc + 3) (mPut lo i (.inl (x + Int32.ofInt d))) st h K := by
  have e : ∀ n, wp (n + 1) D m pc lo st h K ↔ wp n D m (pc + 3) (mPut lo i (.inl (x + Int32.ofInt d))) st h K := fun n => by
    show mexO (cd m pc) (mOwn m) m pc lo st h _ ↔ _
    rw [hcd]
    show (match lo[i]? with
      | some (some (.inl x)) => mck (Nat.blt i lo.length && mOkSt lo i) _
      | _ => False) ↔ _
    rw [hl]
    show mck (Nat.blt i lo.length && mOkSt lo i) _ ↔ _
    rw [hb]
    exact Iff.rfl
  exact (WP_k 1).trans ⟨fun ⟨n, hn⟩ => ⟨n, (e n).mp hn⟩, fun ⟨n, hn⟩ => ⟨n, (e n).mpr hn⟩⟩
