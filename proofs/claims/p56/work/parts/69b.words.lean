/-! LOAD: words and numbers. -/
def ccCx (m : mMi) (b : Nat → Nat) (L e p : Nat) : Prop := L ≤ e ∧ ccBt m e b ∧ m 2 4 0 1 = N L ∧ m 2 4 0 2 = N p ∧ m 2 3 0 3 = N 0 ∧ m 2 3 0 4 = I (-1)
def ccMx (m : mMi) (b : Nat → Nat) (L e s r kd : Nat) : Prop := L ≤ e ∧ ccBm m e b ∧ m 4 0 0 20 = N L ∧ m 4 0 0 21 = N r ∧ m 4 0 0 22 = N s ∧ m 4 0 0 23 = N kd ∧ (kd = 2 → m 4 0 0 24 = N (ccDcm (fun i => b (s + i)) (r - s))) ∧ m 4 0 0 25 = N 0 ∧ m 4 0 0 26 = I (-1)
/-- what reading and refusing changes -/
def ccFc0 (m m₁ : mMi) : Prop := ∀ f a j q, ¬ (f = 2 ∧ a = 4 ∧ j = 0 ∧ 2 ≤ q ∧ q ≤ 5) → ¬ (f = 2 ∧ a = 3 ∧ j = 0 ∧ (q = 3 ∨ q = 4)) → m₁ f a j q = m f a j q
def ccFm0 (m m₁ : mMi) : Prop := ∀ f a j q, ¬ (f = 4 ∧ a = 0 ∧ j = 0 ∧ 21 ≤ q ∧ q ≤ 26) → m₁ f a j q = m f a j q
theorem ccFc0_rfl {m : mMi} : ccFc0 m m := fun _ _ _ _ _ _ => rfl
theorem ccFm0_rfl {m : mMi} : ccFm0 m m := fun _ _ _ _ _ => rfl
theorem ccFc0_tr {m m₁ m₂ : mMi} (h₁ : ccFc0 m m₁) (h₂ : ccFc0 m₁ m₂) : ccFc0 m m₂ := fun f a j q g₁ g₂ => by rw [h₂ f a j q g₁ g₂, h₁ f a j q g₁ g₂]
theorem ccFm0_tr {m m₁ m₂ : mMi} (h₁ : ccFm0 m m₁) (h₂ : ccFm0 m₁ m₂) : ccFm0 m m₂ := fun f a j q g₁ => by rw [h₂ f a j q g₁, h₁ f a j q g₁]
theorem ccTok_b {b : Nat → Nat} {L p s r kd : Nat} (h : ccTok b L p s r kd) : p ≤ s ∧ s ≤ r ∧ r ≤ L ∧ kd ≤ 4 ∧ (kd ≠ 0 → s < r) ∧ (kd = 1 → r - s ≤ 6 ∧ ∀ i, s ≤ i → i < r → 97 ≤ b i ∧ b i ≤ 122) ∧ (kd = 2 → r - s ≤ 3 ∧ ∀ i, s ≤ i → i < r → 48 ≤ b i ∧ b i ≤ 57) := by
  obtain ⟨h₁, h₂, _, h₃⟩ := h
  rcases h₃ with ⟨e₁, e₂, e₃⟩ | ⟨e₁, e₂, e₃, e₄, h₄⟩
  · exact ⟨h₁, by omega, by omega, by omega, fun z₁ => absurd e₃ z₁, fun z₁ => by omega, fun z₁ => by omega⟩
  · rcases h₄ with ⟨w₁, w₂, w₃⟩ | ⟨w₁, w₂, w₃⟩ | ⟨w₁, w₂, w₃, w₄⟩
    · by_cases g : r - s ≤ 6
      · rw [if_pos g] at w₃
        exact ⟨h₁, by omega, e₄, by omega, fun _ => e₃, fun _ => ⟨g, w₁⟩, fun z₁ => by omega⟩
      · rw [if_neg g] at w₃
        exact ⟨h₁, by omega, e₄, by omega, fun _ => e₃, fun z₁ => by omega, fun z₁ => by omega⟩
    · by_cases g : r - s ≤ 3
      · rw [if_pos g] at w₃
        exact ⟨h₁, by omega, e₄, by omega, fun _ => e₃, fun z₁ => by omega, fun _ => ⟨g, w₁⟩⟩
      · rw [if_neg g] at w₃
        exact ⟨h₁, by omega, e₄, by omega, fun _ => e₃, fun z₁ => by omega, fun z₁ => by omega⟩
    · by_cases g : b s = 59
      · rw [if_pos g] at w₄
        exact ⟨h₁, by omega, e₄, by omega, fun _ => e₃, fun z₁ => by omega, fun z₁ => by omega⟩
      · rw [if_neg g] at w₄
        exact ⟨h₁, by omega, e₄, by omega, fun _ => e₃, fun z₁ => by omega, fun z₁ => by omega⟩
theorem ccE94x {m : mMi} {b : Nat → Nat} {L e p s r kd : Nat} (c : ccCx m b L e p) (h : ccTok b L p s r kd) : ∃ m₁, (∀ rs, F94 m rs = rV m₁ rs) ∧ ccTc m b s r kd m₁ ∧ ccCx m₁ b L e r ∧ ccFc0 m m₁ := by
  obtain ⟨c₁, c₂, c₃, c₄, c₅, c₆⟩ := c
  obtain ⟨m₁, a₁, a₂⟩ := ccE94 c₂ c₁ c₃ c₄ h
  have a₃ := a₂.2.2.2.2.2
  exact ⟨m₁, a₁, a₂, ⟨c₁, ccBt_fr c₂ (fun j p => a₃ 2 1 j p (by omega)), by rw [a₃ 2 4 0 1 (by omega)]; exact c₃, a₂.1, by rw [a₃ 2 3 0 3 (by omega)]; exact c₅, by rw [a₃ 2 3 0 4 (by omega)]; exact c₆⟩, fun f a j q g₁ _ => a₃ f a j q g₁⟩
theorem ccE182x {m : mMi} {b : Nat → Nat} {L e s r kd : Nat} (c : ccMx m b L e s r kd) (h : r ≤ L) : ∃ m₁ s' r' kd', (∀ rs, F182 m rs = rV m₁ rs) ∧ ccTok b L r s' r' kd' ∧ ccMx m₁ b L e s' r' kd' ∧ ccFm0 m m₁ := by
  obtain ⟨c₁, c₂, c₃, c₄, c₅, c₆, c₇, c₈, c₉⟩ := c
  obtain ⟨s', r', kd', h₁⟩ := ccTok_ex (b := b) h
  obtain ⟨m₁, a₁, a₂, a₃, a₄, a₅, a₆⟩ := ccE182 c₂ c₁ c₃ c₄ h₁
  exact ⟨m₁, s', r', kd', a₁, h₁, ⟨c₁, ccBm_fr c₂ (fun p => a₆ 4 0 7 p (by omega)), by rw [a₆ 4 0 0 20 (by omega)]; exact c₃, a₂, a₃, a₄, a₅, by rw [a₆ 4 0 0 25 (by omega)]; exact c₈, by rw [a₆ 4 0 0 26 (by omega)]; exact c₉⟩, fun f a j q g₁ => a₆ f a j q (by omega)⟩
theorem ccE189x {m : mMi} {b : Nat → Nat} {L e s r kd : Nat} (c : ccMx m b L e s r kd) (h : r ≤ L) : ∃ m₁ s' r' kd', (∀ rs, F189 m rs = rV m₁ rs) ∧ ccTok b L r s' r' kd' ∧ ccMx m₁ b L e s' r' kd' ∧ ccFm0 m m₁ := by
  obtain ⟨m₁, s', r', kd', a₁, a₂, a₃, a₄⟩ := ccE182x c h
  refine ⟨m₁, s', r', kd', fun rs => ?_, a₂, a₃, a₄⟩
  have c₈ := c.2.2.2.2.2.2.2.1
  unfold F189
  rw [c₈, ccIf0, a₁, ccBv]
/-! when an error is known -/
theorem ccE177a {m : mMi} {rs : mRs} {x y z : Int32} : ∃ t, F177 x y z m rs = rI (ccT t) m rs := by
  unfold F177
  rw [ccIte, ccIte]
  by_cases g₁ : x < y
  · exact ⟨false, by rw [if_pos g₁]; rfl⟩
  · by_cases g₂ : z < x
    · exact ⟨false, by rw [if_neg g₁, if_pos g₂]; rfl⟩
    · exact ⟨true, by rw [if_neg g₁, if_neg g₂]; rfl⟩
theorem ccE188e {m : mMi} {rs : mRs} {x : Int32} (h : m 4 0 0 25 ≠ N 0) : F188 x m rs = rV m rs := by
  unfold F188
  rw [ccIte, if_pos h]
theorem ccE187e {m : mMi} {rs : mRs} {x y : Int32} (h : m 4 0 0 25 ≠ N 0) : F187 x y m rs = rV m rs := by
  unfold F187
  rw [ccE188e h, ccIte]
  by_cases g : x = N 0
  · rw [if_pos g]
  · rw [if_neg g, ccBv]
theorem ccE187z {m : mMi} {rs : mRs} {y : Int32} : F187 (N 0) y m rs = rV m rs := rfl
theorem ccE189e {m : mMi} {rs : mRs} (h : m 4 0 0 25 ≠ N 0) : F189 m rs = rV m rs := by
  unfold F189
  rw [ccIte, if_pos h]
theorem ccE191e {m : mMi} {rs : mRs} {x y : Int32} (h : m 4 0 0 25 ≠ N 0) : F191 x y m rs = rI x m rs := by
  obtain ⟨t, ht⟩ := ccE177a (m := m) (rs := rs) (x := m 4 0 0 24) (y := x) (z := y)
  unfold F191
  rw [ccE188e h, ht, ccIte, ccBv, ccIte, if_neg h]
  by_cases g : m 4 0 0 23 = N 2
  · rw [if_pos g, ccBi]
    cases t
    · rw [ccT_f, ccIf0, ccE188e h, ccBv, ccIte, if_neg h]
    · rw [ccT_t, ccIf1, ccIte, if_neg h]
  · rw [if_neg g]
theorem ccE190e {m : mMi} {rs : mRs} {x y : Int32} (h : m 4 0 0 25 ≠ N 0) : F190 x y m rs = rI x m rs := by
  unfold F190
  rw [ccE191e h, ccBi, ccE189e h, ccBv]
/-! an error of both sides, at the token -/
def ccErd (mc mm : mMi) : Prop := ∃ k z, 1 ≤ k ∧ k ≤ 5 ∧ z ≤ 900 ∧ mc 2 3 0 3 = N k ∧ mc 2 3 0 4 = N z ∧ mm 4 0 0 25 = N k ∧ mm 4 0 0 26 = N z
theorem ccErd_e {mc mm : mMi} (h : ccErd mc mm) : mm 4 0 0 25 ≠ N 0 := by
  obtain ⟨k, z, h₁, h₂, h₃, h₄, h₅, h₆, h₇⟩ := h
  rw [h₆, ne_eq, N_eq (by omega) (by omega)]
  omega
def ccEc (m : mMi) (k s : Nat) : mMi := mset (mset m 2 3 0 3 (N k)) 2 3 0 4 (N s)
def ccEm (m : mMi) (k s : Nat) : mMi := mset (mset m 4 0 0 25 (N k)) 4 0 0 26 (N s)
theorem ccE69 {m : mMi} {k s : Nat} {rs : mRs} (h : m 2 4 0 3 = N s) : F69 (N k) m rs = rI (N 0) (ccEc m k s) rs := by
  unfold F69 ccEc
  rw [h]
theorem ccE188 {m : mMi} {k s : Nat} {rs : mRs} (h : m 4 0 0 25 = N 0) (h₁ : m 4 0 0 22 = N s) : F188 (N k) m rs = rV (ccEm m k s) rs := by
  have y₁ : mset m 4 0 0 25 (N k) 4 0 0 22 = N s := by rw [ccRd, if_neg (by omega)]; exact h₁
  unfold F188 ccEm
  rw [h, ccIf0, h₁]
theorem ccE187 {m : mMi} {k s : Nat} {rs : mRs} (h : m 4 0 0 25 = N 0) (h₁ : m 4 0 0 22 = N s) : F187 (N 1) (N k) m rs = rV (ccEm m k s) rs := by
  unfold F187
  rw [ccE188 h h₁]
  rfl
theorem ccErd_mk {mc mm : mMi} {k s : Nat} (h₁ : 1 ≤ k) (h₂ : k ≤ 5) (h₃ : s ≤ 900) : ccErd (ccEc mc k s) (ccEm mm k s) := by
  refine ⟨k, s, h₁, h₂, h₃, ?_, ?_, ?_, ?_⟩
  · unfold ccEc
    rw [ccRd, if_neg (by omega), ccRd, if_pos ⟨rfl, rfl, rfl, rfl⟩]
  · unfold ccEc
    rw [ccRd, if_pos ⟨rfl, rfl, rfl, rfl⟩]
  · unfold ccEm
    rw [ccRd, if_neg (by omega), ccRd, if_pos ⟨rfl, rfl, rfl, rfl⟩]
  · unfold ccEm
    rw [ccRd, if_pos ⟨rfl, rfl, rfl, rfl⟩]
theorem ccEc_fr {m : mMi} {k s : Nat} : ccFc0 m (ccEc m k s) := fun f a j q g₁ g₂ => by
  unfold ccEc
  rw [ccRd, if_neg (by omega), ccRd, if_neg (by omega)]
theorem ccEm_fr {m : mMi} {k s : Nat} : ccFm0 m (ccEm m k s) := fun f a j q g₁ => by
  unfold ccEm
  rw [ccRd, if_neg (by omega), ccRd, if_neg (by omega)]
/-! words -/
def ccWq (T : List Int32) (g : Nat → Nat) : Nat → Nat → Bool
  | 0, _ => true
  | d + 1, j => decide (N (g j) = T.getD j 0) && ccWq T g d (j + 1)
def ccWrd (b : Nat → Nat) (s r kd k : Nat) : Bool := decide (kd = 1) && (decide (r - s = (mTxt k).length) && ccWq (mTxt k) (fun i => b (s + i)) (mTxt k).length 0)
theorem ccTx4 {k : Nat} (h : 1 ≤ k ∧ k ≤ 4) : mTxt (k + 7) = mTxt k ∧ 1 ≤ (mTxt k).length ∧ (mTxt k).length ≤ 6 := by
  have y : k = 1 ∨ k = 2 ∨ k = 3 ∨ k = 4 := by omega
  rcases y with y | y | y | y <;> subst y <;> exact ⟨rfl, by decide, by decide⟩
theorem ccL97 {m : mMi} {e k n s : Nat} {b : Nat → Nat} (q : ccBt m e b) (h₁ : s + n ≤ e) (h₂ : m 2 4 0 3 = N s) (h₃ : (mTxt k).length = n) (h₄ : 1 ≤ n) (h₅ : ∀ i, i < n → b (s + i) < 128) : ∀ d j f rs, j + d = n → F97_28 k (f + d + 1) (N j) m rs = rI (ccT (ccWq (mTxt k) (fun i => b (s + i)) d j)) m rs := by
  have q₀ := q.1
  have z₁ : (Nat.blt 0 (mTxt k).length && true) = true := by
    rw [h₃, Bool.and_true]
    exact Nat.ble_eq_true_of_le h₄
  have z₂ : Int32.ofNat (mTxt k).length = N n := by rw [h₃]; rfl
  intro d
  induction d with
  | zero =>
    intro j f rs g₁
    have e₁ : N n ≤ N j := by rw [N_le (by omega) (by omega)]; omega
    rw [ccL97_28, ccMck z₁, z₂, ccIte, if_pos e₁]
    rfl
  | succ d i₁ =>
    intro j f rs g₁
    have e₁ : ¬ N n ≤ N j := by rw [N_le (by omega) (by omega)]; omega
    have e₂ : f + (d + 1) + 1 = f + d + 1 + 1 := by omega
    have e₃ : (mIn (N j) (mTxt k).length && true) = true := by rw [h₃, Bool.and_true]; exact mIn_N (by omega) (by omega)
    have e₄ : ccWq (mTxt k) (fun i => b (s + i)) (d + 1) j = (decide (N (b (s + j)) = (mTxt k).getD j 0) && ccWq (mTxt k) (fun i => b (s + i)) d (j + 1)) := rfl
    rw [e₂, e₄, ccL97_28, ccMck z₁, z₂, ccIte, if_neg e₁, h₂, N_add, N_add, ccE64 q (by omega), ccBi, ccSg_lo (h₅ j (by omega)), ccMck e₃, mix_N (by omega)]
    cases g₂ : decide (N (b (s + j)) = (mTxt k).getD j 0)
    · rw [Bool.false_and, ccT_f]
      rfl
    · rw [Bool.true_and]
      exact i₁ (j + 1) f rs (by omega)
theorem ccL186 {m : mMi} {e L k n s : Nat} {b : Nat → Nat} (q : ccBm m e b) (hL : L ≤ e) (h₀ : m 4 0 0 20 = N L) (h₁ : s + n ≤ L) (h₂ : m 4 0 0 22 = N s) (h₃ : (mTxt k).length = n) (h₄ : 1 ≤ n) : ∀ d j f rs, j + d = n → F186_35 k (f + d + 1) (N j) m rs = rI (ccT (ccWq (mTxt k) (fun i => b (s + i)) d j)) m rs := by
  have q₀ := q.1
  have z₁ : (Nat.blt 0 (mTxt k).length && true) = true := by
    rw [h₃, Bool.and_true]
    exact Nat.ble_eq_true_of_le h₄
  have z₂ : Int32.ofNat (mTxt k).length = N n := by rw [h₃]; rfl
  intro d
  induction d with
  | zero =>
    intro j f rs g₁
    have e₁ : N n ≤ N j := by rw [N_le (by omega) (by omega)]; omega
    rw [ccL186_35, ccMck z₁, z₂, ccIte, if_pos e₁]
    rfl
  | succ d i₁ =>
    intro j f rs g₁
    have e₁ : ¬ N n ≤ N j := by rw [N_le (by omega) (by omega)]; omega
    have e₂ : f + (d + 1) + 1 = f + d + 1 + 1 := by omega
    have e₃ : (mIn (N j) (mTxt k).length && true) = true := by rw [h₃, Bool.and_true]; exact mIn_N (by omega) (by omega)
    have e₄ : ccWq (mTxt k) (fun i => b (s + i)) (d + 1) j = (decide (N (b (s + j)) = (mTxt k).getD j 0) && ccWq (mTxt k) (fun i => b (s + i)) d (j + 1)) := rfl
    rw [e₂, e₄, ccL186_35, ccMck z₁, z₂, ccIte, if_neg e₁, h₂, N_add, N_add, ccE183 q hL h₀ (by omega), ccBi, ccMck e₃, mix_N (by omega)]
    cases g₂ : decide (N (b (s + j)) = (mTxt k).getD j 0)
    · rw [Bool.false_and, ccT_f]
      rfl
    · rw [Bool.true_and]
      exact i₁ (j + 1) f rs (by omega)
theorem ccE97 {m m₁ : mMi} {b : Nat → Nat} {L e p s r kd k : Nat} {rs : mRs} (hk : 1 ≤ k ∧ k ≤ 4) (c : ccCx m₁ b L e r) (t : ccTc m b s r kd m₁) (h : ccTok b L p s r kd) : F97 k m₁ rs = rI (ccT (ccWrd b s r kd k)) m₁ rs := by
  obtain ⟨c₁, c₂, c₃, c₄⟩ := c
  obtain ⟨t₁, t₂, t₃, _⟩ := t
  obtain ⟨w₁, w₂, w₃, w₄, w₅, w₆, w₇⟩ := ccTok_b h
  obtain ⟨x₁, x₂, x₃⟩ := ccTx4 hk
  have q₀ := c₂.1
  obtain ⟨n, hn⟩ : ∃ n, (mTxt k).length = n := ⟨_, rfl⟩
  have z₁ : (Nat.blt 0 (mTxt k).length && true) = true := by
    rw [Bool.and_true]
    exact Nat.ble_eq_true_of_le x₂
  have z₂ : Int32.ofNat (mTxt k).length = N n := by rw [hn]; rfl
  rw [hn] at x₂ x₃
  obtain ⟨f, hf⟩ := ccFU (k := n) (by omega)
  unfold F97 ccWrd
  rw [t₃, ccIte]
  by_cases g₁ : kd = 1
  · have y₁ : ¬ N kd ≠ N 1 := fun z => z (by rw [g₁])
    rw [if_neg y₁, ccMck z₁, z₂, t₁, t₂, N_sub w₂, ccIte, decide_eq_true g₁, Bool.true_and, hn]
    by_cases g₂ : r - s = n
    · have y₂ : N (r - s) = N n := by rw [g₂]
      have y₃ := ccL97 (k := k) c₂ (by omega : s + n ≤ e) t₂ hn x₂ (fun i y₄ => by have y₅ := (w₆ g₁).2 (s + i) (by omega) (by omega); omega) n 0 f rs (by omega)
      rw [if_pos y₂, decide_eq_true g₂, Bool.true_and, hf]
      exact y₃
    · have y₂ : ¬ N (r - s) = N n := by rw [N_eq (by omega) (by omega)]; exact g₂
      rw [if_neg y₂, decide_eq_false g₂, Bool.false_and, ccT_f]
  · have y₁ : N kd ≠ N 1 := by rw [ne_eq, N_eq (by omega) (by omega)]; exact g₁
    rw [if_pos y₁, decide_eq_false g₁, Bool.false_and, ccT_f]
theorem ccE186 {m : mMi} {b : Nat → Nat} {L e p s r kd k : Nat} {rs : mRs} (hk : 1 ≤ k ∧ k ≤ 4) (c : ccMx m b L e s r kd) (h : ccTok b L p s r kd) : F186 (k + 7) m rs = rI (ccT (ccWrd b s r kd k)) m rs := by
  obtain ⟨c₁, c₂, c₃, c₄, c₅, c₆, c₇, c₈, c₉⟩ := c
  obtain ⟨w₁, w₂, w₃, w₄, w₅, w₆, w₇⟩ := ccTok_b h
  obtain ⟨x₁, x₂, x₃⟩ := ccTx4 hk
  have q₀ := c₂.1
  obtain ⟨n, hn⟩ : ∃ n, (mTxt k).length = n := ⟨_, rfl⟩
  have hn₂ : (mTxt (k + 7)).length = n := by rw [x₁]; exact hn
  have z₁ : (Nat.blt 0 (mTxt (k + 7)).length && true) = true := by
    rw [Bool.and_true, x₁]
    exact Nat.ble_eq_true_of_le x₂
  have z₂ : Int32.ofNat (mTxt (k + 7)).length = N n := by rw [hn₂]; rfl
  rw [hn] at x₂ x₃
  obtain ⟨f, hf⟩ := ccFU (k := n) (by omega)
  unfold F186 ccWrd
  rw [c₈, ccIf0, c₆, ccIte]
  by_cases g₁ : kd = 1
  · have y₁ : ¬ N kd ≠ N 1 := fun z => z (by rw [g₁])
    rw [if_neg y₁, ccMck z₁, z₂, c₄, c₅, N_sub w₂, ccIte, decide_eq_true g₁, Bool.true_and, hn]
    by_cases g₂ : r - s = n
    · have y₂ : N (r - s) = N n := by rw [g₂]
      have y₃ := ccL186 (k := k + 7) c₂ c₁ c₃ (by omega : s + n ≤ L) c₅ hn₂ x₂ n 0 f rs (by omega)
      rw [if_pos y₂, decide_eq_true g₂, Bool.true_and, hf, ← x₁]
      exact y₃
    · have y₂ : ¬ N (r - s) = N n := by rw [N_eq (by omega) (by omega)]; exact g₂
      rw [if_neg y₂, decide_eq_false g₂, Bool.false_and, ccT_f]
  · have y₁ : N kd ≠ N 1 := by rw [ne_eq, N_eq (by omega) (by omega)]; exact g₁
    rw [if_pos y₁, decide_eq_false g₁, Bool.false_and, ccT_f]
/-! numbers -/
theorem ccNumb {mc mm : mMi} {b : Nat → Nat} {L e p s r kd lo h : Nat} {hC hM : Int32} (c : ccCx mc b L e p) (d : ccMx mm b L e s r kd) (t : ccTok b L p s r kd) (bl : lo < 1000) (qC : ∀ v, v < 1000 → (N v ≤ hC ↔ v < h)) (qM : ∀ v, v < 1000 → (hM < N v ↔ h ≤ v)) :
    (∃ v mc₁, lo ≤ v ∧ v < h ∧ v < 1000 ∧ (∀ rs, F70 (N lo) hC mc rs = rI (N 1) mc₁ rs) ∧ (∀ rs, F191 (N lo) hM mm rs = rI (N v) mm rs) ∧ mc₁ 2 4 0 5 = N v ∧ ccCx mc₁ b L e r ∧ mc₁ 2 4 0 3 = N s ∧ ccFc0 mc mc₁ ∧ s < r) ∨
    (∃ mc₁ mm₁, (∀ rs, F70 (N lo) hC mc rs = rI (N 0) mc₁ rs) ∧ (∀ rs, F191 (N lo) hM mm rs = rI (N lo) mm₁ rs) ∧ ccErd mc₁ mm₁ ∧ ccFc0 mc mc₁ ∧ ccFm0 mm mm₁) := by
  obtain ⟨m₁, a₁, a₂, a₃, a₄⟩ := ccE94x c t
  obtain ⟨w₁, w₂, w₃, w₄, w₅, w₆, w₇⟩ := ccTok_b t
  have q₀ := d.2.1.1
  have q₁ := d.1
  obtain ⟨c₁, c₂, c₃, c₄, c₅, c₆, c₇, c₈, c₉⟩ := d
  have bad : ∀ k, 1 ≤ k → k ≤ 5 → (∀ rs, F70 (N lo) hC mc rs = rI (N 0) (ccEc m₁ k s) rs) → (∀ rs, F191 (N lo) hM mm rs = rI (N lo) (ccEm mm k s) rs) → ∃ mc₁ mm₁, (∀ rs, F70 (N lo) hC mc rs = rI (N 0) mc₁ rs) ∧ (∀ rs, F191 (N lo) hM mm rs = rI (N lo) mm₁ rs) ∧ ccErd mc₁ mm₁ ∧ ccFc0 mc mc₁ ∧ ccFm0 mm mm₁ := fun k y₁ y₂ y₃ y₄ => ⟨_, _, y₃, y₄, ccErd_mk y₁ y₂ (by omega), ccFc0_tr a₄ ccEc_fr, ccEm_fr⟩
  have e69 : ∀ k rs, bI (F69 (N k) m₁ rs) (fun v m r => mckO (mZ v || false) (some (.inl (some (mI v)), m, r))) = rI (N 0) (ccEc m₁ k s) rs := fun k rs => by
    rw [ccE69 a₂.2.1]
    rfl
  have eM : ∀ k, 1 ≤ k → k ≤ 5 → ccEm mm k s 4 0 0 25 ≠ N 0 := fun k y₁ y₂ => by
    have y₃ : ccEm mm k s 4 0 0 25 = N k := by
      unfold ccEm
      rw [ccRd, if_neg (by omega), ccRd, if_pos ⟨rfl, rfl, rfl, rfl⟩]
    rw [y₃, ne_eq, N_eq (by omega) (by omega)]
    omega
  by_cases g : kd = 2
  rotate_left
  · refine Or.inr (bad 1 (by omega) (by omega) (fun rs => ?_) (fun rs => ?_))
    · have y₁ : ¬ N kd = N 2 := by rw [N_eq (by omega) (by omega)]; exact g
      unfold F70
      rw [a₁, ccBv, a₂.2.2.1, ccIte, if_neg y₁, e69]
    · have y₁ : ¬ N kd = N 2 := by rw [N_eq (by omega) (by omega)]; exact g
      unfold F191
      rw [c₆, ccIte, if_neg y₁, ccE188 c₈ c₅, ccBv, ccIte, if_neg (eM 1 (by omega) (by omega))]
  have vC := a₂.2.2.2.2.1 g
  have vM := c₇ g
  have v₁ := ccDcm_lt (g := fun i => b (s + i)) (k := r - s) (fun i y₁ => (w₇ g).2 (s + i) (by omega) (by omega)) (w₇ g).1
  obtain ⟨v, hv⟩ : ∃ v, v = ccDcm (fun i => b (s + i)) (r - s) := ⟨_, rfl⟩
  rw [← hv] at vC vM v₁
  have y₁ : N kd = N 2 := by rw [g]
  have z₁ := qC v v₁
  have z₂ := qM v v₁
  by_cases g₁ : lo ≤ v ∧ v < h
  · refine Or.inl ⟨v, m₁, g₁.1, g₁.2, v₁, fun rs => ?_, fun rs => ?_, vC, a₃, a₂.2.1, a₄, w₅ (by omega)⟩
    · have y₂ : ¬ N v < N lo := by rw [N_lt (by omega) (by omega)]; omega
      unfold F70
      rw [a₁, ccBv, a₂.2.2.1, ccIte, if_pos y₁, vC, ccIte, if_neg y₂, ccIte, if_pos (z₁.2 g₁.2)]
    · have y₂ : ¬ N v < N lo := by rw [N_lt (by omega) (by omega)]; omega
      have y₃ : ¬ hM < N v := fun z => by
        have := z₂.1 z
        omega
      have y₄ : F177 (N v) (N lo) hM mm rs = rI (N 1) mm rs := by
        unfold F177
        rw [ccIte, if_neg y₂, ccIte, if_neg y₃]
        rfl
      unfold F191
      rw [c₆, ccIte, if_pos y₁, vM, y₄, ccBi, ccIf1, c₈, ccIf0e, vM]
  · refine Or.inr (bad 2 (by omega) (by omega) (fun rs => ?_) (fun rs => ?_))
    · unfold F70
      rw [a₁, ccBv, a₂.2.2.1, ccIte, if_pos y₁, vC, e69, ccIte, ccIte]
      by_cases g₂ : v < lo
      · have y₂ : N v < N lo := by rw [N_lt (by omega) (by omega)]; exact g₂
        rw [if_pos y₂]
      · have y₂ : ¬ N v < N lo := by rw [N_lt (by omega) (by omega)]; exact g₂
        have y₃ : ¬ N v ≤ hC := fun z => by
          have := z₁.1 z
          omega
        rw [if_neg y₂, if_neg y₃]
    · have y₄ : F177 (N v) (N lo) hM mm rs = rI (N 0) mm rs := by
        unfold F177
        rw [ccIte, ccIte]
        by_cases g₂ : v < lo
        · have y₂ : N v < N lo := by rw [N_lt (by omega) (by omega)]; exact g₂
          rw [if_pos y₂]
          rfl
        · have y₂ : ¬ N v < N lo := by rw [N_lt (by omega) (by omega)]; exact g₂
          rw [if_neg y₂, if_pos (z₂.2 (by omega))]
          rfl
      unfold F191
      rw [c₆, ccIte, if_pos y₁, vM, y₄, ccBi, ccIf0, ccE188 c₈ c₅, ccBv, ccIte, if_neg (eM 2 (by omega) (by omega))]
