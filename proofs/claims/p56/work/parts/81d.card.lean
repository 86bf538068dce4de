/-! A CARD, as the class tells it. -/
theorem kwS9 {n h t k B : Nat} {β wt : Nat → Int32} {m : mMi} {C : Nat → Nat → Int32} {s : Nat → Int32} (r₀ : ccR ccX0 n β wt h t C s) (b₃ : n ≤ 40) (q : kwK ccX0 n m B C) (h₁ : k < n) : s (9 + 6 * k) = m 6 B 4 k := by
  have lt₀ : ∀ z : Int, -5 < z → z < 0 → ∀ p : Nat, p < 96 → I z ≠ N p := fun z y₁ y₂ p y₃ y₄ => by
    have y₅ : I z < N 0 := by
      rw [← I_N, I_lt (by omega) (by omega) (by omega) (by omega)]
      omega
    rw [y₄, N_lt (by omega) (by omega)] at y₅
    omega
  rcases (q k h₁).2 with g | ⟨e₁, e₂⟩ | ⟨e₁, e₂⟩ | ⟨L, c, g₁, g₂, e₂, _, _, e₁⟩
  · cases g
  · rcases (r₀.2.2.1 k h₁).2 with ⟨g, _⟩ | ⟨_, f₁, f₂⟩ | ⟨_, f₁, f₂⟩ | ⟨_, p, f₀, f₁, _, _⟩
    · cases g
    · rw [e₁, f₂]
    · rw [e₂] at f₁
      exact absurd f₁ (by decide)
    · exact absurd (Eq.trans e₂.symm f₁) (lt₀ (-1) (by omega) (by omega) p f₀)
  · rcases (r₀.2.2.1 k h₁).2 with ⟨g, _⟩ | ⟨_, f₁, f₂⟩ | ⟨_, f₁, f₂⟩ | ⟨_, p, f₀, f₁, _, _⟩
    · cases g
    · rw [e₂] at f₁
      exact absurd f₁ (by decide)
    · rw [e₁, f₂]
    · exact absurd (Eq.trans e₂.symm f₁) (lt₀ (-2) (by omega) (by omega) p f₀)
  · have p₀ : 12 * L + c < 96 := by omega
    rcases e₁ with ⟨e₁, e₃, e₄⟩ | ⟨e₁, e₃⟩
    · obtain ⟨a, b, z₁, z₂, _, z₃, z₄, _, _, z₅, z₆⟩ := r₀.2.1.1 (12 * L + c) p₀ e₃
      rw [z₃, z₄] at e₄
      rw [e₁]
      rcases e₄ with e₄ | e₄
      · rw [← ccNinj e₄ (by omega) (by omega)]
        exact z₅
      · rw [← ccNinj e₄ (by omega) (by omega)]
        exact z₆.1
    · have e₄ : C 6 (12 * L + c) ≠ I (-1) := by
        rw [e₃]
        exact fun y => (ccNm (by omega)).mp y
      obtain ⟨a, z₁, z₂, _, z₄⟩ := r₀.2.1.2 (12 * L + c) p₀ e₄
      rw [z₂] at e₃
      rw [e₁, ← ccNinj e₃ (by omega) (by omega)]
      exact z₄.1
def kwV119 (m : mMi) (B k : Nat) : Nat → Int32
  | 0 => m 6 B 2 k
  | 1 => m 6 B 3 k
  | 2 => m 6 B 4 k
  | 3 => if m 6 B 4 k ≤ N 1 then I (-1) else m 6 B 5 k
  | 4 => if m 6 B 4 k ≤ N 1 then I (-1) else m 6 B 6 k
  | _ => m 6 B 7 k
theorem kwE119 {m : mMi} {r : mRs} {B w l n lm dp cl bd T Z D k e : Nat} {β : Nat → Int32} {W : Nat → Nat} (q : kwI m r B w l n lm dp cl bd β W T Z D) (hk : k < n) (he : e < 6) : F119 (N k) (N e) m r = rI (kwV119 m B k e) m r := by
  obtain ⟨h₀, ru⟩ := kwI_0 q
  have b₃ : n ≤ 40 := ru.2.2.2.2.2.2.2
  have k₀ : k < 40 := by omega
  obtain ⟨hh, t, j₀, c₀⟩ := q.1
  obtain ⟨⟨mm, jj⟩, s, uu, ww⟩ := j₀
  have r₀ := jj.1.2.2.2.2.2.1
  have wt : m 1 0 4 k = m 6 B 3 k := by rw [ww k hk]; exact jj.2.2.1 k hk
  have xx := uu.2.2.2.2 rfl
  have beg : F119 (N k) (N e) m r = mTswO (N e) 25 93 0 4 #[35, 48, 58, 67, 80] (fun t9 => if t9 = 60 then mckO (mIn (N k) 40) (some (.inl (some (mI (m 0 0 11 (mix (N k))))), m, r)) else if t9 = 73 then mckO (mIn (N k) 40) (some (.inl (some (mI (m 1 0 4 (mix (N k))))), m, r)) else if t9 = 83 then bI (F29 0 (N k) m r) (fun v5 m5 r5 => some (.inl (some (mI v5)), m5, r5)) else if t9 = 92 then mifO (decide ((N 0) ≤ (m 0 0 13 (mix (N k))))) (bI (F111 (m 0 0 13 (mix (N k))) m r) (fun v4 m4 r4 => some (.inl (some (mI v4)), m4, r4))) (some (.inl (some (mI (I (-1)))), m, r)) else if t9 = 105 then mifO (decide ((N 0) ≤ (m 0 0 13 (mix (N k))))) (bI (F112 (m 0 0 13 (mix (N k))) m r) (fun v3 m3 r3 => some (.inl (some (mI v3)), m3, r3))) (some (.inl (some (mI (I (-1)))), m, r)) else if t9 = 118 then mckO (mIn (N k) 40) (some (.inl (some (mI (m 0 0 12 (mix (N k))))), m, r)) else none) := by
    show bV (F120 (N k) m r) _ = _
    rw [ccE120t h₀ ru hk, ccBv, ccE117 (by omega) (by omega) (by omega), if_pos (by exact ⟨by omega, by omega⟩), ccBv, ccMckIn k₀ (by omega)]
  have pos : (m 6 B 4 k ≤ N 1 ∧ ¬ N 0 ≤ m 0 0 13 k) ∨ (¬ m 6 B 4 k ≤ N 1 ∧ ∃ L c, L < 8 ∧ c < 12 ∧ m 0 0 13 k = N (12 * L + c) ∧ m 6 B 5 k = N L ∧ m 6 B 6 k = N c) := by
    rcases (uu.2.1 k hk).2 with g | ⟨e₁, e₂⟩ | ⟨e₁, e₂⟩ | ⟨L, c, g₁, g₂, e₂, e₃, e₄, e₁⟩
    · cases g
    · exact Or.inl ⟨by rw [e₁]; decide, by rw [e₂]; decide⟩
    · exact Or.inl ⟨by rw [e₁]; decide, by rw [e₂]; decide⟩
    · refine Or.inr ⟨?_, L, c, g₁, g₂, e₂, e₃, e₄⟩
      rcases e₁ with ⟨e₁, _⟩ | ⟨e₁, _⟩
      · rw [e₁]; decide
      · rw [e₁]; decide
  rw [beg]
  have g : e = 0 ∨ e = 1 ∨ e = 2 ∨ e = 3 ∨ e = 4 ∨ e = 5 := by omega
  rcases g with rfl | rfl | rfl | rfl | rfl | rfl
  · rw [ccTw119_0]
    show mckO (mIn (N k) 40) _ = rI (m 6 B 2 k) m r
    rw [ccMckIn k₀ (by omega), mix_N (by omega), (uu.2.1 k hk).1]
  · rw [ccTw119_1]
    show mckO (mIn (N k) 40) _ = rI (m 6 B 3 k) m r
    rw [ccMckIn k₀ (by omega), mix_N (by omega), wt]
  · rw [ccTw119_2]
    show bI (F29 0 (N k) m r) _ = rI (m 6 B 4 k) m r
    rw [ccE29 r₀ hk b₃, ccBi, kwS9 r₀ b₃ uu.2.1 hk]
  · rw [ccTw119_3]
    show mifO (decide (N 0 ≤ m 0 0 13 (mix (N k)))) _ _ = rI (if m 6 B 4 k ≤ N 1 then I (-1) else m 6 B 5 k) m r
    rw [mix_N (by omega), ccIte]
    rcases pos with ⟨p₁, p₂⟩ | ⟨p₁, L, c, p₂, p₃, p₄, p₅, p₆⟩
    · rw [if_neg p₂, if_pos p₁]
    · have d₁ : (12 * L + c) / 12 = L := by omega
      rw [if_neg p₁, p₄, if_pos (by rw [N_le (by omega) (by omega)]; omega), ccE111 (by omega), ccBi, d₁, p₅]
  · rw [ccTw119_4]
    show mifO (decide (N 0 ≤ m 0 0 13 (mix (N k)))) _ _ = rI (if m 6 B 4 k ≤ N 1 then I (-1) else m 6 B 6 k) m r
    rw [mix_N (by omega), ccIte]
    rcases pos with ⟨p₁, p₂⟩ | ⟨p₁, L, c, p₂, p₃, p₄, p₅, p₆⟩
    · rw [if_neg p₂, if_pos p₁]
    · have d₁ : (12 * L + c) % 12 = c := by omega
      rw [if_neg p₁, p₄, if_pos (by rw [N_le (by omega) (by omega)]; omega), ccE112 (by omega), ccBi, d₁, p₆]
  · rw [ccTw119_5]
    show mckO (mIn (N k) 40) _ = rI (m 6 B 7 k) m r
    rw [ccMckIn k₀ (by omega), mix_N (by omega), (xx.2.2.2.1 k hk).1]
