/-! TEXT is written, on both sides. -/
def ccTwL : List Nat → mMi → Nat → mMi
  | [], m, _ => m
  | b :: t, m, e => ccTwL t (mset (mset m 2 7 1 e (N b)) 2 7 0 1 (N (e + 1))) (e + 1)
def ccTmL : List Nat → mMi → Nat → mMi
  | [], m, _ => m
  | b :: t, m, e => ccTmL t (mset (mset m 4 0 15 e (N b)) 4 0 0 36 (N (e + 1))) (e + 1)
theorem ccTwL_app : ∀ (t₁ t₂ : List Nat) (m : mMi) (e : Nat), ccTwL (t₁ ++ t₂) m e = ccTwL t₂ (ccTwL t₁ m e) (e + t₁.length) := by
  intro t₁
  induction t₁ with
  | nil => intro t₂ m e; rfl
  | cons b t₁ i₁ =>
    intro t₂ m e
    have e₁ : e + (b :: t₁).length = e + 1 + t₁.length := by rw [List.length_cons]; omega
    rw [e₁]
    exact i₁ t₂ _ (e + 1)
theorem ccTmL_app : ∀ (t₁ t₂ : List Nat) (m : mMi) (e : Nat), ccTmL (t₁ ++ t₂) m e = ccTmL t₂ (ccTmL t₁ m e) (e + t₁.length) := by
  intro t₁
  induction t₁ with
  | nil => intro t₂ m e; rfl
  | cons b t₁ i₁ =>
    intro t₂ m e
    have e₁ : e + (b :: t₁).length = e + 1 + t₁.length := by rw [List.length_cons]; omega
    rw [e₁]
    exact i₁ t₂ _ (e + 1)
theorem ccTwL_o : ∀ (t : List Nat) (m : mMi) (e f a j p : Nat), ¬ (f = 2 ∧ a = 7) → ccTwL t m e f a j p = m f a j p := by
  intro t
  induction t with
  | nil => intro m e f a j p _; rfl
  | cons b t i₁ =>
    intro m e f a j p h₁
    show ccTwL t (mset (mset m 2 7 1 e (N b)) 2 7 0 1 (N (e + 1))) (e + 1) f a j p = _
    rw [i₁ _ _ f a j p h₁, ccRd, if_neg (by omega), ccRd, if_neg (by omega)]
theorem ccTmL_o : ∀ (t : List Nat) (m : mMi) (e f a j p : Nat), ¬ (f = 4 ∧ a = 0 ∧ (j = 15 ∨ (j = 0 ∧ p = 36))) → ccTmL t m e f a j p = m f a j p := by
  intro t
  induction t with
  | nil => intro m e f a j p _; rfl
  | cons b t i₁ =>
    intro m e f a j p h₁
    show ccTmL t (mset (mset m 4 0 15 e (N b)) 4 0 0 36 (N (e + 1))) (e + 1) f a j p = _
    rw [i₁ _ _ f a j p h₁, ccRd, if_neg (by omega), ccRd, if_neg (by omega)]
theorem ccTwL_n : ∀ (t : List Nat) (m : mMi) (e : Nat), m 2 7 0 1 = N e → ccTwL t m e 2 7 0 1 = N (e + t.length) := by
  intro t
  induction t with
  | nil => intro m e h₁; exact h₁
  | cons b t i₁ =>
    intro m e _
    have e₁ : e + (b :: t).length = e + 1 + t.length := by rw [List.length_cons]; omega
    rw [e₁]
    exact i₁ _ (e + 1) (by rw [ccRd, if_pos ⟨rfl, rfl, rfl, rfl⟩])
theorem ccTmL_n : ∀ (t : List Nat) (m : mMi) (e : Nat), m 4 0 0 36 = N e → ccTmL t m e 4 0 0 36 = N (e + t.length) := by
  intro t
  induction t with
  | nil => intro m e h₁; exact h₁
  | cons b t i₁ =>
    intro m e _
    have e₁ : e + (b :: t).length = e + 1 + t.length := by rw [List.length_cons]; omega
    rw [e₁]
    exact i₁ _ (e + 1) (by rw [ccRd, if_pos ⟨rfl, rfl, rfl, rfl⟩])
theorem ccTw_tm : ∀ (t : List Nat) (m mm : mMi) (e : Nat), (∀ k, k < e → m 2 7 1 k = mm 4 0 15 k) → ∀ k, k < e + t.length → ccTwL t m e 2 7 1 k = ccTmL t mm e 4 0 15 k := by
  intro t
  induction t with
  | nil => intro m mm e h₁ k h₂; exact h₁ k h₂
  | cons b t i₁ =>
    intro m mm e h₁ k h₂
    rw [List.length_cons] at h₂
    refine i₁ _ _ (e + 1) (fun q g₁ => ?_) k (by omega)
    by_cases g₂ : q = e
    · subst g₂
      have x₁ : mset (mset m 2 7 1 q (N b)) 2 7 0 1 (N (q + 1)) 2 7 1 q = N b := by rw [ccRd, if_neg (by omega), ccRd, if_pos ⟨rfl, rfl, rfl, rfl⟩]
      have x₂ : mset (mset mm 4 0 15 q (N b)) 4 0 0 36 (N (q + 1)) 4 0 15 q = N b := by rw [ccRd, if_neg (by omega), ccRd, if_pos ⟨rfl, rfl, rfl, rfl⟩]
      rw [x₁, x₂]
    · have x₁ : mset (mset m 2 7 1 e (N b)) 2 7 0 1 (N (e + 1)) 2 7 1 q = m 2 7 1 q := by rw [ccRd, if_neg (by omega), ccRd, if_neg (by omega)]
      have x₂ : mset (mset mm 4 0 15 e (N b)) 4 0 0 36 (N (e + 1)) 4 0 15 q = mm 4 0 15 q := by rw [ccRd, if_neg (by omega), ccRd, if_neg (by omega)]
      rw [x₁, x₂]
      exact h₁ q (by omega)
/-- one byte -/
theorem ccI8 : ∀ b : Fin 128, Int8.toInt32 (Int32.toInt8 (Int8.toInt32 (Int32.toInt8 (N b.val)))) = N b.val := by decide +kernel
theorem ccE88 {m : mMi} {rs : mRs} {b e : Nat} (h₁ : m 2 7 0 1 = N e) (h₂ : e + 1 ≤ 240) (h₃ : b < 128) : F88 (N b) m rs = rV (ccTwL [b] m e) rs := by
  have e₀ : ¬ N 240 ≤ N e := by rw [N_le (by omega) (by omega)]; omega
  have e₁ := ccI8 ⟨b, h₃⟩
  unfold F88
  rw [h₁, ccIte, if_neg e₀, ccMckIn (by omega : e < 240) (by omega), mix_N (by omega), e₁, N_add]
  rfl
theorem ccE282 {m : mMi} {rs : mRs} {b e : Nat} (h₁ : m 4 0 0 36 = N e) (h₂ : e + 1 ≤ 240) : F282 (N b) m rs = rV (ccTmL [b] m e) rs := by
  unfold F282
  rw [h₁, ccMckIn (by omega : e < 600) (by omega), mix_N (by omega), N_add]
  rfl
/-- the rest of a call that writes -/
def ccAw (m₀ m : mMi) : Prop := ∀ f a j p, ¬ (f = 2 ∧ a = 7) → m f a j p = m₀ f a j p
def ccAv (m₀ m : mMi) : Prop := ∀ f a j p, ¬ (f = 4 ∧ a = 0 ∧ (j = 15 ∨ (j = 0 ∧ p = 36))) → m f a j p = m₀ f a j p
def ccW (m₀ : mMi) (F : mMi → mRs → mRz) (t : List Nat) : Prop := ∀ m e rs, ccAw m₀ m → m 2 7 0 1 = N e → e + t.length ≤ 240 → F m rs = rV (ccTwL t m e) rs
def ccV' (m₀ : mMi) (F : mMi → mRs → mRz) (t : List Nat) : Prop := ∀ m e rs, ccAv m₀ m → m 4 0 0 36 = N e → e + t.length ≤ 240 → F m rs = rV (ccTmL t m e) rs
def ccWR (m₀ : mMi) (G : mMi → mRs → mRz) (t : List Nat) : Prop := ∀ m e rs, ccAw m₀ m → m 2 7 0 1 = N e → e + t.length ≤ 240 → G m rs = rI (N (e + t.length)) (ccTwL t m e) rs
def ccVR (m₀ : mMi) (G : mMi → mRs → mRz) (t : List Nat) : Prop := ∀ m e rs, ccAv m₀ m → m 4 0 0 36 = N e → e + t.length ≤ 240 → G m rs = rI (N (e + t.length)) (ccTmL t m e) rs
theorem ccW_1 {m₀ : mMi} {b : Nat} (h₁ : b < 128) : ccW m₀ (F88 (N b)) [b] := fun _ _ _ _ h₂ h₃ => ccE88 h₂ h₃ h₁
theorem ccV_1 {m₀ : mMi} {b : Nat} : ccV' m₀ (F282 (N b)) [b] := fun _ _ _ _ h₂ h₃ => ccE282 h₂ h₃
theorem ccWR_0 {m₀ : mMi} : ccWR m₀ (fun m r => rI (m 2 7 0 1) m r) [] := fun m e rs _ h₂ _ => by
  show rI (m 2 7 0 1) m rs = rI (N e) m rs
  rw [h₂]
theorem ccVR_0 {m₀ : mMi} : ccVR m₀ (fun m r => rI (m 4 0 0 36) m r) [] := fun m e rs _ h₂ _ => by
  show rI (m 4 0 0 36) m rs = rI (N e) m rs
  rw [h₂]
theorem ccWR_w {m₀ : mMi} {F K : mMi → mRs → mRz} {t₁ t₂ : List Nat} (h₁ : ccW m₀ F t₁) (h₂ : ccWR m₀ K t₂) : ccWR m₀ (fun m r => bV (F m r) K) (t₁ ++ t₂) := fun m e rs g₁ g₂ g₃ => by
  rw [List.length_append] at g₃ ⊢
  have e₁ : e + (t₁.length + t₂.length) = e + t₁.length + t₂.length := by omega
  show bV (F m rs) K = _
  rw [h₁ m e rs g₁ g₂ (by omega), ccBv, ccTwL_app, e₁]
  exact h₂ _ _ rs (fun f a j p y₁ => by rw [ccTwL_o _ _ _ _ _ _ _ y₁]; exact g₁ f a j p y₁) (ccTwL_n _ _ _ g₂) (by omega)
theorem ccVR_w {m₀ : mMi} {F K : mMi → mRs → mRz} {t₁ t₂ : List Nat} (h₁ : ccV' m₀ F t₁) (h₂ : ccVR m₀ K t₂) : ccVR m₀ (fun m r => bV (F m r) K) (t₁ ++ t₂) := fun m e rs g₁ g₂ g₃ => by
  rw [List.length_append] at g₃ ⊢
  have e₁ : e + (t₁.length + t₂.length) = e + t₁.length + t₂.length := by omega
  show bV (F m rs) K = _
  rw [h₁ m e rs g₁ g₂ (by omega), ccBv, ccTmL_app, e₁]
  exact h₂ _ _ rs (fun f a j p y₁ => by rw [ccTmL_o _ _ _ _ _ _ _ y₁]; exact g₁ f a j p y₁) (ccTmL_n _ _ _ g₂) (by omega)
theorem ccWR_r {m₀ : mMi} {R : mMi → mRs → mRz} {K : Int32 → mMi → mRs → mRz} {t : List Nat} {v : Int32} (h₁ : ∀ m rs, ccAw m₀ m → R m rs = rI v m rs) (h₂ : ccWR m₀ (K v) t) : ccWR m₀ (fun m r => bI (R m r) K) t := fun m e rs g₁ g₂ g₃ => by
  show bI (R m rs) K = _
  rw [h₁ m rs g₁, ccBi]
  exact h₂ m e rs g₁ g₂ g₃
theorem ccVR_r {m₀ : mMi} {R : mMi → mRs → mRz} {K : Int32 → mMi → mRs → mRz} {t : List Nat} {v : Int32} (h₁ : ∀ m rs, ccAv m₀ m → R m rs = rI v m rs) (h₂ : ccVR m₀ (K v) t) : ccVR m₀ (fun m r => bI (R m r) K) t := fun m e rs g₁ g₂ g₃ => by
  show bI (R m rs) K = _
  rw [h₁ m rs g₁, ccBi]
  exact h₂ m e rs g₁ g₂ g₃
theorem ccWR_c {m₀ : mMi} {G G' : mMi → mRs → mRz} {t : List Nat} (h₁ : ∀ m rs, ccAw m₀ m → G m rs = G' m rs) (h₂ : ccWR m₀ G' t) : ccWR m₀ G t := fun m e rs g₁ g₂ g₃ => by
  rw [h₁ m rs g₁]
  exact h₂ m e rs g₁ g₂ g₃
theorem ccVR_c {m₀ : mMi} {G G' : mMi → mRs → mRz} {t : List Nat} (h₁ : ∀ m rs, ccAv m₀ m → G m rs = G' m rs) (h₂ : ccVR m₀ G' t) : ccVR m₀ G t := fun m e rs g₁ g₂ g₃ => by
  rw [h₁ m rs g₁]
  exact h₂ m e rs g₁ g₂ g₃
/-! the state, with another text -/
def ccTxc (f a j p : Nat) : Prop := (f = 2 ∧ a = 7) ∨ (f = 4 ∧ a = 0 ∧ (j = 15 ∨ (j = 0 ∧ p = 36)))
theorem ccTop_tx {B : Nat} {m m₂ : mMi} (h₁ : ccTop B m) (st : ∀ f a j p, ¬ ccJk f a j p → ¬ ccTxc f a j p → m₂ f a j p = m f a j p) (tx : ccTx m₂) : ccTop (B + 192) m₂ := by
  obtain ⟨e₁, e₂, _, e₄⟩ := h₁
  have sv : ∀ e, e < 2 → m₂ 2 6 1 e = m 2 6 1 e ∧ m₂ 4 0 6 e = m 4 0 6 e ∧ m₂ 0 (11 + e) = m 0 (11 + e) ∧ ccAr (ccRow m (8 + e)) (ccRow m₂ (8 + e)) := fun e y₁ => by
    refine ⟨st 2 6 1 e (by unfold ccJk; omega) (by unfold ccTxc; omega), st 4 0 6 e (by unfold ccJk; omega) (by unfold ccTxc; omega), ?_, fun q _ => ?_⟩
    · funext j p
      exact st 0 (11 + e) j p (by unfold ccJk; omega) (by unfold ccTxc; omega)
    · exact st 4 0 5 _ (by unfold ccJk; omega) (by unfold ccTxc; omega)
  have r₁ := st 2 5 0 1 (by unfold ccJk; omega) (by unfold ccTxc; omega)
  have r₂ := st 4 0 0 14 (by unfold ccJk; omega) (by unfold ccTxc; omega)
  have r₃ := st 2 5 0 2 (by unfold ccJk; omega) (by unfold ccTxc; omega)
  have r₄ : ∀ y, y < 8 → m₂ 0 (3 + y) = m 0 (3 + y) := fun y _ => by
    funext j p
    exact st 0 (3 + y) j p (by unfold ccJk; omega) (by unfold ccTxc; omega)
  have r₅ : ∀ t, t < 8 → ccAr (ccRow m t) (ccRow m₂ t) := fun t _ q _ => st 4 0 5 _ (by unfold ccJk; omega) (by unfold ccTxc; omega)
  refine ⟨?_, ?_, tx, ?_⟩
  · obtain ⟨e, y₁, y₂, y₃, y₄⟩ := e₁
    refine ⟨e, y₁, by rw [st 2 1 0 1 (by unfold ccJk; omega) (by unfold ccTxc; omega)]; exact y₂, by rw [st 4 0 0 17 (by unfold ccJk; omega) (by unfold ccTxc; omega)]; exact y₃, fun q g₁ => ?_⟩
    rw [st 4 0 7 q (by unfold ccJk; omega) (by unfold ccTxc; omega), st 2 1 1 q (by unfold ccJk; omega) (by unfold ccTxc; omega)]
    exact y₄ q g₁
  · unfold ccEr at e₂ ⊢
    rw [st 2 3 0 3 (by unfold ccJk; omega) (by unfold ccTxc; omega), st 2 3 0 4 (by unfold ccJk; omega) (by unfold ccTxc; omega), st 4 0 0 18 (by unfold ccJk; omega) (by unfold ccTxc; omega), st 4 0 0 19 (by unfold ccJk; omega) (by unfold ccTxc; omega)]
    exact e₂
  · rcases e₄ with ⟨y₁, y₂, y₃, y₄⟩ | ⟨w, l, n, bd, lm, dp, cl, β, W, y₁, y₂, y₃, y₄, y₅, y₆⟩
    · exact Or.inl ⟨by rw [st 2 0 0 10 (by unfold ccJk; omega) (by unfold ccTxc; omega)]; exact y₁, by rw [st 4 0 0 1 (by unfold ccJk; omega) (by unfold ccTxc; omega)]; exact y₂, ccRing_fr y₃ (fun _ _ _ z₁ _ => z₁) r₁ r₂ r₃ r₄ r₅, ccSav_fr y₄ (fun _ _ _ z₁ _ => z₁) sv⟩
    · have b₁ : w ≤ 12 := y₃.1.2.2.2.2.1
      have b₂ : l ≤ 8 := y₃.1.2.2.2.2.2.2.1
      have b₃ : n ≤ 40 := y₃.1.2.2.2.2.2.2.2
      have c₀ : m₂ 0 0 = m 0 0 := by
        funext j p
        exact st 0 0 j p (by unfold ccJk; omega) (by unfold ccTxc; omega)
      exact Or.inr ⟨w, l, n, bd, lm, dp, cl, β, W, by rw [st 2 0 0 10 (by unfold ccJk; omega) (by unfold ccTxc; omega)]; exact y₁, by rw [st 4 0 0 1 (by unfold ccJk; omega) (by unfold ccTxc; omega)]; exact y₂, ccPar_eq (fun f a j p z₁ => st f a j p (by unfold ccJk; omega) (by unfold ccTxc; omega)) y₃, by rw [c₀]; exact ccKK_at b₁ b₂ b₃ y₄ ccAg_rfl (fun q z₁ => st 4 0 3 q (by unfold ccJk; omega) (by unfold ccTxc; omega)), ccRing_fr y₅ (ccKK_ar b₁ b₂ b₃) r₁ r₂ r₃ r₄ r₅, ccSav_fr y₆ (ccKK_ar b₁ b₂ b₃) sv⟩
/-- a call that writes t -/
theorem ccOk_wr {B : Nat} {Fc Fm Gc Gm : mMi → mRs → mRz} {ec : List (Nat × Nat)} {m X Y : mMi} {t : List Nat} (h₁ : ccTop B m) (h₀ : t.length ≤ 240) (h₂ : ∀ rs, Fc m rs = Gc X rs) (h₃ : ∀ rs, Fm (ccTwL t X 0) rs = Gm Y rs) (g₁ : ccWR X Gc t) (g₂ : ccVR Y Gm t) (x₁ : ∀ f a j p, ¬ ccJk f a j p → ¬ ccTxc f a j p → X f a j p = m f a j p) (x₂ : X 2 7 0 1 = N 0) (x₃ : ∀ a j p, X 4 a j p = m 4 a j p) (y₁ : ∀ f a j p, ¬ ccJk f a j p → ¬ (f = 4 ∧ a = 0 ∧ j = 0 ∧ p = 36) → Y f a j p = ccTwL t X 0 f a j p) (y₂ : Y 4 0 0 36 = N 0) (y₃ : Y 4 0 0 0 = N 0) : ccOk B Fc Fm ec m := by
  have z₀ : 0 + t.length = t.length := Nat.zero_add _
  have a₁ := g₁ X 0
  have a₂ := g₂ Y 0
  have o₂ : ∀ f a j p, ¬ ccJk f a j p → ¬ ccTxc f a j p → ccTmL t Y 0 f a j p = m f a j p := fun f a j p q₁ q₂ => by
    have q₃ := q₂
    unfold ccTxc at q₃
    rw [ccTmL_o _ _ _ _ _ _ _ (by omega), y₁ f a j p q₁ (by omega), ccTwL_o _ _ _ _ _ _ _ (by omega)]
    exact x₁ f a j p q₁ q₂
  have o₁ : ∀ a j p, ccTwL t X 0 4 a j p = m 4 a j p := fun a j p => by
    rw [ccTwL_o _ _ _ _ _ _ _ (by omega)]
    exact x₃ a j p
  refine Or.inl ⟨N t.length, ccTwL t X 0, ccTmL t Y 0, fun rs => ?_, fun rs => ?_, ?_, ccTop_tx h₁ o₂ ⟨t.length, h₀, ?_, ?_, fun k q₁ => ?_⟩, fun a j p => ⟨?_, o₂ 3 a j p (by unfold ccJk; omega) (by unfold ccTxc; omega), o₁ a j p⟩⟩
  · rw [h₂, a₁ rs (fun _ _ _ _ _ => rfl) x₂ (by omega), z₀]
  · rw [h₃, a₂ rs (fun _ _ _ _ _ => rfl) y₂ (by omega), z₀]
  · rw [ccTmL_o _ _ _ _ _ _ _ (by omega)]
    exact y₃
  · rw [ccTmL_o _ _ _ _ _ _ _ (by omega), y₁ 2 7 0 1 (by unfold ccJk; omega) (by omega), ccTwL_n _ _ _ x₂, z₀]
  · rw [ccTmL_n _ _ _ y₂, z₀]
  · have q₂ := ccTw_tm t X Y 0 (fun k q₂ => by omega) k (by omega)
    rw [ccTmL_o _ _ _ _ _ _ _ (by omega), y₁ 2 7 1 k (by unfold ccJk; omega) (by omega)]
    exact q₂
  · rw [ccTwL_o _ _ _ _ _ _ _ (by omega)]
    exact x₁ 3 a j p (by unfold ccJk; omega) (by unfold ccTxc; omega)
