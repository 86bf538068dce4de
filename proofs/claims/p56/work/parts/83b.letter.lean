/-! TEXTS that are built: one letter, a text of the pools, a number. -/
theorem kwE214 {m : mMi} {r : mRs} {a n : Nat} (k₁ : r.2.1.2.1 a = some (14, n)) (c₁ : m 9 a 0 1 = N 0) : H214 a m r = rI (N 1) m r := by
  unfold H214
  rw [kwObj k₁, c₁, ccIte, if_neg (by intro y; exact y rfl)]
  rfl
theorem kwE230 {m : mMi} {r : mRs} {b : Nat} (h : b < 128) : H230 (N b) m r = rI (N 1) m r := by
  have e₁ : ¬ N 255 < N b := by rw [N_lt (by omega) (by omega)]; omega
  unfold H230
  rw [ccIte, if_neg e₁]
  rfl
theorem kwB8 {b : Nat} (h : b < 128) : Int8.toInt32 (Int32.toInt8 (N b)) = N b := by
  have y : ∀ b : Fin 128, Int8.toInt32 (Int32.toInt8 (N b.val)) = N b.val := by decide
  exact y ⟨b, h⟩
theorem kwAry {n x : Nat} (h : x < n) (h₁ : n ≤ 100000) : mIsArr (some (22, n)) 22 (N x) = true ∧ mIsArr (some (22, n)) 21 (N x) = false := by
  constructor
  · show (Nat.beq 22 22 && mIn (N x) n) = true
    rw [mIn_N h (by omega)]
    rfl
  · rfl
theorem kwGetL {t u : List Nat} {k : Nat} (h : k < t.length) : (t ++ u).getD k 0 = t.getD k 0 := by
  rw [List.getD_eq_getElem?_getD, List.getD_eq_getElem?_getD, List.getElem?_append_left h]
theorem kwGetR {t u : List Nat} {k : Nat} (h : t.length ≤ k) : (t ++ u).getD k 0 = u.getD (k - t.length) 0 := by
  rw [List.getD_eq_getElem?_getD, List.getD_eq_getElem?_getD, List.getElem?_append_right h]
/-- a letter is put behind -/
theorem kwE210 {n₀ : Nat} {m : mMi} {r : mRs} {a cap b : Nat} {t : List Nat} (h : kwB n₀ m r a cap t) (nx : kwNx r) (hb : b < 128) (hl : t.length < 9000) : ∃ M R cap₁, H210 a (N b) m r = some (.inl (some (mR 9 a 0)), M, R) ∧ kwB n₀ M R a cap₁ (t ++ [b]) ∧ kwRs 1 (2 * t.length + 2) r R ∧ kwOp n₀ r m M R := by
  obtain ⟨m₁, r₁, cap₁, e₁, h₁, g₁, f₁, o₁⟩ := kwE212 h nx (by omega : t.length + 1 ≤ 9000)
  obtain ⟨v₀, _, k₀, _, _, _, c₀, _⟩ := h
  obtain ⟨v, ⟨a₁, a₂, a₃, a₄, a₅⟩, k₁, k₂, k₃, c₁, c₂, l₁, l₂, y₁, y₂⟩ := h₁
  obtain ⟨i₁, i₂⟩ := kwAry (n := cap₁) (x := t.length) (by omega) (by omega)
  have el : (t ++ [b]).length = t.length + 1 := by rw [List.length_append]; rfl
  refine ⟨mset (mset m₁ 9 a 0 3 (N (t.length + 1))) 9 v 0 t.length (N b), r₁, cap₁, ?_, ⟨v, ⟨a₁, a₂, a₃, a₄, a₅⟩, k₁, k₂, k₃, ?_, ?_, by omega, l₂, fun k y => ?_, fun k y => ?_⟩, kwRs_le f₁ (by omega) (by omega), ⟨fun f i j p y => ?_, o₁.2⟩⟩
  · unfold H210
    rw [kwObj k₀, kwObj k₀, c₀, N_add, e₁, ccBv, kwObj k₁, kwE214 k₁ c₁, ccBi, ccIte, if_neg (by decide), kwE230 hb, ccBi, ccIte, if_neg (by decide), kwObj k₁, k₂, kwGw, kwObj k₁, kwObj k₁, c₂, k₃, i₂, i₁, ccMckT, N_add, mix_N (by omega), kwB8 hb, kwB8 hb]
    rfl
  · rw [ccRd, if_neg (by omega), ccRd, if_neg (by omega)]; exact c₁
  · rw [ccRd, if_neg (by omega), ccRd, if_pos ⟨rfl, rfl, rfl, rfl⟩, el]
  · rw [ccRd]
    by_cases z : k = t.length
    · rw [if_pos ⟨rfl, rfl, rfl, z⟩]; exact ⟨b, hb, rfl⟩
    · rw [if_neg (fun u => z u.2.2.2), ccRd, if_neg (by omega)]; exact y₁ k y
  · rw [ccRd]
    by_cases z : k = t.length
    · rw [if_pos ⟨rfl, rfl, rfl, z⟩, kwGetR (by omega), z, Nat.sub_self]
      exact ⟨hb, rfl⟩
    · rw [if_neg (fun u => z u.2.2.2), ccRd, if_neg (by omega), kwGetL (by omega)]
      exact y₂ k (by omega)
  · rw [ccRd, if_neg (by omega), ccRd, if_neg (by omega)]
    exact o₁.1 f i j p y
theorem kwE202 {n₀ : Nat} {m : mMi} {r : mRs} {a cap b : Nat} {t : List Nat} (h : kwB n₀ m r a cap t) (nx : kwNx r) (hb : b < 128) (hl : t.length < 9000) : ∃ M R cap₁, H202 a (N b) m r = some (.inl (some (mR 9 a 0)), M, R) ∧ kwB n₀ M R a cap₁ (t ++ [b]) ∧ kwRs 1 (2 * t.length + 2) r R ∧ kwOp n₀ r m M R := by
  obtain ⟨M, R, cap₁, e₁, h₁, f₁, o₁⟩ := kwE210 h nx hb hl
  refine ⟨M, R, cap₁, ?_, h₁, f₁, o₁⟩
  obtain ⟨v₀, _, k₀, _⟩ := h
  unfold H202
  rw [kwObj k₀, e₁, kwBr]
/-- the letters of a text of the pools -/
def kwPool (k : Nat) (u : List Nat) : Prop := mTxO k = true ∧ mTxt k = u.map N ∧ u.length ≤ 20 ∧ ∀ b, b ∈ u → b < 128
theorem kwPool_g {k x : Nat} {u : List Nat} (h : mTxt k = u.map N) (h₁ : x < u.length) : (mTxt k).getD x 0 = N (u.getD x 0) := by
  rw [h, List.getD_eq_getElem?_getD, List.getD_eq_getElem?_getD, List.getElem?_map, List.getElem?_eq_getElem h₁]
  rfl
/-- a text of the pools is put behind -/
theorem kwE201c {n₀ : Nat} {m m₁ : mMi} {r r₁ : mRs} {a cap cap₁ k : Nat} {t u : List Nat} (h : kwB n₀ m r a cap t) (e₁ : H212 a (N (t.length + u.length)) m r = rV m₁ r₁) (h₁ : kwB n₀ m₁ r₁ a cap₁ t) (g₁ : t.length + u.length ≤ cap₁) (o₁ : kwOp n₀ r m m₁ r₁) (hk : kwPool k u) : ∃ M, H201 a k m r = some (.inl (some (mR 9 a 0)), M, r₁) ∧ kwB n₀ M r₁ a cap₁ (t ++ u) ∧ kwOp n₀ r m M r₁ := by
  obtain ⟨p₁, p₂, p₃, p₄⟩ := hk
  have lu : (mTxt k).length = u.length := by rw [p₂, List.length_map]
  obtain ⟨v₀, _, k₀, _, _, _, c₀, _⟩ := h
  obtain ⟨v, ⟨a₁, a₂, a₃, a₄, a₅⟩, k₁, k₂, k₃, c₁, c₂, l₁, l₂, y₁, y₂⟩ := h₁
  have el : (t ++ u).length = t.length + u.length := List.length_append
  have z₀ : (0 : Int32) = N 0 := rfl
  have sp : mSpanB (some (22, cap₁)) (N t.length) u.length = true := by
    have s₁ : ¬ N t.length < N 0 := by rw [N_lt (by omega) (by omega)]; omega
    have s₂ : Nat.ble (t.length + u.length) cap₁ = true := Nat.ble_eq_true_of_le (by omega)
    show (!(decide (N t.length < 0)) && Nat.ble (mix (N t.length) + u.length) cap₁) = true
    rw [z₀, decide_eq_false s₁, mix_N (by omega), s₂]
    rfl
  have s₃ : H216 a k (N t.length) m₁ r₁ = rV (mput m₁ k 9 v 0 t.length) r₁ := by
    unfold H216 H215
    rw [kwObj k₁, kwObj k₁, p₁, ccMckT, c₁, ccIte, if_pos rfl, ccBv, kwObj k₁, k₂, kwGw, kwObj k₁, k₃, lu, sp, c₁, z₀, decide_eq_true rfl, mix_N (by omega)]
    rfl
  refine ⟨mset (mput m₁ k 9 v 0 t.length) 9 a 0 3 (N (t.length + u.length)), ?_, ⟨v, ⟨a₁, a₂, a₃, a₄, a₅⟩, k₁, k₂, k₃, ?_, ?_, by omega, l₂, fun x y => ?_, fun x y => ?_⟩, ⟨fun f i j p y => ?_, o₁.2⟩⟩
  · have g₂ : mput m₁ k 9 v 0 t.length 9 a 0 3 = N t.length := by rw [kwPutR, if_neg (by omega)]; exact c₂
    unfold H201 H209
    rw [kwObj k₀, p₁, ccMckT, kwObj k₀, kwObj k₀, c₀, kwOf, lu, N_add, e₁, ccBv, kwObj k₁, kwObj k₁, c₂, s₃, ccBv, kwObj k₁, kwObj k₁, g₂, N_add, kwBr]
  · rw [ccRd, if_neg (by omega), kwPutR, if_neg (by omega)]; exact c₁
  · rw [ccRd, if_pos ⟨rfl, rfl, rfl, rfl⟩, el]
  · rw [ccRd, if_neg (by omega), kwPutR, lu]
    by_cases z : t.length ≤ x ∧ x < t.length + u.length
    · rw [if_pos ⟨rfl, rfl, rfl, z.1, z.2⟩, kwPool_g p₂ (by omega)]
      have s₄ : x - t.length < u.length := by omega
      refine ⟨u.getD (x - t.length) 0, p₄ _ ?_, rfl⟩
      rw [List.getD_eq_getElem?_getD, List.getElem?_eq_getElem s₄]
      exact List.getElem_mem s₄
    · rw [if_neg (fun w => z w.2.2.2)]; exact y₁ x y
  · rw [ccRd, if_neg (by omega), kwPutR, lu]
    by_cases z : t.length ≤ x
    · have s₄ : x - t.length < u.length := by omega
      rw [if_pos ⟨rfl, rfl, rfl, z, by omega⟩, kwPool_g p₂ (by omega), kwGetR z]
      refine ⟨p₄ _ ?_, rfl⟩
      rw [List.getD_eq_getElem?_getD, List.getElem?_eq_getElem s₄]
      exact List.getElem_mem s₄
    · rw [if_neg (fun w => z w.2.2.2.1), kwGetL (by omega)]; exact y₂ x (by omega)
  · rw [ccRd, if_neg (by omega), kwPutR, if_neg (by omega)]
    exact o₁.1 f i j p y
theorem kwE201 {n₀ : Nat} {m : mMi} {r : mRs} {a cap k : Nat} {t u : List Nat} (h : kwB n₀ m r a cap t) (nx : kwNx r) (hk : kwPool k u) (hl : t.length < 8000) : ∃ M R cap₁, H201 a k m r = some (.inl (some (mR 9 a 0)), M, R) ∧ kwB n₀ M R a cap₁ (t ++ u) ∧ kwRs 1 (2 * t.length + 2 * u.length) r R ∧ kwOp n₀ r m M R := by
  have lu := hk.2.2.1
  obtain ⟨m₁, r₁, cap₁, e₁, h₁, g₁, f₁, o₁⟩ := kwE212 h nx (by omega : t.length + u.length ≤ 9000)
  obtain ⟨M, z₁, z₂, z₃⟩ := kwE201c h e₁ h₁ g₁ o₁ hk
  exact ⟨M, r₁, cap₁, z₁, z₂, kwRs_le f₁ (by omega) (by omega), z₃⟩
