/-! THE METHODS BY THEIR WORDS. -/
theorem mWord_good (y : Nat) : goodWord (mWord y) = true := by
  unfold mWord
  cases mHH y <;> rfl
theorem mWord_lw {y : Nat} (h : mWord y ∈ tables_1) : mWord y ∈ gTbl := List.mem_filter.mpr ⟨List.mem_append.mpr (Or.inl (List.mem_append.mpr (Or.inr h))), mWord_good y⟩
theorem mWordE_172 : mWord 172 = Jvm.Cond.code ⟨"CardCastleLaw$World", "<init>", "(LCardCastleLaw$Draws;)V"⟩ prog_15_method_1_code 3 none := rfl
theorem mWordB_172 : mWord 172 ∈ gTbl := by
  refine mWord_lw ?_
  rw [mWordE_172]
  have h : Jvm.Cond.code ⟨"CardCastleLaw$World", "<init>", "(LCardCastleLaw$Draws;)V"⟩ prog_15_method_1_code 3 none ∈ tables_1_2 := List.mem_of_getElem? (i := 157) rfl
  exact (List.mem_append_right _ (List.mem_append_left _ h))
theorem mWordE_198 : mWord 198 = Jvm.Cond.code ⟨"CardCastleLaw$World", "<init>", "(LCardCastleLaw$World;)V"⟩ prog_15_method_2_code 3 none := rfl
theorem mWordB_198 : mWord 198 ∈ gTbl := by
  refine mWord_lw ?_
  rw [mWordE_198]
  have h : Jvm.Cond.code ⟨"CardCastleLaw$World", "<init>", "(LCardCastleLaw$World;)V"⟩ prog_15_method_2_code 3 none ∈ tables_1_7 := List.mem_of_getElem? (i := 114) rfl
  exact (List.mem_append_right _ (List.mem_append_right _ (List.mem_append_right _ (List.mem_append_right _ (List.mem_append_right _ (List.mem_append_right _ (List.mem_append_left _ h)))))))
theorem mWordE_239 : mWord 239 = Jvm.Cond.code ⟨"CardCastleLaw", "calls", "(LCardCastle;I[I)J"⟩ method_4_code 3 (some .long) := rfl
theorem mWordB_239 : mWord 239 ∈ gTbl := by
  refine mWord_lw ?_
  rw [mWordE_239]
  have h : Jvm.Cond.code ⟨"CardCastleLaw", "calls", "(LCardCastle;I[I)J"⟩ method_4_code 3 (some .long) ∈ tables_1_5 := List.mem_of_getElem? (i := 230) rfl
  exact (List.mem_append_right _ (List.mem_append_right _ (List.mem_append_right _ (List.mem_append_right _ (List.mem_append_left _ h)))))
theorem mWordE_240 : mWord 240 = Jvm.Cond.code ⟨"CardCastleLaw", "isLike", "(LCardCastle;LCardCastleLaw$World;)Z"⟩ method_6_code 11 (some .boolean) := rfl
theorem mWordB_240 : mWord 240 ∈ gTbl := by
  refine mWord_lw ?_
  rw [mWordE_240]
  have h : Jvm.Cond.code ⟨"CardCastleLaw", "isLike", "(LCardCastle;LCardCastleLaw$World;)Z"⟩ method_6_code 11 (some .boolean) ∈ tables_1_7 := List.mem_of_getElem? (i := 20) rfl
  exact (List.mem_append_right _ (List.mem_append_right _ (List.mem_append_right _ (List.mem_append_right _ (List.mem_append_right _ (List.mem_append_right _ (List.mem_append_left _ h)))))))
theorem mWordE_241 : mWord 241 = Jvm.Cond.code ⟨"CardCastleLaw", "act", "(LCardCastle;LCardCastleLaw$World;LCardCastleLaw$Draws;)Z"⟩ method_7_code 10 (some .boolean) := rfl
theorem mWordB_241 : mWord 241 ∈ gTbl := by
  refine mWord_lw ?_
  rw [mWordE_241]
  have h : Jvm.Cond.code ⟨"CardCastleLaw", "act", "(LCardCastle;LCardCastleLaw$World;LCardCastleLaw$Draws;)Z"⟩ method_7_code 10 (some .boolean) ∈ tables_1_7 := List.mem_of_getElem? (i := 43) rfl
  exact (List.mem_append_right _ (List.mem_append_right _ (List.mem_append_right _ (List.mem_append_right _ (List.mem_append_right _ (List.mem_append_right _ (List.mem_append_left _ h)))))))
theorem mWordE_242 : mWord 242 = Jvm.Cond.code ⟨"CardCastleLaw", "looks", "(LCardCastle;LCardCastleLaw$World;)Z"⟩ method_9_code 18 (some .boolean) := rfl
theorem mWordB_242 : mWord 242 ∈ gTbl := by
  refine mWord_lw ?_
  rw [mWordE_242]
  have h : Jvm.Cond.code ⟨"CardCastleLaw", "looks", "(LCardCastle;LCardCastleLaw$World;)Z"⟩ method_9_code 18 (some .boolean) ∈ tables_1_7 := List.mem_of_getElem? (i := 63) rfl
  exact (List.mem_append_right _ (List.mem_append_right _ (List.mem_append_right _ (List.mem_append_right _ (List.mem_append_right _ (List.mem_append_right _ (List.mem_append_left _ h)))))))
set_option maxRecDepth 100000 in
theorem mWord_0 : ∀ y, y < 8 → lw_tbl[mWP (0 + y)]? = some (mWord (0 + y)) := by decide +kernel
set_option maxRecDepth 100000 in
theorem mWord_8 : ∀ y, y < 8 → lw_tbl[mWP (8 + y)]? = some (mWord (8 + y)) := by decide +kernel
set_option maxRecDepth 100000 in
theorem mWord_16 : ∀ y, y < 8 → lw_tbl[mWP (16 + y)]? = some (mWord (16 + y)) := by decide +kernel
set_option maxRecDepth 100000 in
theorem mWord_24 : ∀ y, y < 8 → lw_tbl[mWP (24 + y)]? = some (mWord (24 + y)) := by decide +kernel
set_option maxRecDepth 100000 in
theorem mWord_32 : ∀ y, y < 8 → lw_tbl[mWP (32 + y)]? = some (mWord (32 + y)) := by decide +kernel
set_option maxRecDepth 100000 in
theorem mWord_40 : ∀ y, y < 8 → lw_tbl[mWP (40 + y)]? = some (mWord (40 + y)) := by decide +kernel
set_option maxRecDepth 100000 in
theorem mWord_48 : ∀ y, y < 8 → lw_tbl[mWP (48 + y)]? = some (mWord (48 + y)) := by decide +kernel
set_option maxRecDepth 100000 in
theorem mWord_56 : ∀ y, y < 8 → lw_tbl[mWP (56 + y)]? = some (mWord (56 + y)) := by decide +kernel
set_option maxRecDepth 100000 in
theorem mWord_64 : ∀ y, y < 8 → lw_tbl[mWP (64 + y)]? = some (mWord (64 + y)) := by decide +kernel
set_option maxRecDepth 100000 in
theorem mWord_72 : ∀ y, y < 8 → lw_tbl[mWP (72 + y)]? = some (mWord (72 + y)) := by decide +kernel
set_option maxRecDepth 100000 in
theorem mWord_80 : ∀ y, y < 8 → lw_tbl[mWP (80 + y)]? = some (mWord (80 + y)) := by decide +kernel
set_option maxRecDepth 100000 in
theorem mWord_88 : ∀ y, y < 8 → lw_tbl[mWP (88 + y)]? = some (mWord (88 + y)) := by decide +kernel
set_option maxRecDepth 100000 in
theorem mWord_96 : ∀ y, y < 8 → lw_tbl[mWP (96 + y)]? = some (mWord (96 + y)) := by decide +kernel
set_option maxRecDepth 100000 in
theorem mWord_104 : ∀ y, y < 8 → lw_tbl[mWP (104 + y)]? = some (mWord (104 + y)) := by decide +kernel
set_option maxRecDepth 100000 in
theorem mWord_112 : ∀ y, y < 8 → lw_tbl[mWP (112 + y)]? = some (mWord (112 + y)) := by decide +kernel
set_option maxRecDepth 100000 in
theorem mWord_120 : ∀ y, y < 8 → lw_tbl[mWP (120 + y)]? = some (mWord (120 + y)) := by decide +kernel
set_option maxRecDepth 100000 in
theorem mWord_128 : ∀ y, y < 8 → lw_tbl[mWP (128 + y)]? = some (mWord (128 + y)) := by decide +kernel
set_option maxRecDepth 100000 in
theorem mWord_136 : ∀ y, y < 8 → lw_tbl[mWP (136 + y)]? = some (mWord (136 + y)) := by decide +kernel
set_option maxRecDepth 100000 in
theorem mWord_144 : ∀ y, y < 8 → lw_tbl[mWP (144 + y)]? = some (mWord (144 + y)) := by decide +kernel
set_option maxRecDepth 100000 in
theorem mWord_152 : ∀ y, y < 8 → lw_tbl[mWP (152 + y)]? = some (mWord (152 + y)) := by decide +kernel
set_option maxRecDepth 100000 in
theorem mWord_160 : ∀ y, y < 8 → lw_tbl[mWP (160 + y)]? = some (mWord (160 + y)) := by decide +kernel
set_option maxRecDepth 100000 in
theorem mWord_168 : ∀ y, y < 4 → lw_tbl[mWP (168 + y)]? = some (mWord (168 + y)) := by decide +kernel
set_option maxRecDepth 100000 in
theorem mWord_173 : ∀ y, y < 8 → lw_tbl[mWP (173 + y)]? = some (mWord (173 + y)) := by decide +kernel
set_option maxRecDepth 100000 in
theorem mWord_181 : ∀ y, y < 8 → lw_tbl[mWP (181 + y)]? = some (mWord (181 + y)) := by decide +kernel
set_option maxRecDepth 100000 in
theorem mWord_189 : ∀ y, y < 8 → lw_tbl[mWP (189 + y)]? = some (mWord (189 + y)) := by decide +kernel
set_option maxRecDepth 100000 in
theorem mWord_197 : ∀ y, y < 1 → lw_tbl[mWP (197 + y)]? = some (mWord (197 + y)) := by decide +kernel
set_option maxRecDepth 100000 in
theorem mWord_199 : ∀ y, y < 8 → lw_tbl[mWP (199 + y)]? = some (mWord (199 + y)) := by decide +kernel
set_option maxRecDepth 100000 in
theorem mWord_207 : ∀ y, y < 8 → lw_tbl[mWP (207 + y)]? = some (mWord (207 + y)) := by decide +kernel
set_option maxRecDepth 100000 in
theorem mWord_215 : ∀ y, y < 8 → lw_tbl[mWP (215 + y)]? = some (mWord (215 + y)) := by decide +kernel
set_option maxRecDepth 100000 in
theorem mWord_223 : ∀ y, y < 8 → lw_tbl[mWP (223 + y)]? = some (mWord (223 + y)) := by decide +kernel
set_option maxRecDepth 100000 in
theorem mWord_231 : ∀ y, y < 8 → lw_tbl[mWP (231 + y)]? = some (mWord (231 + y)) := by decide +kernel
set_option maxRecDepth 100000 in
theorem mWord_243 : ∀ y, y < 2 → lw_tbl[mWP (243 + y)]? = some (mWord (243 + y)) := by decide +kernel
theorem mWord_in {y : Nat} (h : y < 245) : mWord y ∈ gTbl := by
  by_cases e172 : y = 172
  · rw [e172]; exact mWordB_172
  by_cases e198 : y = 198
  · rw [e198]; exact mWordB_198
  by_cases e239 : y = 239
  · rw [e239]; exact mWordB_239
  by_cases e240 : y = 240
  · rw [e240]; exact mWordB_240
  by_cases e241 : y = 241
  · rw [e241]; exact mWordB_241
  by_cases e242 : y = 242
  · rw [e242]; exact mWordB_242
  refine gTbl_of (mWP y) ?_ (mWord_good y)
  by_cases q0 : 0 ≤ y ∧ y < 8
  · have := mWord_0 (y - 0) (by omega)
    rwa [show 0 + (y - 0) = y by omega] at this
  by_cases q8 : 8 ≤ y ∧ y < 16
  · have := mWord_8 (y - 8) (by omega)
    rwa [show 8 + (y - 8) = y by omega] at this
  by_cases q16 : 16 ≤ y ∧ y < 24
  · have := mWord_16 (y - 16) (by omega)
    rwa [show 16 + (y - 16) = y by omega] at this
  by_cases q24 : 24 ≤ y ∧ y < 32
  · have := mWord_24 (y - 24) (by omega)
    rwa [show 24 + (y - 24) = y by omega] at this
  by_cases q32 : 32 ≤ y ∧ y < 40
  · have := mWord_32 (y - 32) (by omega)
    rwa [show 32 + (y - 32) = y by omega] at this
  by_cases q40 : 40 ≤ y ∧ y < 48
  · have := mWord_40 (y - 40) (by omega)
    rwa [show 40 + (y - 40) = y by omega] at this
  by_cases q48 : 48 ≤ y ∧ y < 56
  · have := mWord_48 (y - 48) (by omega)
    rwa [show 48 + (y - 48) = y by omega] at this
  by_cases q56 : 56 ≤ y ∧ y < 64
  · have := mWord_56 (y - 56) (by omega)
    rwa [show 56 + (y - 56) = y by omega] at this
  by_cases q64 : 64 ≤ y ∧ y < 72
  · have := mWord_64 (y - 64) (by omega)
    rwa [show 64 + (y - 64) = y by omega] at this
  by_cases q72 : 72 ≤ y ∧ y < 80
  · have := mWord_72 (y - 72) (by omega)
    rwa [show 72 + (y - 72) = y by omega] at this
  by_cases q80 : 80 ≤ y ∧ y < 88
  · have := mWord_80 (y - 80) (by omega)
    rwa [show 80 + (y - 80) = y by omega] at this
  by_cases q88 : 88 ≤ y ∧ y < 96
  · have := mWord_88 (y - 88) (by omega)
    rwa [show 88 + (y - 88) = y by omega] at this
  by_cases q96 : 96 ≤ y ∧ y < 104
  · have := mWord_96 (y - 96) (by omega)
    rwa [show 96 + (y - 96) = y by omega] at this
  by_cases q104 : 104 ≤ y ∧ y < 112
  · have := mWord_104 (y - 104) (by omega)
    rwa [show 104 + (y - 104) = y by omega] at this
  by_cases q112 : 112 ≤ y ∧ y < 120
  · have := mWord_112 (y - 112) (by omega)
    rwa [show 112 + (y - 112) = y by omega] at this
  by_cases q120 : 120 ≤ y ∧ y < 128
  · have := mWord_120 (y - 120) (by omega)
    rwa [show 120 + (y - 120) = y by omega] at this
  by_cases q128 : 128 ≤ y ∧ y < 136
  · have := mWord_128 (y - 128) (by omega)
    rwa [show 128 + (y - 128) = y by omega] at this
  by_cases q136 : 136 ≤ y ∧ y < 144
  · have := mWord_136 (y - 136) (by omega)
    rwa [show 136 + (y - 136) = y by omega] at this
  by_cases q144 : 144 ≤ y ∧ y < 152
  · have := mWord_144 (y - 144) (by omega)
    rwa [show 144 + (y - 144) = y by omega] at this
  by_cases q152 : 152 ≤ y ∧ y < 160
  · have := mWord_152 (y - 152) (by omega)
    rwa [show 152 + (y - 152) = y by omega] at this
  by_cases q160 : 160 ≤ y ∧ y < 168
  · have := mWord_160 (y - 160) (by omega)
    rwa [show 160 + (y - 160) = y by omega] at this
  by_cases q168 : 168 ≤ y ∧ y < 172
  · have := mWord_168 (y - 168) (by omega)
    rwa [show 168 + (y - 168) = y by omega] at this
  by_cases q173 : 173 ≤ y ∧ y < 181
  · have := mWord_173 (y - 173) (by omega)
    rwa [show 173 + (y - 173) = y by omega] at this
  by_cases q181 : 181 ≤ y ∧ y < 189
  · have := mWord_181 (y - 181) (by omega)
    rwa [show 181 + (y - 181) = y by omega] at this
  by_cases q189 : 189 ≤ y ∧ y < 197
  · have := mWord_189 (y - 189) (by omega)
    rwa [show 189 + (y - 189) = y by omega] at this
  by_cases q197 : 197 ≤ y ∧ y < 198
  · have := mWord_197 (y - 197) (by omega)
    rwa [show 197 + (y - 197) = y by omega] at this
  by_cases q199 : 199 ≤ y ∧ y < 207
  · have := mWord_199 (y - 199) (by omega)
    rwa [show 199 + (y - 199) = y by omega] at this
  by_cases q207 : 207 ≤ y ∧ y < 215
  · have := mWord_207 (y - 207) (by omega)
    rwa [show 207 + (y - 207) = y by omega] at this
  by_cases q215 : 215 ≤ y ∧ y < 223
  · have := mWord_215 (y - 215) (by omega)
    rwa [show 215 + (y - 215) = y by omega] at this
  by_cases q223 : 223 ≤ y ∧ y < 231
  · have := mWord_223 (y - 223) (by omega)
    rwa [show 223 + (y - 223) = y by omega] at this
  by_cases q231 : 231 ≤ y ∧ y < 239
  · have := mWord_231 (y - 231) (by omega)
    rwa [show 231 + (y - 231) = y by omega] at this
  by_cases q243 : 243 ≤ y ∧ y < 245
  · have := mWord_243 (y - 243) (by omega)
    rwa [show 243 + (y - 243) = y by omega] at this
  omega
