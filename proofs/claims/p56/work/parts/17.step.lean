/-! EVERY STEP OF THE SMALL MACHINE IS THE MACHINE'S. -/
theorem mif_imp {b : Bool} {P Q P' Q' : Prop} (h : mif b P Q) (h1 : P → P') (h2 : Q → Q') : mif b P' Q' := by
  cases b
  · exact h2 h
  · exact h1 h
def mLt (cf sf : Nat) (x : mS) : Prop := match x with
  | .inl (_, _, _, h') => mCt h' ≤ cf ∧ mSl h' ≤ sf
  | .inr (.inl (_, h')) => mCt h' ≤ cf ∧ mSl h' ≤ sf
  | .inr (.inr _) => True
/-- what a return answers, and of which kind the method is -/
def mRetOk (y : Nat) (ins : Instr) (r : Option mV) : Prop := match ins, r with
  | .return_, none => Nat.beq (mRet y) 0 = true
  | .ireturn, some (.inl x) => ((Nat.beq (mRet y) 8 && decide (x = 0)) || Nat.beq (mRet y) 1 || (Nat.beq (mRet y) 2 && mZ x) || (Nat.beq (mRet y) 3 && !(decide (x < 0)) && Nat.blt (mix x) 65536)) = true
  | .freturn, some (.inr (.inr (.inr (.inl _)))) => Nat.beq (mRet y) 4 = true
  | .lreturn, some (.inr (.inr (.inl _))) => Nat.beq (mRet y) 6 = true
  | .areturn, some (.inr (.inl (some _))) => Nat.beq (mRet y) 7 = true
  | .dreturn, some (.inr (.inr (.inr (.inr _)))) => Nat.beq (mRet y) 5 = true
  | _, _ => False
theorem mi_aastore {p : Program} {l : Launch} {e : Env} {R : Room} {s : State} {m : MethodId} {args : Array Value} {below : List Frame} {meth : Method} {c : Code} {D : va_G} {ad : mAd} {b0 y c0 s0 : Nat} {Z : State → Prop} {h : mH} {pc : Nat} {lo : mLo} {st : mSt} (hF : mFr y p s m args meth c) (hV : mV0 ad b0 D s) {f i j f2 i2 j2 : Nat} {x : Int32} (hd : cd y pc = some .aastore) (ho : mIsArr (mSh h f i j) 25 x = true) (ho2 : mIsObj (mSh h f2 i2 j2) 1 = true) (k : mW p l e R s m args below meth c D ad b0 y c0 s0 Z ((h.1.1, mrset h.1.2 f i j (mix x) (some (f2, i2, j2))), h.2) (pc + 1) lo st) : mW p l e R s m args below meth c D ad b0 y c0 s0 Z h pc lo (.inr (.inl (some (f2, i2, j2))) :: .inl x :: .inr (.inl (some (f, i, j))) :: st) := by
  intro H locs ls na h1 h2 h3 h4 h5
  have hdc := mDc hF.2.2.2.2.2.1.2 hd rfl rfl
  obtain ⟨n, e1, hin⟩ := mIsArr_spec ho
  obtain ⟨n2, e2⟩ := mIsObj_spec ho2
  obtain ⟨cA, q1, q2, q3⟩ := (h1.at e1).2.2.2.2.2.2.2.2 rfl
  have hO := (h1.at e2).2.2.1 (by decide)
  obtain ⟨cellV, g1, g2, g3, -⟩ := hO
  have hf3 := mKind_f h1.1 e1 ⟨by omega, by omega⟩
  obtain ⟨a, ha, ha2⟩ := mAd_ge hV.1 h1 e1 hf3
  have hlt : x.toNatClampNeg < n := Nat.not_le.mp fun q => hin (Or.inr q)
  have h0 : ¬ x < 0 := fun q => hin (Or.inl q)
  have hcls := (hV.2.1 1 _ (mcl_at (by decide))).2
  obtain ⟨kA, comp, k1, k2, k3, k5⟩ := q3
  have hcomp : comp = D.1 1 := Option.some.inj (k3.symm.trans hcls.1)
  subst hcomp
  obtain ⟨kC, hkC, -⟩ := hcls.2
  refine W.aast hF.1 hF.2.1 q1 (fun q h => by cases h) (fun h => by cases h) k1 k2 rfl hkC ⟨h0, by show _ < (arrV _ _ _).slots.size; rw [arrV_size]; exact hlt⟩ g1 (fun q h => by rw [g3] at h; cases h) (by rw [g2]; exact hkC) (by rw [g2]; exact va_assign hcls) rfl rfl hdc fun H1 e3 z oq => ?_
  refine k H1 _ ls na ?_ (h2.put z oq (by show b0 ≤ _; omega)) h3 h4 h5
  refine mRel.upd hV.1 h1 e1 hf3 z oq rfl rfl (fun f' i' j' hne => mrset_ne hne) (fun _ _ _ _ => rfl) fun _ => ?_
  refine ⟨fun z => by omega, by omega, fun z => by omega, fun z => by omega, fun z => by omega, fun z => by omega, fun z => by omega, fun z => by omega, fun _ => ⟨cA, ?_, q2, ⟨kA, _, k1, k2, k3, k5⟩⟩⟩
  show H1[ad f i j]? = some (vp_cell cA (n, .inr (.inr (.inr (.inr fun q => mOp ad (mrset h.1.2 f i j (mix x) (some (f2, i2, j2)) f i j q))))))
  rw [e3]
  rw [vp_cell_q, vp_cell_q, arrV_store, mrset_at]
  congr 2
  funext q
  by_cases hq : q = mix x
  · subst hq
    simp [updV, mUpR, mOp, va_rf]
  · simp only [updV, mUpR, if_neg hq]
    rfl
set_option maxRecDepth 100000 in
set_option maxHeartbeats 8000000 in
theorem mx_sound {p : Program} {l : Launch} {e : Env} {R : Room} {s : State} {m : MethodId} {args : Array Value} {below : List Frame} {meth : Method} {c : Code} {D : va_G} {ad : mAd} {b0 y c0 s0 : Nat} {Z : State → Prop} {h : mH} {pc : Nat} {lo : mLo} {st : mSt} {ins : Instr} {K : mS → Prop} {cf sf : Nat} (hF : mFr y p s m args meth c) (hE : mEv ad b0 D s) (hRc : cf - c0 ≤ R.cells ∧ sf - s0 ≤ R.slots) (hd : cd y pc = some ins) (hk : mx (mOwn y) y pc ins lo st h K) (hc : ∀ x, K x → mLt cf sf x)
    (hgo : ∀ pc' lo' st' h', K (.inl (pc', lo', st', h')) → mW p l e R s m args below meth c D ad b0 y c0 s0 Z h' pc' lo' st')
    (hret : ∀ r, K (.inr (.inl (.inl r, h))) → mRetOk y ins r → st = r.toList → mW p l e R s m args below meth c D ad b0 y c0 s0 Z h pc lo st)
    (hthr : ∀ ix ci n h', K (.inr (.inl (.inr (ci - 900), h'))) → ins = .new ix → mNew (mOwn y) ix = some (ci, n) → Nat.ble 900 ci = true → h' = (h.1, (h.2.1, (mQ h, mNx h + 1, mCt h + 1, mSl h + 6))) → mDeep st = true → mW p l e R s m args below meth c D ad b0 y c0 s0 Z h pc lo st) : mW p l e R s m args below meth c D ad b0 y c0 s0 Z h pc lo st := by
  unfold mx at hk
  split at hk
  · split at hk
    · rename_i heq
      exact mi_aload_n hF hd heq (hgo _ _ _ _ hk)
    · exact hk.elim
  · split at hk
    · rename_i heq
      exact mi_aload hF hd heq (hgo _ _ _ _ hk)
    · exact hk.elim
  · split at hk
    · rename_i heq
      exact mi_iload_n hF hd heq (hgo _ _ _ _ hk)
    · exact hk.elim
  · split at hk
    · rename_i heq
      exact mi_iload hF hd heq (hgo _ _ _ _ hk)
    · exact hk.elim
  · split at hk
    · rename_i heq
      exact mi_fload hF hd heq (hgo _ _ _ _ hk)
    · exact hk.elim
  · split at hk
    · rename_i heq
      exact mi_dload hF hd heq (hgo _ _ _ _ hk)
    · exact hk.elim
  · obtain ⟨hb, hk⟩ := mck_iff.mp hk
    exact mi_istore_n hF hd hb (hgo _ _ _ _ hk)
  · obtain ⟨hb, hk⟩ := mck_iff.mp hk
    exact mi_istore hF hd hb (hgo _ _ _ _ hk)
  · obtain ⟨hb, hk⟩ := mck_iff.mp hk
    exact mi_astore_n hF hd hb (hgo _ _ _ _ hk)
  · obtain ⟨hb, hk⟩ := mck_iff.mp hk
    exact mi_astore hF hd hb (hgo _ _ _ _ hk)
  · obtain ⟨hb, hk⟩ := mck_iff.mp hk
    exact mi_fstore hF hd hb (hgo _ _ _ _ hk)
  · obtain ⟨hb, hk⟩ := mck_iff.mp hk
    exact mi_dstore hF hd hb (hgo _ _ _ _ hk)
  · exact mi_iconst hF hd (hgo _ _ _ _ hk)
  · exact mi_bipush hF hd (hgo _ _ _ _ hk)
  · exact mi_sipush hF hd (hgo _ _ _ _ hk)
  · exact mi_lconst hF hd (hgo _ _ _ _ hk)
  · exact mi_fconst hF hd (hgo _ _ _ _ hk)
  · exact mi_dconst hF hd (hgo _ _ _ _ hk)
  · split at hk
    · rename_i heq
      exact mi_ldc hF hE hd heq (hgo _ _ _ _ hk)
    · split at hk
      · rename_i heq
        exact mi_ldcI hF hd heq (hgo _ _ _ _ hk)
      · exact hk.elim
  · split at hk
    · rename_i heq
      exact mi_ldcwS hF hE hd heq (hgo _ _ _ _ hk)
    · split at hk
      · rename_i heq
        exact mi_ldcwI hF hd heq (hgo _ _ _ _ hk)
      · exact hk.elim
  · split at hk
    · rename_i heq
      exact mi_ldc2 hF hd heq (hgo _ _ _ _ hk)
    · exact hk.elim
  · exact mi_aconst_null hF hd (hgo _ _ _ _ hk)
  · obtain ⟨hb, hk⟩ := mck_iff.mp hk
    exact mi_ifnonnull hF hd hb (hgo _ _ _ _ hk)
  · obtain ⟨hb, hk⟩ := mck_iff.mp hk
    exact mi_dup_x1 hF hd hb (hgo _ _ _ _ hk)
  · obtain ⟨hb, hk⟩ := mck_iff.mp hk
    exact mi_i2c hF hd hb (hgo _ _ _ _ hk)
  · dsimp only at hk
    obtain ⟨hb, hk⟩ := mck_iff.mp hk
    exact mi_ccast hF hd hb (hgo _ _ _ _ hk)
  · obtain ⟨hb, hk⟩ := mck_iff.mp hk
    exact mi_dup hF hd hb (hgo _ _ _ _ hk)
  · obtain ⟨hb, hk⟩ := mck_iff.mp hk
    exact mi_dup2 hF hd hb (hgo _ _ _ _ hk)
  · obtain ⟨hb, hk⟩ := mck_iff.mp hk
    exact mi_pop hF hd hb (hgo _ _ _ _ hk)
  · exact mi_iadd hF hd (hgo _ _ _ _ hk)
  · exact mi_isub hF hd (hgo _ _ _ _ hk)
  · exact mi_imul hF hd (hgo _ _ _ _ hk)
  · obtain ⟨hb, hk⟩ := mck_iff.mp hk
    exact mi_idiv hF hd hb (hgo _ _ _ _ hk)
  · obtain ⟨hb, hk⟩ := mck_iff.mp hk
    exact mi_irem hF hd hb (hgo _ _ _ _ hk)
  · exact mi_iand hF hd (hgo _ _ _ _ hk)
  · exact mi_ishr hF hd (hgo _ _ _ _ hk)
  · exact mi_ior hF hd (hgo _ _ _ _ hk)
  · exact mi_ishl hF hd (hgo _ _ _ _ hk)
  · exact mi_ineg hF hd (hgo _ _ _ _ hk)
  · exact mi_i2b hF hd (hgo _ _ _ _ hk)
  · exact mi_i2l hF hd (hgo _ _ _ _ hk)
  · exact mi_i2f hF hd (hgo _ _ _ _ hk)
  · exact mi_i2d hF hd (hgo _ _ _ _ hk)
  · obtain ⟨hb, hk⟩ := mck_iff.mp hk
    exact mi_f2d hF hd hb (hgo _ _ _ _ hk)
  · obtain ⟨hb, hk⟩ := mck_iff.mp hk
    exact mi_fdiv hF hd hb (hgo _ _ _ _ hk)
  · obtain ⟨hb, hk⟩ := mck_iff.mp hk
    exact mi_ddiv hF hd hb (hgo _ _ _ _ hk)
  · exact mi_lcmp hF hd (hgo _ _ _ _ hk)
  · exact mi_fcmp hF hd (hgo _ _ _ _ hk)
  · exact mi_dcmp hF hd (hgo _ _ _ _ hk)
  · split at hk
    · rename_i heq
      obtain ⟨hb, hk⟩ := mck_iff.mp hk
      exact mi_iinc hF hd heq hb (hgo _ _ _ _ hk)
    · exact hk.elim
  · obtain ⟨hb, hk⟩ := mck_iff.mp hk
    exact mi_goto hF hd hb (hgo _ _ _ _ hk)
  · obtain ⟨hb, hk⟩ := mck_iff.mp hk
    exact mi_ifCond hF hd hb (mif_imp hk (hgo _ _ _ _) (hgo _ _ _ _))
  · obtain ⟨hb, hk⟩ := mck_iff.mp hk
    exact mi_if_icmp hF hd hb (mif_imp hk (hgo _ _ _ _) (hgo _ _ _ _))
  · rename_i dflt lw hi offs x st
    refine mi_tableswitch hF hd (mif_imp hk (fun q => mck_iff.mpr ⟨(mck_iff.mp q).1, hgo _ _ _ _ (mck_iff.mp q).2⟩) (fun q => ?_))
    cases ho : offs[(x.toInt - lw).toNat]? with
    | none => rw [ho] at q; exact q.elim
    | some off =>
      rw [ho] at q
      exact mck_iff.mpr ⟨(mck_iff.mp q).1, hgo _ _ _ _ (mck_iff.mp q).2⟩
  · split at hk
    · rename_i heq
      obtain ⟨hb, hk⟩ := mck_iff.mp hk
      exact mi_getfield hF hE.1 hE.2.2.2.2.1 hd heq hb (hgo _ _ _ _ hk)
    · exact hk.elim
  · split at hk
    · rename_i heq
      obtain ⟨hb, hk⟩ := mck_iff.mp hk
      exact mi_putI hF hE.1 hE.2.2.2.2.1 hd heq hb (hgo _ _ _ _ hk)
    · exact hk.elim
  · split at hk
    · rename_i heq
      obtain ⟨hb, hk⟩ := mck_iff.mp hk
      exact mi_putR hF hE.1 hE.2.2.2.2.1 hd heq hb (hgo _ _ _ _ hk)
    · exact hk.elim
  · split at hk
    · rename_i heq
      refine mi_getstatic hF hE hd heq ?_
      unfold mGv
      split at hk
      · rename_i hq
        rw [hq]
        exact hgo _ _ _ _ hk
      · rename_i hq
        rw [hq]
        exact hgo _ _ _ _ hk
    · exact hk.elim
  · dsimp only at hk
    obtain ⟨hb, hk⟩ := mck_iff.mp hk
    exact mi_iaload hF hd hb (hgo _ _ _ _ hk)
  · dsimp only at hk
    obtain ⟨hb, hk⟩ := mck_iff.mp hk
    exact mi_iastore hF hE.1 hd hb (hgo _ _ _ _ hk)
  · dsimp only at hk
    obtain ⟨hb, hk⟩ := mck_iff.mp hk
    exact mi_baload hF hd hb (hgo _ _ _ _ hk)
  · dsimp only at hk
    rcases mif_iff.mp hk with ⟨hb, hk⟩ | ⟨-, hk⟩
    · exact mi_bastoreZ hF hE.1 hd hb (hgo _ _ _ _ hk)
    · obtain ⟨hb, hk⟩ := mck_iff.mp hk
      exact mi_bastoreB hF hE.1 hd hb (hgo _ _ _ _ hk)
  · dsimp only at hk
    obtain ⟨hb, hk⟩ := mck_iff.mp hk
    split at hk
    · rename_i heq
      exact mi_aaload hF hd hb heq (hgo _ _ _ _ hk)
    · exact hk.elim
  · dsimp only at hk
    obtain ⟨hb, hk⟩ := mck_iff.mp hk
    rw [Bool.and_eq_true] at hb
    exact mi_aastore hF hE.1 hd hb.1 hb.2 (hgo _ _ _ _ hk)
  · dsimp only at hk
    split at hk
    · rename_i heq
      obtain ⟨hb, hk⟩ := mck_iff.mp hk
      exact mi_arraylength hF hd heq hb (hgo _ _ _ _ hk)
    · exact hk.elim
  · split at hk
    · rename_i heq
      split at hk
      · rename_i hle
        obtain ⟨hb, hk⟩ := mck_iff.mp hk
        exact hthr _ _ _ _ hk rfl heq hle rfl hb
      · rename_i hle
        split at hk
        rename_i hal
        exact mi_new hF hE.1 hd heq hle hal hRc (hc _ hk) (hgo _ _ _ _ hk)
    · exact hk.elim
  · dsimp only at hk
    obtain ⟨hb, hk⟩ := mck_iff.mp hk
    exact mi_newarray (f := (mNam (mQ h) (mNx h)).1) (i := (mNam (mQ h) (mNx h)).2.1) (j := (mNam (mQ h) (mNx h)).2.2) hF hE.1 hd rfl hRc hb (hc _ hk) (hgo _ _ _ _ hk)
  · split at hk
    · rename_i heq
      split at hk
      rename_i hal
      obtain ⟨hb, hk⟩ := mck_iff.mp hk
      rw [Bool.and_eq_true] at hb
      rw [Nat.eq_of_beq_eq_true hb.2] at heq
      exact mi_anewarray hF hE.1 hE.2.2.2.2.2.2.2.1 hd heq hal hRc hb.1 (hc _ hk) (hgo _ _ _ _ hk)
    · exact hk.elim
  · dsimp only at hk
    obtain ⟨hb, hk⟩ := mck_iff.mp hk
    exact mi_multi (f := (mNam (mQ h) (mNx h)).1) (i := (mNam (mQ h) (mNx h)).2.1) (j := (mNam (mQ h) (mNx h)).2.2) hF hE hd hRc hb (hc _ hk) (hgo _ _ _ _ hk)
  · obtain ⟨hb, hk⟩ := mck_iff.mp hk
    exact hret none hk hb rfl
  · obtain ⟨hb, hk⟩ := mck_iff.mp hk
    exact hret _ hk hb rfl
  · obtain ⟨hb, hk⟩ := mck_iff.mp hk
    exact hret _ hk hb rfl
  · obtain ⟨hb, hk⟩ := mck_iff.mp hk
    exact hret _ hk hb rfl
  · obtain ⟨hb, hk⟩ := mck_iff.mp hk
    exact hret _ hk hb rfl
  · obtain ⟨hb, hk⟩ := mck_iff.mp hk
    exact hret _ hk hb rfl
  · exact hk.elim
