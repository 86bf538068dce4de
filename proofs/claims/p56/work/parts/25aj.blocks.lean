/-! BLOCKS, by program. -/
set_option maxRecDepth 20000 in
theorem B72_0 {D L : Nat} {mi : mMi} {rs : mRs} {K : mOut → mH → Prop}   : WP (D + 1) 72 0 [some (mR 2 3 0), none] [] (hp L mi rs) K ↔ WP D 94 0 (mEntry 94 [mR 2 4 0]) [] (hp L mi rs) (Bk (D + 1) 72 15 [some (mR 2 3 0), some (mI (mi 1 1 0 4))] [] K) :=
  (WP_k 7).trans ((show (∃ n, wp (n + 7) (D + 1) 72 0 [some (mR 2 3 0), none] [] (hp L mi rs) K) ↔ (∃ n, wp n D 94 0 (mEntry 94 [mR 2 4 0]) [] (hp L mi rs) (Bkn n (D + 1) 72 15 [some (mR 2 3 0), some (mI (mi 1 1 0 4))] [] K)) from Iff.rfl).trans (ex_Bk))
set_option maxRecDepth 20000 in
theorem B72_15 {D L : Nat} {mi : mMi} {rs : mRs} {K : mOut → mH → Prop} {x1 : Int32}   : WP (D + 1) 72 15 [some (mR 2 3 0), some (mI x1)] [] (hp L mi rs) K ↔ mif (decide ((mi 2 4 0 4) = (N 1))) (WP (D + 1) 72 32 [some (mR 2 3 0), some (mI x1)] [] (hp L mi rs) K) (WP (D + 1) 72 26 [some (mR 2 3 0), some (mI x1)] [] (hp L mi rs) K) :=
  (WP_k 5).trans ((show (∃ n, wp (n + 5) (D + 1) 72 15 [some (mR 2 3 0), some (mI x1)] [] (hp L mi rs) K) ↔ (∃ n, mif (decide ((mi 2 4 0 4) = (N 1))) (wp n (D + 1) 72 32 [some (mR 2 3 0), some (mI x1)] [] (hp L mi rs) K) (wp n (D + 1) 72 26 [some (mR 2 3 0), some (mI x1)] [] (hp L mi rs) K)) from Iff.rfl).trans (ex_mif))
set_option maxRecDepth 20000 in
theorem B72_26 {D L : Nat} {mi : mMi} {rs : mRs} {K : mOut → mH → Prop} {x1 : Int32}   : WP (D + 1) 72 26 [some (mR 2 3 0), some (mI x1)] [] (hp L mi rs) K ↔ WP D 69 0 (mEntry 69 [mR 2 3 0, mI (N 1)]) [] (hp L mi rs) (Bk (D + 1) 72 31 [some (mR 2 3 0), some (mI x1)] [] K) :=
  (WP_k 3).trans ((show (∃ n, wp (n + 3) (D + 1) 72 26 [some (mR 2 3 0), some (mI x1)] [] (hp L mi rs) K) ↔ (∃ n, wp n D 69 0 (mEntry 69 [mR 2 3 0, mI (N 1)]) [] (hp L mi rs) (Bkn n (D + 1) 72 31 [some (mR 2 3 0), some (mI x1)] [] K)) from Iff.rfl).trans (ex_Bk))
set_option maxRecDepth 20000 in
theorem B72_31 {D L : Nat} {mi : mMi} {rs : mRs} {K : mOut → mH → Prop} {x1 : Int32} {s0 : Int32}   : WP (D + 1) 72 31 [some (mR 2 3 0), some (mI x1)] [(mI s0)] (hp L mi rs) K ↔ mck (mZ s0 || false) (K (.inl (some (mI s0))) (hp L mi rs)) :=
  (WP_k 1).trans ((show (∃ n, wp (n + 1) (D + 1) 72 31 [some (mR 2 3 0), some (mI x1)] [(mI s0)] (hp L mi rs) K) ↔ (∃ n, mck (mZ s0 || false) (K (.inl (some (mI s0))) (hp L mi rs))) from Iff.rfl).trans (ex_mck.trans (mck_c (ex_one))))
set_option maxRecDepth 20000 in
theorem B72_32 {D L : Nat} {mi : mMi} {rs : mRs} {K : mOut → mH → Prop} {x1 : Int32}   : WP (D + 1) 72 32 [some (mR 2 3 0), some (mI x1)] [] (hp L mi rs) K ↔ WP D 79 0 (mEntry 79 [mR 1 1 0, mI (mi 2 4 0 5)]) [] (hp L mi rs) (Bk (D + 1) 72 46 [some (mR 2 3 0), some (mI x1)] [] K) :=
  (WP_k 6).trans ((show (∃ n, wp (n + 6) (D + 1) 72 32 [some (mR 2 3 0), some (mI x1)] [] (hp L mi rs) K) ↔ (∃ n, wp n D 79 0 (mEntry 79 [mR 1 1 0, mI (mi 2 4 0 5)]) [] (hp L mi rs) (Bkn n (D + 1) 72 46 [some (mR 2 3 0), some (mI x1)] [] K)) from Iff.rfl).trans (ex_Bk))
set_option maxRecDepth 20000 in
theorem B72_46 {D L : Nat} {mi : mMi} {rs : mRs} {K : mOut → mH → Prop} {x1 : Int32} {s0 : Int32}   : WP (D + 1) 72 46 [some (mR 2 3 0), some (mI x1)] [(mI s0)] (hp L mi rs) K ↔ mif (decide (s0 = (I (-1)))) (WP (D + 1) 72 56 [some (mR 2 3 0), some (mI x1)] [] (hp L mi rs) K) (WP (D + 1) 72 50 [some (mR 2 3 0), some (mI x1)] [] (hp L mi rs) K) :=
  (WP_k 2).trans ((show (∃ n, wp (n + 2) (D + 1) 72 46 [some (mR 2 3 0), some (mI x1)] [(mI s0)] (hp L mi rs) K) ↔ (∃ n, mif (decide (s0 = (I (-1)))) (wp n (D + 1) 72 56 [some (mR 2 3 0), some (mI x1)] [] (hp L mi rs) K) (wp n (D + 1) 72 50 [some (mR 2 3 0), some (mI x1)] [] (hp L mi rs) K)) from Iff.rfl).trans (ex_mif))
set_option maxRecDepth 20000 in
theorem B72_50 {D L : Nat} {mi : mMi} {rs : mRs} {K : mOut → mH → Prop} {x1 : Int32}   : WP (D + 1) 72 50 [some (mR 2 3 0), some (mI x1)] [] (hp L mi rs) K ↔ WP D 69 0 (mEntry 69 [mR 2 3 0, mI (N 3)]) [] (hp L mi rs) (Bk (D + 1) 72 55 [some (mR 2 3 0), some (mI x1)] [] K) :=
  (WP_k 3).trans ((show (∃ n, wp (n + 3) (D + 1) 72 50 [some (mR 2 3 0), some (mI x1)] [] (hp L mi rs) K) ↔ (∃ n, wp n D 69 0 (mEntry 69 [mR 2 3 0, mI (N 3)]) [] (hp L mi rs) (Bkn n (D + 1) 72 55 [some (mR 2 3 0), some (mI x1)] [] K)) from Iff.rfl).trans (ex_Bk))
set_option maxRecDepth 20000 in
theorem B72_55 {D L : Nat} {mi : mMi} {rs : mRs} {K : mOut → mH → Prop} {x1 : Int32} {s0 : Int32}   : WP (D + 1) 72 55 [some (mR 2 3 0), some (mI x1)] [(mI s0)] (hp L mi rs) K ↔ mck (mZ s0 || false) (K (.inl (some (mI s0))) (hp L mi rs)) :=
  (WP_k 1).trans ((show (∃ n, wp (n + 1) (D + 1) 72 55 [some (mR 2 3 0), some (mI x1)] [(mI s0)] (hp L mi rs) K) ↔ (∃ n, mck (mZ s0 || false) (K (.inl (some (mI s0))) (hp L mi rs))) from Iff.rfl).trans (ex_mck.trans (mck_c (ex_one))))
set_option maxRecDepth 20000 in
theorem B72_56 {D L : Nat} {mi : mMi} {rs : mRs} {K : mOut → mH → Prop} {x1 : Int32}   : WP (D + 1) 72 56 [some (mR 2 3 0), some (mI x1)] [] (hp L mi rs) K ↔ mck (mIn x1 40) (WP D 70 0 (mEntry 70 [mR 2 3 0, mI (N 1), mI (N 9)]) [] (hp L (mset mi 1 1 2 (mix x1) (mi 2 4 0 5)) rs) (Bk (D + 1) 72 79 [some (mR 2 3 0), some (mI x1)] [] K)) :=
  (WP_k 12).trans ((show (∃ n, wp (n + 12) (D + 1) 72 56 [some (mR 2 3 0), some (mI x1)] [] (hp L mi rs) K) ↔ (∃ n, mck (mIn x1 40) (wp n D 70 0 (mEntry 70 [mR 2 3 0, mI (N 1), mI (N 9)]) [] (hp L (mset mi 1 1 2 (mix x1) (mi 2 4 0 5)) rs) (Bkn n (D + 1) 72 79 [some (mR 2 3 0), some (mI x1)] [] K))) from Iff.rfl).trans (ex_mck.trans (mck_c (ex_Bk))))
set_option maxRecDepth 20000 in
theorem B72_79 {D L : Nat} {mi : mMi} {rs : mRs} {K : mOut → mH → Prop} {x1 : Int32} {s0 : Int32}   : WP (D + 1) 72 79 [some (mR 2 3 0), some (mI x1)] [(mI s0)] (hp L mi rs) K ↔ mif (decide (s0 ≠ (N 0))) (WP (D + 1) 72 84 [some (mR 2 3 0), some (mI x1)] [] (hp L mi rs) K) (WP (D + 1) 72 82 [some (mR 2 3 0), some (mI x1)] [] (hp L mi rs) K) :=
  (WP_k 1).trans ((show (∃ n, wp (n + 1) (D + 1) 72 79 [some (mR 2 3 0), some (mI x1)] [(mI s0)] (hp L mi rs) K) ↔ (∃ n, mif (decide (s0 ≠ (N 0))) (wp n (D + 1) 72 84 [some (mR 2 3 0), some (mI x1)] [] (hp L mi rs) K) (wp n (D + 1) 72 82 [some (mR 2 3 0), some (mI x1)] [] (hp L mi rs) K)) from Iff.rfl).trans (ex_mif))
set_option maxRecDepth 20000 in
theorem B72_82 {D L : Nat} {mi : mMi} {rs : mRs} {K : mOut → mH → Prop} {x1 : Int32}   : WP (D + 1) 72 82 [some (mR 2 3 0), some (mI x1)] [] (hp L mi rs) K ↔ K (.inl (some (mI (N 0)))) (hp L mi rs) :=
  (WP_k 2).trans ((show (∃ n, wp (n + 2) (D + 1) 72 82 [some (mR 2 3 0), some (mI x1)] [] (hp L mi rs) K) ↔ (∃ n, K (.inl (some (mI (N 0)))) (hp L mi rs)) from Iff.rfl).trans (ex_one))
set_option maxRecDepth 20000 in
theorem B72_84 {D L : Nat} {mi : mMi} {rs : mRs} {K : mOut → mH → Prop} {x1 : Int32}   : WP (D + 1) 72 84 [some (mR 2 3 0), some (mI x1)] [] (hp L mi rs) K ↔ mck (mIn x1 40) (mck (mIn x1 40) (WP D 70 0 (mEntry 70 [mR 2 3 0, mI (N 1), mI (N 9)]) [] (hp L (mset (mset mi 1 1 3 (mix x1) (mi 2 4 0 5)) 0 2 11 (mix x1) (mi 2 4 0 5)) rs) (Bk (D + 1) 72 126 [some (mR 2 3 0), some (mI x1)] [] K))) :=
  (WP_k 21).trans ((show (∃ n, wp (n + 21) (D + 1) 72 84 [some (mR 2 3 0), some (mI x1)] [] (hp L mi rs) K) ↔ (∃ n, mck (mIn x1 40) (mck (mIn x1 40) (wp n D 70 0 (mEntry 70 [mR 2 3 0, mI (N 1), mI (N 9)]) [] (hp L (mset (mset mi 1 1 3 (mix x1) (mi 2 4 0 5)) 0 2 11 (mix x1) (mi 2 4 0 5)) rs) (Bkn n (D + 1) 72 126 [some (mR 2 3 0), some (mI x1)] [] K)))) from Iff.rfl).trans (ex_mck.trans (mck_c (ex_mck.trans (mck_c (ex_Bk))))))
set_option maxRecDepth 20000 in
theorem B72_126 {D L : Nat} {mi : mMi} {rs : mRs} {K : mOut → mH → Prop} {x1 : Int32} {s0 : Int32}   : WP (D + 1) 72 126 [some (mR 2 3 0), some (mI x1)] [(mI s0)] (hp L mi rs) K ↔ mif (decide (s0 ≠ (N 0))) (WP (D + 1) 72 131 [some (mR 2 3 0), some (mI x1)] [] (hp L mi rs) K) (WP (D + 1) 72 129 [some (mR 2 3 0), some (mI x1)] [] (hp L mi rs) K) :=
  (WP_k 1).trans ((show (∃ n, wp (n + 1) (D + 1) 72 126 [some (mR 2 3 0), some (mI x1)] [(mI s0)] (hp L mi rs) K) ↔ (∃ n, mif (decide (s0 ≠ (N 0))) (wp n (D + 1) 72 131 [some (mR 2 3 0), some (mI x1)] [] (hp L mi rs) K) (wp n (D + 1) 72 129 [some (mR 2 3 0), some (mI x1)] [] (hp L mi rs) K)) from Iff.rfl).trans (ex_mif))
set_option maxRecDepth 20000 in
theorem B72_129 {D L : Nat} {mi : mMi} {rs : mRs} {K : mOut → mH → Prop} {x1 : Int32}   : WP (D + 1) 72 129 [some (mR 2 3 0), some (mI x1)] [] (hp L mi rs) K ↔ K (.inl (some (mI (N 0)))) (hp L mi rs) :=
  (WP_k 2).trans ((show (∃ n, wp (n + 2) (D + 1) 72 129 [some (mR 2 3 0), some (mI x1)] [] (hp L mi rs) K) ↔ (∃ n, K (.inl (some (mI (N 0)))) (hp L mi rs)) from Iff.rfl).trans (ex_one))
set_option maxRecDepth 20000 in
theorem B72_131 {D L : Nat} {mi : mMi} {rs : mRs} {K : mOut → mH → Prop} {x1 : Int32}   : WP (D + 1) 72 131 [some (mR 2 3 0), some (mI x1)] [] (hp L mi rs) K ↔ mck (mIn x1 40) (K (.inl (some (mI (N 1)))) (hp L (mset (mset mi 1 1 4 (mix x1) (mi 2 4 0 5)) 1 1 0 4 ((mi 1 1 0 4) + (N 1))) rs)) :=
  (WP_k 17).trans ((show (∃ n, wp (n + 17) (D + 1) 72 131 [some (mR 2 3 0), some (mI x1)] [] (hp L mi rs) K) ↔ (∃ n, mck (mIn x1 40) (K (.inl (some (mI (N 1)))) (hp L (mset (mset mi 1 1 4 (mix x1) (mi 2 4 0 5)) 1 1 0 4 ((mi 1 1 0 4) + (N 1))) rs))) from Iff.rfl).trans (ex_mck.trans (mck_c (ex_one))))
set_option maxRecDepth 20000 in
theorem B73_0 {D L : Nat} {mi : mMi} {rs : mRs} {K : mOut → mH → Prop}   : WP (D + 1) 73 0 [some (mR 2 3 0), none, none] [] (hp L mi rs) K ↔ WP D 74 0 (mEntry 74 [mR 2 3 0, mI (N 0)]) [] (hp L mi rs) (Bk (D + 1) 73 5 [some (mR 2 3 0), none, none] [] K) :=
  (WP_k 3).trans ((show (∃ n, wp (n + 3) (D + 1) 73 0 [some (mR 2 3 0), none, none] [] (hp L mi rs) K) ↔ (∃ n, wp n D 74 0 (mEntry 74 [mR 2 3 0, mI (N 0)]) [] (hp L mi rs) (Bkn n (D + 1) 73 5 [some (mR 2 3 0), none, none] [] K)) from Iff.rfl).trans (ex_Bk))
set_option maxRecDepth 20000 in
theorem B73_5 {D L : Nat} {mi : mMi} {rs : mRs} {K : mOut → mH → Prop} {s0 : Int32}   : WP (D + 1) 73 5 [some (mR 2 3 0), none, none] [(mI s0)] (hp L mi rs) K ↔ mif (decide (s0 ≠ (N 0))) (WP (D + 1) 73 10 [some (mR 2 3 0), none, none] [] (hp L mi rs) K) (WP (D + 1) 73 8 [some (mR 2 3 0), none, none] [] (hp L mi rs) K) :=
  (WP_k 1).trans ((show (∃ n, wp (n + 1) (D + 1) 73 5 [some (mR 2 3 0), none, none] [(mI s0)] (hp L mi rs) K) ↔ (∃ n, mif (decide (s0 ≠ (N 0))) (wp n (D + 1) 73 10 [some (mR 2 3 0), none, none] [] (hp L mi rs) K) (wp n (D + 1) 73 8 [some (mR 2 3 0), none, none] [] (hp L mi rs) K)) from Iff.rfl).trans (ex_mif))
set_option maxRecDepth 20000 in
theorem B73_8 {D L : Nat} {mi : mMi} {rs : mRs} {K : mOut → mH → Prop}   : WP (D + 1) 73 8 [some (mR 2 3 0), none, none] [] (hp L mi rs) K ↔ K (.inl (some (mI (N 0)))) (hp L mi rs) :=
  (WP_k 2).trans ((show (∃ n, wp (n + 2) (D + 1) 73 8 [some (mR 2 3 0), none, none] [] (hp L mi rs) K) ↔ (∃ n, K (.inl (some (mI (N 0)))) (hp L mi rs)) from Iff.rfl).trans (ex_one))
set_option maxRecDepth 20000 in
theorem B73_10 {D L : Nat} {mi : mMi} {rs : mRs} {K : mOut → mH → Prop}   : WP (D + 1) 73 10 [some (mR 2 3 0), none, none] [] (hp L mi rs) K ↔ WP D 12 0 (mEntry 12 [mR 0 2 0, mI (mi 2 3 0 5), mI (mi 2 3 0 6)]) [] (hp L mi rs) (Bk (D + 1) 73 25 [some (mR 2 3 0), none, none] [] K) :=
  (WP_k 7).trans ((show (∃ n, wp (n + 7) (D + 1) 73 10 [some (mR 2 3 0), none, none] [] (hp L mi rs) K) ↔ (∃ n, wp n D 12 0 (mEntry 12 [mR 0 2 0, mI (mi 2 3 0 5), mI (mi 2 3 0 6)]) [] (hp L mi rs) (Bkn n (D + 1) 73 25 [some (mR 2 3 0), none, none] [] K)) from Iff.rfl).trans (ex_Bk))
set_option maxRecDepth 20000 in
theorem B73_25 {D L : Nat} {mi : mMi} {rs : mRs} {K : mOut → mH → Prop} {s0 : Int32}   : WP (D + 1) 73 25 [some (mR 2 3 0), none, none] [(mI s0)] (hp L mi rs) K ↔ mif (decide (s0 ≠ (N 0))) (WP (D + 1) 73 34 [some (mR 2 3 0), none, none] [] (hp L mi rs) K) (WP (D + 1) 73 28 [some (mR 2 3 0), none, none] [] (hp L mi rs) K) :=
  (WP_k 1).trans ((show (∃ n, wp (n + 1) (D + 1) 73 25 [some (mR 2 3 0), none, none] [(mI s0)] (hp L mi rs) K) ↔ (∃ n, mif (decide (s0 ≠ (N 0))) (wp n (D + 1) 73 34 [some (mR 2 3 0), none, none] [] (hp L mi rs) K) (wp n (D + 1) 73 28 [some (mR 2 3 0), none, none] [] (hp L mi rs) K)) from Iff.rfl).trans (ex_mif))
set_option maxRecDepth 20000 in
theorem B73_28 {D L : Nat} {mi : mMi} {rs : mRs} {K : mOut → mH → Prop}   : WP (D + 1) 73 28 [some (mR 2 3 0), none, none] [] (hp L mi rs) K ↔ WP D 69 0 (mEntry 69 [mR 2 3 0, mI (N 5)]) [] (hp L mi rs) (Bk (D + 1) 73 33 [some (mR 2 3 0), none, none] [] K) :=
  (WP_k 3).trans ((show (∃ n, wp (n + 3) (D + 1) 73 28 [some (mR 2 3 0), none, none] [] (hp L mi rs) K) ↔ (∃ n, wp n D 69 0 (mEntry 69 [mR 2 3 0, mI (N 5)]) [] (hp L mi rs) (Bkn n (D + 1) 73 33 [some (mR 2 3 0), none, none] [] K)) from Iff.rfl).trans (ex_Bk))
set_option maxRecDepth 20000 in
theorem B73_33 {D L : Nat} {mi : mMi} {rs : mRs} {K : mOut → mH → Prop} {s0 : Int32}   : WP (D + 1) 73 33 [some (mR 2 3 0), none, none] [(mI s0)] (hp L mi rs) K ↔ mck (mZ s0 || false) (K (.inl (some (mI s0))) (hp L mi rs)) :=
  (WP_k 1).trans ((show (∃ n, wp (n + 1) (D + 1) 73 33 [some (mR 2 3 0), none, none] [(mI s0)] (hp L mi rs) K) ↔ (∃ n, mck (mZ s0 || false) (K (.inl (some (mI s0))) (hp L mi rs))) from Iff.rfl).trans (ex_mck.trans (mck_c (ex_one))))
set_option maxRecDepth 20000 in
theorem B73_34 {D L : Nat} {mi : mMi} {rs : mRs} {K : mOut → mH → Prop}   : WP (D + 1) 73 34 [some (mR 2 3 0), none, none] [] (hp L mi rs) K ↔ WP D 75 0 (mEntry 75 [mR 2 3 0, mI (I (-1))]) [] (hp L mi rs) (Bk (D + 1) 73 39 [some (mR 2 3 0), none, none] [] K) :=
  (WP_k 3).trans ((show (∃ n, wp (n + 3) (D + 1) 73 34 [some (mR 2 3 0), none, none] [] (hp L mi rs) K) ↔ (∃ n, wp n D 75 0 (mEntry 75 [mR 2 3 0, mI (I (-1))]) [] (hp L mi rs) (Bkn n (D + 1) 73 39 [some (mR 2 3 0), none, none] [] K)) from Iff.rfl).trans (ex_Bk))
set_option maxRecDepth 20000 in
theorem B73_39 {D L : Nat} {mi : mMi} {rs : mRs} {K : mOut → mH → Prop} {s0 : Int32}   : WP (D + 1) 73 39 [some (mR 2 3 0), none, none] [(mI s0)] (hp L mi rs) K ↔ mif (decide (s0 ≠ (I (-1)))) (WP (D + 1) 73 47 [some (mR 2 3 0), some (mI s0), none] [] (hp L mi rs) K) (WP (D + 1) 73 45 [some (mR 2 3 0), some (mI s0), none] [] (hp L mi rs) K) :=
  (WP_k 4).trans ((show (∃ n, wp (n + 4) (D + 1) 73 39 [some (mR 2 3 0), none, none] [(mI s0)] (hp L mi rs) K) ↔ (∃ n, mif (decide (s0 ≠ (I (-1)))) (wp n (D + 1) 73 47 [some (mR 2 3 0), some (mI s0), none] [] (hp L mi rs) K) (wp n (D + 1) 73 45 [some (mR 2 3 0), some (mI s0), none] [] (hp L mi rs) K)) from Iff.rfl).trans (ex_mif))
set_option maxRecDepth 20000 in
theorem B73_45 {D L : Nat} {mi : mMi} {rs : mRs} {K : mOut → mH → Prop} {x1 : Int32}   : WP (D + 1) 73 45 [some (mR 2 3 0), some (mI x1), none] [] (hp L mi rs) K ↔ K (.inl (some (mI (N 0)))) (hp L mi rs) :=
  (WP_k 2).trans ((show (∃ n, wp (n + 2) (D + 1) 73 45 [some (mR 2 3 0), some (mI x1), none] [] (hp L mi rs) K) ↔ (∃ n, K (.inl (some (mI (N 0)))) (hp L mi rs)) from Iff.rfl).trans (ex_one))
set_option maxRecDepth 20000 in
theorem B73_47 {D L : Nat} {mi : mMi} {rs : mRs} {K : mOut → mH → Prop} {x1 : Int32}   : WP (D + 1) 73 47 [some (mR 2 3 0), some (mI x1), none] [] (hp L mi rs) K ↔ WP D 75 0 (mEntry 75 [mR 2 3 0, mI x1]) [] (hp L mi rs) (Bk (D + 1) 73 52 [some (mR 2 3 0), some (mI x1), none] [] K) :=
  (WP_k 3).trans ((show (∃ n, wp (n + 3) (D + 1) 73 47 [some (mR 2 3 0), some (mI x1), none] [] (hp L mi rs) K) ↔ (∃ n, wp n D 75 0 (mEntry 75 [mR 2 3 0, mI x1]) [] (hp L mi rs) (Bkn n (D + 1) 73 52 [some (mR 2 3 0), some (mI x1), none] [] K)) from Iff.rfl).trans (ex_Bk))
set_option maxRecDepth 20000 in
theorem B73_52 {D L : Nat} {mi : mMi} {rs : mRs} {K : mOut → mH → Prop} {x1 : Int32} {s0 : Int32}   : WP (D + 1) 73 52 [some (mR 2 3 0), some (mI x1), none] [(mI s0)] (hp L mi rs) K ↔ mif (decide (s0 = (I (-1)))) (WP (D + 1) 73 69 [some (mR 2 3 0), some (mI x1), some (mI s0)] [] (hp L mi rs) K) (WP (D + 1) 73 58 [some (mR 2 3 0), some (mI x1), some (mI s0)] [] (hp L mi rs) K) :=
  (WP_k 4).trans ((show (∃ n, wp (n + 4) (D + 1) 73 52 [some (mR 2 3 0), some (mI x1), none] [(mI s0)] (hp L mi rs) K) ↔ (∃ n, mif (decide (s0 = (I (-1)))) (wp n (D + 1) 73 69 [some (mR 2 3 0), some (mI x1), some (mI s0)] [] (hp L mi rs) K) (wp n (D + 1) 73 58 [some (mR 2 3 0), some (mI x1), some (mI s0)] [] (hp L mi rs) K)) from Iff.rfl).trans (ex_mif))
set_option maxRecDepth 20000 in
theorem B73_58 {D L : Nat} {mi : mMi} {rs : mRs} {K : mOut → mH → Prop} {x1 : Int32} {x2 : Int32}   : WP (D + 1) 73 58 [some (mR 2 3 0), some (mI x1), some (mI x2)] [] (hp L mi rs) K ↔ WP D 70 0 (mEntry 70 [mR 2 3 0, mI (N 20), mI (N 70)]) [] (hp L mi rs) (Bk (D + 1) 73 66 [some (mR 2 3 0), some (mI x1), some (mI x2)] [] K) :=
  (WP_k 4).trans ((show (∃ n, wp (n + 4) (D + 1) 73 58 [some (mR 2 3 0), some (mI x1), some (mI x2)] [] (hp L mi rs) K) ↔ (∃ n, wp n D 70 0 (mEntry 70 [mR 2 3 0, mI (N 20), mI (N 70)]) [] (hp L mi rs) (Bkn n (D + 1) 73 66 [some (mR 2 3 0), some (mI x1), some (mI x2)] [] K)) from Iff.rfl).trans (ex_Bk))
set_option maxRecDepth 20000 in
theorem B73_66 {D L : Nat} {mi : mMi} {rs : mRs} {K : mOut → mH → Prop} {x1 : Int32} {x2 : Int32} {s0 : Int32}   : WP (D + 1) 73 66 [some (mR 2 3 0), some (mI x1), some (mI x2)] [(mI s0)] (hp L mi rs) K ↔ mif (decide (s0 ≠ (N 0))) (WP (D + 1) 73 71 [some (mR 2 3 0), some (mI x1), some (mI x2)] [] (hp L mi rs) K) (WP (D + 1) 73 69 [some (mR 2 3 0), some (mI x1), some (mI x2)] [] (hp L mi rs) K) :=
  (WP_k 1).trans ((show (∃ n, wp (n + 1) (D + 1) 73 66 [some (mR 2 3 0), some (mI x1), some (mI x2)] [(mI s0)] (hp L mi rs) K) ↔ (∃ n, mif (decide (s0 ≠ (N 0))) (wp n (D + 1) 73 71 [some (mR 2 3 0), some (mI x1), some (mI x2)] [] (hp L mi rs) K) (wp n (D + 1) 73 69 [some (mR 2 3 0), some (mI x1), some (mI x2)] [] (hp L mi rs) K)) from Iff.rfl).trans (ex_mif))
set_option maxRecDepth 20000 in
theorem B73_69 {D L : Nat} {mi : mMi} {rs : mRs} {K : mOut → mH → Prop} {x1 : Int32} {x2 : Int32}   : WP (D + 1) 73 69 [some (mR 2 3 0), some (mI x1), some (mI x2)] [] (hp L mi rs) K ↔ K (.inl (some (mI (N 0)))) (hp L mi rs) :=
  (WP_k 2).trans ((show (∃ n, wp (n + 2) (D + 1) 73 69 [some (mR 2 3 0), some (mI x1), some (mI x2)] [] (hp L mi rs) K) ↔ (∃ n, K (.inl (some (mI (N 0)))) (hp L mi rs)) from Iff.rfl).trans (ex_one))
set_option maxRecDepth 20000 in
theorem B73_71 {D L : Nat} {mi : mMi} {rs : mRs} {K : mOut → mH → Prop} {x1 : Int32} {x2 : Int32}   : WP (D + 1) 73 71 [some (mR 2 3 0), some (mI x1), some (mI x2)] [] (hp L mi rs) K ↔ WP D 81 0 (mEntry 81 [mR 1 1 0, mI (mi 2 3 0 5), mI (mi 2 3 0 6)]) [] (hp L mi rs) (Bk (D + 1) 73 90 [some (mR 2 3 0), some (mI x1), some (mI x2)] [(mR 0 2 0)] K) :=
  (WP_k 9).trans ((show (∃ n, wp (n + 9) (D + 1) 73 71 [some (mR 2 3 0), some (mI x1), some (mI x2)] [] (hp L mi rs) K) ↔ (∃ n, wp n D 81 0 (mEntry 81 [mR 1 1 0, mI (mi 2 3 0 5), mI (mi 2 3 0 6)]) [] (hp L mi rs) (Bkn n (D + 1) 73 90 [some (mR 2 3 0), some (mI x1), some (mI x2)] [(mR 0 2 0)] K)) from Iff.rfl).trans (ex_Bk))
set_option maxRecDepth 20000 in
theorem B73_90 {D L : Nat} {mi : mMi} {rs : mRs} {K : mOut → mH → Prop} {x1 : Int32} {x2 : Int32} {s1 : Int32}   : WP (D + 1) 73 90 [some (mR 2 3 0), some (mI x1), some (mI x2)] [(mI s1), (mR 0 2 0)] (hp L mi rs) K ↔ WP D 15 0 (mEntry 15 [mR 0 2 0, mI s1, mI x1, mI x2, mI (mi 2 4 0 5)]) [] (hp L mi rs) (Bk (D + 1) 73 102 [some (mR 2 3 0), some (mI x1), some (mI x2)] [] K) :=
  (WP_k 6).trans ((show (∃ n, wp (n + 6) (D + 1) 73 90 [some (mR 2 3 0), some (mI x1), some (mI x2)] [(mI s1), (mR 0 2 0)] (hp L mi rs) K) ↔ (∃ n, wp n D 15 0 (mEntry 15 [mR 0 2 0, mI s1, mI x1, mI x2, mI (mi 2 4 0 5)]) [] (hp L mi rs) (Bkn n (D + 1) 73 102 [some (mR 2 3 0), some (mI x1), some (mI x2)] [] K)) from Iff.rfl).trans (ex_Bk))
set_option maxRecDepth 20000 in
theorem B73_102 {D L : Nat} {mi : mMi} {rs : mRs} {K : mOut → mH → Prop} {x1 : Int32} {x2 : Int32}   : WP (D + 1) 73 102 [some (mR 2 3 0), some (mI x1), some (mI x2)] [] (hp L mi rs) K ↔ K (.inl (some (mI (N 1)))) (hp L mi rs) :=
  (WP_k 2).trans ((show (∃ n, wp (n + 2) (D + 1) 73 102 [some (mR 2 3 0), some (mI x1), some (mI x2)] [] (hp L mi rs) K) ↔ (∃ n, K (.inl (some (mI (N 1)))) (hp L mi rs)) from Iff.rfl).trans (ex_one))
set_option maxRecDepth 20000 in
theorem B74_0 {D L : Nat} {mi : mMi} {rs : mRs} {K : mOut → mH → Prop} {x1 : Int32}   : WP (D + 1) 74 0 [some (mR 2 3 0), some (mI x1)] [] (hp L mi rs) K ↔ WP D 70 0 (mEntry 70 [mR 2 3 0, mI x1, mI ((mi 1 1 1 1) - (N 1))]) [] (hp L mi rs) (Bk (D + 1) 74 16 [some (mR 2 3 0), some (mI x1)] [] K) :=
  (WP_k 10).trans ((show (∃ n, wp (n + 10) (D + 1) 74 0 [some (mR 2 3 0), some (mI x1)] [] (hp L mi rs) K) ↔ (∃ n, wp n D 70 0 (mEntry 70 [mR 2 3 0, mI x1, mI ((mi 1 1 1 1) - (N 1))]) [] (hp L mi rs) (Bkn n (D + 1) 74 16 [some (mR 2 3 0), some (mI x1)] [] K)) from Iff.rfl).trans (ex_Bk))
set_option maxRecDepth 20000 in
theorem B74_16 {D L : Nat} {mi : mMi} {rs : mRs} {K : mOut → mH → Prop} {x1 : Int32} {s0 : Int32}   : WP (D + 1) 74 16 [some (mR 2 3 0), some (mI x1)] [(mI s0)] (hp L mi rs) K ↔ mif (decide (s0 ≠ (N 0))) (WP (D + 1) 74 21 [some (mR 2 3 0), some (mI x1)] [] (hp L mi rs) K) (WP (D + 1) 74 19 [some (mR 2 3 0), some (mI x1)] [] (hp L mi rs) K) :=
  (WP_k 1).trans ((show (∃ n, wp (n + 1) (D + 1) 74 16 [some (mR 2 3 0), some (mI x1)] [(mI s0)] (hp L mi rs) K) ↔ (∃ n, mif (decide (s0 ≠ (N 0))) (wp n (D + 1) 74 21 [some (mR 2 3 0), some (mI x1)] [] (hp L mi rs) K) (wp n (D + 1) 74 19 [some (mR 2 3 0), some (mI x1)] [] (hp L mi rs) K)) from Iff.rfl).trans (ex_mif))
set_option maxRecDepth 20000 in
theorem B74_19 {D L : Nat} {mi : mMi} {rs : mRs} {K : mOut → mH → Prop} {x1 : Int32}   : WP (D + 1) 74 19 [some (mR 2 3 0), some (mI x1)] [] (hp L mi rs) K ↔ K (.inl (some (mI (N 0)))) (hp L mi rs) :=
  (WP_k 2).trans ((show (∃ n, wp (n + 2) (D + 1) 74 19 [some (mR 2 3 0), some (mI x1)] [] (hp L mi rs) K) ↔ (∃ n, K (.inl (some (mI (N 0)))) (hp L mi rs)) from Iff.rfl).trans (ex_one))
set_option maxRecDepth 20000 in
theorem B74_21 {D L : Nat} {mi : mMi} {rs : mRs} {K : mOut → mH → Prop} {x1 : Int32}   : WP (D + 1) 74 21 [some (mR 2 3 0), some (mI x1)] [] (hp L mi rs) K ↔ WP D 80 0 (mEntry 80 [mR 1 1 0, mI (mi 2 4 0 5)]) [] (hp L (mset mi 2 3 0 5 (mi 2 4 0 5)) rs) (Bk (D + 1) 74 45 [some (mR 2 3 0), some (mI x1)] [(mI (N 0)), (mR 2 3 0)] K) :=
  (WP_k 12).trans ((show (∃ n, wp (n + 12) (D + 1) 74 21 [some (mR 2 3 0), some (mI x1)] [] (hp L mi rs) K) ↔ (∃ n, wp n D 80 0 (mEntry 80 [mR 1 1 0, mI (mi 2 4 0 5)]) [] (hp L (mset mi 2 3 0 5 (mi 2 4 0 5)) rs) (Bkn n (D + 1) 74 45 [some (mR 2 3 0), some (mI x1)] [(mI (N 0)), (mR 2 3 0)] K)) from Iff.rfl).trans (ex_Bk))
set_option maxRecDepth 20000 in
theorem B74_45 {D L : Nat} {mi : mMi} {rs : mRs} {K : mOut → mH → Prop} {x1 : Int32} {s1 : Int32} {s2 : Int32}   : WP (D + 1) 74 45 [some (mR 2 3 0), some (mI x1)] [(mI s2), (mI s1), (mR 2 3 0)] (hp L mi rs) K ↔ WP D 70 0 (mEntry 70 [mR 2 3 0, mI s1, mI (s2 - (N 1))]) [] (hp L mi rs) (Bk (D + 1) 74 50 [some (mR 2 3 0), some (mI x1)] [] K) :=
  (WP_k 3).trans ((show (∃ n, wp (n + 3) (D + 1) 74 45 [some (mR 2 3 0), some (mI x1)] [(mI s2), (mI s1), (mR 2 3 0)] (hp L mi rs) K) ↔ (∃ n, wp n D 70 0 (mEntry 70 [mR 2 3 0, mI s1, mI (s2 - (N 1))]) [] (hp L mi rs) (Bkn n (D + 1) 74 50 [some (mR 2 3 0), some (mI x1)] [] K)) from Iff.rfl).trans (ex_Bk))
set_option maxRecDepth 20000 in
theorem B74_50 {D L : Nat} {mi : mMi} {rs : mRs} {K : mOut → mH → Prop} {x1 : Int32} {s0 : Int32}   : WP (D + 1) 74 50 [some (mR 2 3 0), some (mI x1)] [(mI s0)] (hp L mi rs) K ↔ mif (decide (s0 ≠ (N 0))) (WP (D + 1) 74 55 [some (mR 2 3 0), some (mI x1)] [] (hp L mi rs) K) (WP (D + 1) 74 53 [some (mR 2 3 0), some (mI x1)] [] (hp L mi rs) K) :=
  (WP_k 1).trans ((show (∃ n, wp (n + 1) (D + 1) 74 50 [some (mR 2 3 0), some (mI x1)] [(mI s0)] (hp L mi rs) K) ↔ (∃ n, mif (decide (s0 ≠ (N 0))) (wp n (D + 1) 74 55 [some (mR 2 3 0), some (mI x1)] [] (hp L mi rs) K) (wp n (D + 1) 74 53 [some (mR 2 3 0), some (mI x1)] [] (hp L mi rs) K)) from Iff.rfl).trans (ex_mif))
set_option maxRecDepth 20000 in
theorem B74_53 {D L : Nat} {mi : mMi} {rs : mRs} {K : mOut → mH → Prop} {x1 : Int32}   : WP (D + 1) 74 53 [some (mR 2 3 0), some (mI x1)] [] (hp L mi rs) K ↔ K (.inl (some (mI (N 0)))) (hp L mi rs) :=
  (WP_k 2).trans ((show (∃ n, wp (n + 2) (D + 1) 74 53 [some (mR 2 3 0), some (mI x1)] [] (hp L mi rs) K) ↔ (∃ n, K (.inl (some (mI (N 0)))) (hp L mi rs)) from Iff.rfl).trans (ex_one))
set_option maxRecDepth 20000 in
theorem B74_55 {D L : Nat} {mi : mMi} {rs : mRs} {K : mOut → mH → Prop} {x1 : Int32}   : WP (D + 1) 74 55 [some (mR 2 3 0), some (mI x1)] [] (hp L mi rs) K ↔ K (.inl (some (mI (N 1)))) (hp L (mset mi 2 3 0 6 (mi 2 4 0 5)) rs) :=
  (WP_k 7).trans ((show (∃ n, wp (n + 7) (D + 1) 74 55 [some (mR 2 3 0), some (mI x1)] [] (hp L mi rs) K) ↔ (∃ n, K (.inl (some (mI (N 1)))) (hp L (mset mi 2 3 0 6 (mi 2 4 0 5)) rs)) from Iff.rfl).trans (ex_one))
set_option maxRecDepth 20000 in
theorem B75_0 {D L : Nat} {mi : mMi} {rs : mRs} {K : mOut → mH → Prop} {x1 : Int32}   : WP (D + 1) 75 0 [some (mR 2 3 0), some (mI x1), none] [] (hp L mi rs) K ↔ WP D 94 0 (mEntry 94 [mR 2 4 0]) [] (hp L mi rs) (Bk (D + 1) 75 7 [some (mR 2 3 0), some (mI x1), none] [] K) :=
  (WP_k 3).trans ((show (∃ n, wp (n + 3) (D + 1) 75 0 [some (mR 2 3 0), some (mI x1), none] [] (hp L mi rs) K) ↔ (∃ n, wp n D 94 0 (mEntry 94 [mR 2 4 0]) [] (hp L mi rs) (Bkn n (D + 1) 75 7 [some (mR 2 3 0), some (mI x1), none] [] K)) from Iff.rfl).trans (ex_Bk))
set_option maxRecDepth 20000 in
theorem B75_7 {D L : Nat} {mi : mMi} {rs : mRs} {K : mOut → mH → Prop} {x1 : Int32}   : WP (D + 1) 75 7 [some (mR 2 3 0), some (mI x1), none] [] (hp L mi rs) K ↔ mif (decide ((mi 2 4 0 4) = (N 1))) (WP (D + 1) 75 26 [some (mR 2 3 0), some (mI x1), none] [] (hp L mi rs) K) (WP (D + 1) 75 18 [some (mR 2 3 0), some (mI x1), none] [] (hp L mi rs) K) :=
  (WP_k 5).trans ((show (∃ n, wp (n + 5) (D + 1) 75 7 [some (mR 2 3 0), some (mI x1), none] [] (hp L mi rs) K) ↔ (∃ n, mif (decide ((mi 2 4 0 4) = (N 1))) (wp n (D + 1) 75 26 [some (mR 2 3 0), some (mI x1), none] [] (hp L mi rs) K) (wp n (D + 1) 75 18 [some (mR 2 3 0), some (mI x1), none] [] (hp L mi rs) K)) from Iff.rfl).trans (ex_mif))
set_option maxRecDepth 20000 in
theorem B75_18 {D L : Nat} {mi : mMi} {rs : mRs} {K : mOut → mH → Prop} {x1 : Int32}   : WP (D + 1) 75 18 [some (mR 2 3 0), some (mI x1), none] [] (hp L mi rs) K ↔ WP D 69 0 (mEntry 69 [mR 2 3 0, mI (N 1)]) [] (hp L mi rs) (Bk (D + 1) 75 23 [some (mR 2 3 0), some (mI x1), none] [] K) :=
  (WP_k 3).trans ((show (∃ n, wp (n + 3) (D + 1) 75 18 [some (mR 2 3 0), some (mI x1), none] [] (hp L mi rs) K) ↔ (∃ n, wp n D 69 0 (mEntry 69 [mR 2 3 0, mI (N 1)]) [] (hp L mi rs) (Bkn n (D + 1) 75 23 [some (mR 2 3 0), some (mI x1), none] [] K)) from Iff.rfl).trans (ex_Bk))
set_option maxRecDepth 20000 in
theorem B75_23 {D L : Nat} {mi : mMi} {rs : mRs} {K : mOut → mH → Prop} {x1 : Int32} {s0 : Int32}   : WP (D + 1) 75 23 [some (mR 2 3 0), some (mI x1), none] [(mI s0)] (hp L mi rs) K ↔ K (.inl (some (mI (I (-1))))) (hp L mi rs) :=
  (WP_k 3).trans ((show (∃ n, wp (n + 3) (D + 1) 75 23 [some (mR 2 3 0), some (mI x1), none] [(mI s0)] (hp L mi rs) K) ↔ (∃ n, K (.inl (some (mI (I (-1))))) (hp L mi rs)) from Iff.rfl).trans (ex_one))
set_option maxRecDepth 20000 in
theorem B75_26 {D L : Nat} {mi : mMi} {rs : mRs} {K : mOut → mH → Prop} {x1 : Int32}   : WP (D + 1) 75 26 [some (mR 2 3 0), some (mI x1), none] [] (hp L mi rs) K ↔ WP D 79 0 (mEntry 79 [mR 1 1 0, mI (mi 2 4 0 5)]) [] (hp L mi rs) (Bk (D + 1) 75 40 [some (mR 2 3 0), some (mI x1), none] [] K) :=
  (WP_k 6).trans ((show (∃ n, wp (n + 6) (D + 1) 75 26 [some (mR 2 3 0), some (mI x1), none] [] (hp L mi rs) K) ↔ (∃ n, wp n D 79 0 (mEntry 79 [mR 1 1 0, mI (mi 2 4 0 5)]) [] (hp L mi rs) (Bkn n (D + 1) 75 40 [some (mR 2 3 0), some (mI x1), none] [] K)) from Iff.rfl).trans (ex_Bk))
set_option maxRecDepth 20000 in
theorem B75_40 {D L : Nat} {mi : mMi} {rs : mRs} {K : mOut → mH → Prop} {x1 : Int32} {s0 : Int32}   : WP (D + 1) 75 40 [some (mR 2 3 0), some (mI x1), none] [(mI s0)] (hp L mi rs) K ↔ mif (decide (s0 = (I (-1)))) (WP (D + 1) 75 65 [some (mR 2 3 0), some (mI x1), some (mI s0)] [] (hp L mi rs) K) (WP (D + 1) 75 46 [some (mR 2 3 0), some (mI x1), some (mI s0)] [] (hp L mi rs) K) :=
  (WP_k 4).trans ((show (∃ n, wp (n + 4) (D + 1) 75 40 [some (mR 2 3 0), some (mI x1), none] [(mI s0)] (hp L mi rs) K) ↔ (∃ n, mif (decide (s0 = (I (-1)))) (wp n (D + 1) 75 65 [some (mR 2 3 0), some (mI x1), some (mI s0)] [] (hp L mi rs) K) (wp n (D + 1) 75 46 [some (mR 2 3 0), some (mI x1), some (mI s0)] [] (hp L mi rs) K)) from Iff.rfl).trans (ex_mif))
set_option maxRecDepth 20000 in
theorem B75_46 {D L : Nat} {mi : mMi} {rs : mRs} {K : mOut → mH → Prop} {x1 : Int32} {x2 : Int32}   : WP (D + 1) 75 46 [some (mR 2 3 0), some (mI x1), some (mI x2)] [] (hp L mi rs) K ↔ mif (decide (x2 = x1)) (WP (D + 1) 75 65 [some (mR 2 3 0), some (mI x1), some (mI x2)] [] (hp L mi rs) K) (WP (D + 1) 75 51 [some (mR 2 3 0), some (mI x1), some (mI x2)] [] (hp L mi rs) K) :=
  (WP_k 3).trans ((show (∃ n, wp (n + 3) (D + 1) 75 46 [some (mR 2 3 0), some (mI x1), some (mI x2)] [] (hp L mi rs) K) ↔ (∃ n, mif (decide (x2 = x1)) (wp n (D + 1) 75 65 [some (mR 2 3 0), some (mI x1), some (mI x2)] [] (hp L mi rs) K) (wp n (D + 1) 75 51 [some (mR 2 3 0), some (mI x1), some (mI x2)] [] (hp L mi rs) K)) from Iff.rfl).trans (ex_mif))
set_option maxRecDepth 20000 in
theorem B75_51 {D L : Nat} {mi : mMi} {rs : mRs} {K : mOut → mH → Prop} {x1 : Int32} {x2 : Int32}   : WP (D + 1) 75 51 [some (mR 2 3 0), some (mI x1), some (mI x2)] [] (hp L mi rs) K ↔ WP D 2 0 (mEntry 2 [mR 0 2 10, mI x2]) [] (hp L mi rs) (Bk (D + 1) 75 62 [some (mR 2 3 0), some (mI x1), some (mI x2)] [] K) :=
  (WP_k 5).trans ((show (∃ n, wp (n + 5) (D + 1) 75 51 [some (mR 2 3 0), some (mI x1), some (mI x2)] [] (hp L mi rs) K) ↔ (∃ n, wp n D 2 0 (mEntry 2 [mR 0 2 10, mI x2]) [] (hp L mi rs) (Bkn n (D + 1) 75 62 [some (mR 2 3 0), some (mI x1), some (mI x2)] [] K)) from Iff.rfl).trans (ex_Bk))
set_option maxRecDepth 20000 in
theorem B75_62 {D L : Nat} {mi : mMi} {rs : mRs} {K : mOut → mH → Prop} {x1 : Int32} {x2 : Int32} {s0 : Int32}   : WP (D + 1) 75 62 [some (mR 2 3 0), some (mI x1), some (mI x2)] [(mI s0)] (hp L mi rs) K ↔ mif (decide (s0 ≠ (N 0))) (WP (D + 1) 75 73 [some (mR 2 3 0), some (mI x1), some (mI x2)] [] (hp L mi rs) K) (WP (D + 1) 75 65 [some (mR 2 3 0), some (mI x1), some (mI x2)] [] (hp L mi rs) K) :=
  (WP_k 1).trans ((show (∃ n, wp (n + 1) (D + 1) 75 62 [some (mR 2 3 0), some (mI x1), some (mI x2)] [(mI s0)] (hp L mi rs) K) ↔ (∃ n, mif (decide (s0 ≠ (N 0))) (wp n (D + 1) 75 73 [some (mR 2 3 0), some (mI x1), some (mI x2)] [] (hp L mi rs) K) (wp n (D + 1) 75 65 [some (mR 2 3 0), some (mI x1), some (mI x2)] [] (hp L mi rs) K)) from Iff.rfl).trans (ex_mif))
set_option maxRecDepth 20000 in
theorem B75_65 {D L : Nat} {mi : mMi} {rs : mRs} {K : mOut → mH → Prop} {x1 : Int32} {x2 : Int32}   : WP (D + 1) 75 65 [some (mR 2 3 0), some (mI x1), some (mI x2)] [] (hp L mi rs) K ↔ WP D 69 0 (mEntry 69 [mR 2 3 0, mI (N 3)]) [] (hp L mi rs) (Bk (D + 1) 75 70 [some (mR 2 3 0), some (mI x1), some (mI x2)] [] K) :=
  (WP_k 3).trans ((show (∃ n, wp (n + 3) (D + 1) 75 65 [some (mR 2 3 0), some (mI x1), some (mI x2)] [] (hp L mi rs) K) ↔ (∃ n, wp n D 69 0 (mEntry 69 [mR 2 3 0, mI (N 3)]) [] (hp L mi rs) (Bkn n (D + 1) 75 70 [some (mR 2 3 0), some (mI x1), some (mI x2)] [] K)) from Iff.rfl).trans (ex_Bk))
set_option maxRecDepth 20000 in
theorem B75_70 {D L : Nat} {mi : mMi} {rs : mRs} {K : mOut → mH → Prop} {x1 : Int32} {x2 : Int32} {s0 : Int32}   : WP (D + 1) 75 70 [some (mR 2 3 0), some (mI x1), some (mI x2)] [(mI s0)] (hp L mi rs) K ↔ K (.inl (some (mI (I (-1))))) (hp L mi rs) :=
  (WP_k 3).trans ((show (∃ n, wp (n + 3) (D + 1) 75 70 [some (mR 2 3 0), some (mI x1), some (mI x2)] [(mI s0)] (hp L mi rs) K) ↔ (∃ n, K (.inl (some (mI (I (-1))))) (hp L mi rs)) from Iff.rfl).trans (ex_one))
set_option maxRecDepth 20000 in
theorem B75_73 {D L : Nat} {mi : mMi} {rs : mRs} {K : mOut → mH → Prop} {x1 : Int32} {x2 : Int32}   : WP (D + 1) 75 73 [some (mR 2 3 0), some (mI x1), some (mI x2)] [] (hp L mi rs) K ↔ K (.inl (some (mI x2))) (hp L mi rs) :=
  (WP_k 2).trans ((show (∃ n, wp (n + 2) (D + 1) 75 73 [some (mR 2 3 0), some (mI x1), some (mI x2)] [] (hp L mi rs) K) ↔ (∃ n, K (.inl (some (mI x2))) (hp L mi rs)) from Iff.rfl).trans (ex_one))
set_option maxRecDepth 20000 in
theorem B76_0 {D L : Nat} {mi : mMi} {rs : mRs} {K : mOut → mH → Prop}   : WP (D + 1) 76 0 [some (mR 2 3 0), none] [] (hp L mi rs) K ↔ WP D 74 0 (mEntry 74 [mR 2 3 0, mI (N 1)]) [] (hp L mi rs) (Bk (D + 1) 76 5 [some (mR 2 3 0), none] [] K) :=
  (WP_k 3).trans ((show (∃ n, wp (n + 3) (D + 1) 76 0 [some (mR 2 3 0), none] [] (hp L mi rs) K) ↔ (∃ n, wp n D 74 0 (mEntry 74 [mR 2 3 0, mI (N 1)]) [] (hp L mi rs) (Bkn n (D + 1) 76 5 [some (mR 2 3 0), none] [] K)) from Iff.rfl).trans (ex_Bk))
set_option maxRecDepth 20000 in
theorem B76_5 {D L : Nat} {mi : mMi} {rs : mRs} {K : mOut → mH → Prop} {s0 : Int32}   : WP (D + 1) 76 5 [some (mR 2 3 0), none] [(mI s0)] (hp L mi rs) K ↔ mif (decide (s0 ≠ (N 0))) (WP (D + 1) 76 10 [some (mR 2 3 0), none] [] (hp L mi rs) K) (WP (D + 1) 76 8 [some (mR 2 3 0), none] [] (hp L mi rs) K) :=
  (WP_k 1).trans ((show (∃ n, wp (n + 1) (D + 1) 76 5 [some (mR 2 3 0), none] [(mI s0)] (hp L mi rs) K) ↔ (∃ n, mif (decide (s0 ≠ (N 0))) (wp n (D + 1) 76 10 [some (mR 2 3 0), none] [] (hp L mi rs) K) (wp n (D + 1) 76 8 [some (mR 2 3 0), none] [] (hp L mi rs) K)) from Iff.rfl).trans (ex_mif))
set_option maxRecDepth 20000 in
theorem B76_8 {D L : Nat} {mi : mMi} {rs : mRs} {K : mOut → mH → Prop}   : WP (D + 1) 76 8 [some (mR 2 3 0), none] [] (hp L mi rs) K ↔ K (.inl (some (mI (N 0)))) (hp L mi rs) :=
  (WP_k 2).trans ((show (∃ n, wp (n + 2) (D + 1) 76 8 [some (mR 2 3 0), none] [] (hp L mi rs) K) ↔ (∃ n, K (.inl (some (mI (N 0)))) (hp L mi rs)) from Iff.rfl).trans (ex_one))
set_option maxRecDepth 20000 in
theorem B76_10 {D L : Nat} {mi : mMi} {rs : mRs} {K : mOut → mH → Prop}   : WP (D + 1) 76 10 [some (mR 2 3 0), none] [] (hp L mi rs) K ↔ WP D 16 0 (mEntry 16 [mR 0 2 0, mI (mi 2 3 0 5), mI (mi 2 3 0 6)]) [] (hp L mi rs) (Bk (D + 1) 76 25 [some (mR 2 3 0), none] [] K) :=
  (WP_k 7).trans ((show (∃ n, wp (n + 7) (D + 1) 76 10 [some (mR 2 3 0), none] [] (hp L mi rs) K) ↔ (∃ n, wp n D 16 0 (mEntry 16 [mR 0 2 0, mI (mi 2 3 0 5), mI (mi 2 3 0 6)]) [] (hp L mi rs) (Bkn n (D + 1) 76 25 [some (mR 2 3 0), none] [] K)) from Iff.rfl).trans (ex_Bk))
set_option maxRecDepth 20000 in
theorem B76_25 {D L : Nat} {mi : mMi} {rs : mRs} {K : mOut → mH → Prop} {s0 : Int32}   : WP (D + 1) 76 25 [some (mR 2 3 0), none] [(mI s0)] (hp L mi rs) K ↔ mif (decide (s0 ≠ (N 0))) (WP (D + 1) 76 34 [some (mR 2 3 0), none] [] (hp L mi rs) K) (WP (D + 1) 76 28 [some (mR 2 3 0), none] [] (hp L mi rs) K) :=
  (WP_k 1).trans ((show (∃ n, wp (n + 1) (D + 1) 76 25 [some (mR 2 3 0), none] [(mI s0)] (hp L mi rs) K) ↔ (∃ n, mif (decide (s0 ≠ (N 0))) (wp n (D + 1) 76 34 [some (mR 2 3 0), none] [] (hp L mi rs) K) (wp n (D + 1) 76 28 [some (mR 2 3 0), none] [] (hp L mi rs) K)) from Iff.rfl).trans (ex_mif))
set_option maxRecDepth 20000 in
theorem B76_28 {D L : Nat} {mi : mMi} {rs : mRs} {K : mOut → mH → Prop}   : WP (D + 1) 76 28 [some (mR 2 3 0), none] [] (hp L mi rs) K ↔ WP D 69 0 (mEntry 69 [mR 2 3 0, mI (N 5)]) [] (hp L mi rs) (Bk (D + 1) 76 33 [some (mR 2 3 0), none] [] K) :=
  (WP_k 3).trans ((show (∃ n, wp (n + 3) (D + 1) 76 28 [some (mR 2 3 0), none] [] (hp L mi rs) K) ↔ (∃ n, wp n D 69 0 (mEntry 69 [mR 2 3 0, mI (N 5)]) [] (hp L mi rs) (Bkn n (D + 1) 76 33 [some (mR 2 3 0), none] [] K)) from Iff.rfl).trans (ex_Bk))
set_option maxRecDepth 20000 in
theorem B76_33 {D L : Nat} {mi : mMi} {rs : mRs} {K : mOut → mH → Prop} {s0 : Int32}   : WP (D + 1) 76 33 [some (mR 2 3 0), none] [(mI s0)] (hp L mi rs) K ↔ mck (mZ s0 || false) (K (.inl (some (mI s0))) (hp L mi rs)) :=
  (WP_k 1).trans ((show (∃ n, wp (n + 1) (D + 1) 76 33 [some (mR 2 3 0), none] [(mI s0)] (hp L mi rs) K) ↔ (∃ n, mck (mZ s0 || false) (K (.inl (some (mI s0))) (hp L mi rs))) from Iff.rfl).trans (ex_mck.trans (mck_c (ex_one))))
set_option maxRecDepth 20000 in
theorem B76_34 {D L : Nat} {mi : mMi} {rs : mRs} {K : mOut → mH → Prop}   : WP (D + 1) 76 34 [some (mR 2 3 0), none] [] (hp L mi rs) K ↔ WP D 75 0 (mEntry 75 [mR 2 3 0, mI (I (-1))]) [] (hp L mi rs) (Bk (D + 1) 76 39 [some (mR 2 3 0), none] [] K) :=
  (WP_k 3).trans ((show (∃ n, wp (n + 3) (D + 1) 76 34 [some (mR 2 3 0), none] [] (hp L mi rs) K) ↔ (∃ n, wp n D 75 0 (mEntry 75 [mR 2 3 0, mI (I (-1))]) [] (hp L mi rs) (Bkn n (D + 1) 76 39 [some (mR 2 3 0), none] [] K)) from Iff.rfl).trans (ex_Bk))
set_option maxRecDepth 20000 in
theorem B76_39 {D L : Nat} {mi : mMi} {rs : mRs} {K : mOut → mH → Prop} {s0 : Int32}   : WP (D + 1) 76 39 [some (mR 2 3 0), none] [(mI s0)] (hp L mi rs) K ↔ mif (decide (s0 ≠ (I (-1)))) (WP (D + 1) 76 47 [some (mR 2 3 0), some (mI s0)] [] (hp L mi rs) K) (WP (D + 1) 76 45 [some (mR 2 3 0), some (mI s0)] [] (hp L mi rs) K) :=
  (WP_k 4).trans ((show (∃ n, wp (n + 4) (D + 1) 76 39 [some (mR 2 3 0), none] [(mI s0)] (hp L mi rs) K) ↔ (∃ n, mif (decide (s0 ≠ (I (-1)))) (wp n (D + 1) 76 47 [some (mR 2 3 0), some (mI s0)] [] (hp L mi rs) K) (wp n (D + 1) 76 45 [some (mR 2 3 0), some (mI s0)] [] (hp L mi rs) K)) from Iff.rfl).trans (ex_mif))
set_option maxRecDepth 20000 in
theorem B76_45 {D L : Nat} {mi : mMi} {rs : mRs} {K : mOut → mH → Prop} {x1 : Int32}   : WP (D + 1) 76 45 [some (mR 2 3 0), some (mI x1)] [] (hp L mi rs) K ↔ K (.inl (some (mI (N 0)))) (hp L mi rs) :=
  (WP_k 2).trans ((show (∃ n, wp (n + 2) (D + 1) 76 45 [some (mR 2 3 0), some (mI x1)] [] (hp L mi rs) K) ↔ (∃ n, K (.inl (some (mI (N 0)))) (hp L mi rs)) from Iff.rfl).trans (ex_one))
set_option maxRecDepth 20000 in
theorem B76_47 {D L : Nat} {mi : mMi} {rs : mRs} {K : mOut → mH → Prop} {x1 : Int32}   : WP (D + 1) 76 47 [some (mR 2 3 0), some (mI x1)] [] (hp L mi rs) K ↔ WP D 81 0 (mEntry 81 [mR 1 1 0, mI (mi 2 3 0 5), mI (mi 2 3 0 6)]) [] (hp L mi rs) (Bk (D + 1) 76 66 [some (mR 2 3 0), some (mI x1)] [(mR 0 2 0)] K) :=
  (WP_k 9).trans ((show (∃ n, wp (n + 9) (D + 1) 76 47 [some (mR 2 3 0), some (mI x1)] [] (hp L mi rs) K) ↔ (∃ n, wp n D 81 0 (mEntry 81 [mR 1 1 0, mI (mi 2 3 0 5), mI (mi 2 3 0 6)]) [] (hp L mi rs) (Bkn n (D + 1) 76 66 [some (mR 2 3 0), some (mI x1)] [(mR 0 2 0)] K)) from Iff.rfl).trans (ex_Bk))
set_option maxRecDepth 20000 in
theorem B76_66 {D L : Nat} {mi : mMi} {rs : mRs} {K : mOut → mH → Prop} {x1 : Int32} {s1 : Int32}   : WP (D + 1) 76 66 [some (mR 2 3 0), some (mI x1)] [(mI s1), (mR 0 2 0)] (hp L mi rs) K ↔ WP D 17 0 (mEntry 17 [mR 0 2 0, mI s1, mI x1]) [] (hp L mi rs) (Bk (D + 1) 76 70 [some (mR 2 3 0), some (mI x1)] [] K) :=
  (WP_k 2).trans ((show (∃ n, wp (n + 2) (D + 1) 76 66 [some (mR 2 3 0), some (mI x1)] [(mI s1), (mR 0 2 0)] (hp L mi rs) K) ↔ (∃ n, wp n D 17 0 (mEntry 17 [mR 0 2 0, mI s1, mI x1]) [] (hp L mi rs) (Bkn n (D + 1) 76 70 [some (mR 2 3 0), some (mI x1)] [] K)) from Iff.rfl).trans (ex_Bk))
set_option maxRecDepth 20000 in
theorem B76_70 {D L : Nat} {mi : mMi} {rs : mRs} {K : mOut → mH → Prop} {x1 : Int32}   : WP (D + 1) 76 70 [some (mR 2 3 0), some (mI x1)] [] (hp L mi rs) K ↔ K (.inl (some (mI (N 1)))) (hp L mi rs) :=
  (WP_k 2).trans ((show (∃ n, wp (n + 2) (D + 1) 76 70 [some (mR 2 3 0), some (mI x1)] [] (hp L mi rs) K) ↔ (∃ n, K (.inl (some (mI (N 1)))) (hp L mi rs)) from Iff.rfl).trans (ex_one))
set_option maxRecDepth 20000 in
theorem B78_0 {D L : Nat} {mi : mMi} {rs : mRs} {K : mOut → mH → Prop} {i : Nat} (hi : i < 2) : WP (D + 1) 78 0 [some (mR 1 i 0)] [] (hp L mi rs) K ↔ K (.inl none) (hp L (mset (mfill mi 1 i 1 6 (N 0)) 1 i 0 4 (N 0)) rs) := by
  match i, hi with
  | 0, _ => exact (WP_k 8).trans ((show (∃ n, wp (n + 8) (D + 1) 78 0 [some (mR 1 0 0)] [] (hp L mi rs) K) ↔ (∃ n, K (.inl none) (hp L (mset (mfill mi 1 0 1 6 (N 0)) 1 0 0 4 (N 0)) rs)) from Iff.rfl).trans (ex_one))
  | 1, _ => exact (WP_k 8).trans ((show (∃ n, wp (n + 8) (D + 1) 78 0 [some (mR 1 1 0)] [] (hp L mi rs) K) ↔ (∃ n, K (.inl none) (hp L (mset (mfill mi 1 1 1 6 (N 0)) 1 1 0 4 (N 0)) rs)) from Iff.rfl).trans (ex_one))
  | k9 + 2, h9 => exact absurd h9 (by omega)
set_option maxRecDepth 20000 in
theorem B79_0 {D L : Nat} {mi : mMi} {rs : mRs} {K : mOut → mH → Prop} {x1 : Int32} {i : Nat} (hi : i < 2) : WP (D + 1) 79 0 [some (mR 1 i 0), some (mI x1), none] [] (hp L mi rs) K ↔ WP (D + 1) 79 2 [some (mR 1 i 0), some (mI x1), some (mI (N 0))] [] (hp L mi rs) K := by
  match i, hi with
  | 0, _ => exact (WP_k 2).trans ((show (∃ n, wp (n + 2) (D + 1) 79 0 [some (mR 1 0 0), some (mI x1), none] [] (hp L mi rs) K) ↔ (∃ n, wp n (D + 1) 79 2 [some (mR 1 0 0), some (mI x1), some (mI (N 0))] [] (hp L mi rs) K) from Iff.rfl).trans (Iff.rfl))
  | 1, _ => exact (WP_k 2).trans ((show (∃ n, wp (n + 2) (D + 1) 79 0 [some (mR 1 1 0), some (mI x1), none] [] (hp L mi rs) K) ↔ (∃ n, wp n (D + 1) 79 2 [some (mR 1 1 0), some (mI x1), some (mI (N 0))] [] (hp L mi rs) K) from Iff.rfl).trans (Iff.rfl))
  | k9 + 2, h9 => exact absurd h9 (by omega)
set_option maxRecDepth 20000 in
theorem B79_2 {D L : Nat} {mi : mMi} {rs : mRs} {K : mOut → mH → Prop} {x1 : Int32} {x2 : Int32} {i : Nat} (hi : i < 2) : WP (D + 1) 79 2 [some (mR 1 i 0), some (mI x1), some (mI x2)] [] (hp L mi rs) K ↔ mif (decide ((mi 1 i 0 4) ≤ x2)) (WP (D + 1) 79 28 [some (mR 1 i 0), some (mI x1), some (mI x2)] [] (hp L mi rs) K) (WP (D + 1) 79 10 [some (mR 1 i 0), some (mI x1), some (mI x2)] [] (hp L mi rs) K) := by
  match i, hi with
  | 0, _ => exact (WP_k 4).trans ((show (∃ n, wp (n + 4) (D + 1) 79 2 [some (mR 1 0 0), some (mI x1), some (mI x2)] [] (hp L mi rs) K) ↔ (∃ n, mif (decide ((mi 1 0 0 4) ≤ x2)) (wp n (D + 1) 79 28 [some (mR 1 0 0), some (mI x1), some (mI x2)] [] (hp L mi rs) K) (wp n (D + 1) 79 10 [some (mR 1 0 0), some (mI x1), some (mI x2)] [] (hp L mi rs) K)) from Iff.rfl).trans (ex_mif))
  | 1, _ => exact (WP_k 4).trans ((show (∃ n, wp (n + 4) (D + 1) 79 2 [some (mR 1 1 0), some (mI x1), some (mI x2)] [] (hp L mi rs) K) ↔ (∃ n, mif (decide ((mi 1 1 0 4) ≤ x2)) (wp n (D + 1) 79 28 [some (mR 1 1 0), some (mI x1), some (mI x2)] [] (hp L mi rs) K) (wp n (D + 1) 79 10 [some (mR 1 1 0), some (mI x1), some (mI x2)] [] (hp L mi rs) K)) from Iff.rfl).trans (ex_mif))
  | k9 + 2, h9 => exact absurd h9 (by omega)
set_option maxRecDepth 20000 in
theorem B79_10 {D L : Nat} {mi : mMi} {rs : mRs} {K : mOut → mH → Prop} {x1 : Int32} {x2 : Int32} {i : Nat} (hi : i < 2) : WP (D + 1) 79 10 [some (mR 1 i 0), some (mI x1), some (mI x2)] [] (hp L mi rs) K ↔ mck (mIn x2 40) (mif (decide ((mi 1 i 2 (mix x2)) ≠ x1)) (WP (D + 1) 79 22 [some (mR 1 i 0), some (mI x1), some (mI x2)] [] (hp L mi rs) K) (WP (D + 1) 79 20 [some (mR 1 i 0), some (mI x1), some (mI x2)] [] (hp L mi rs) K)) := by
  match i, hi with
  | 0, _ => exact (WP_k 6).trans ((show (∃ n, wp (n + 6) (D + 1) 79 10 [some (mR 1 0 0), some (mI x1), some (mI x2)] [] (hp L mi rs) K) ↔ (∃ n, mck (mIn x2 40) (mif (decide ((mi 1 0 2 (mix x2)) ≠ x1)) (wp n (D + 1) 79 22 [some (mR 1 0 0), some (mI x1), some (mI x2)] [] (hp L mi rs) K) (wp n (D + 1) 79 20 [some (mR 1 0 0), some (mI x1), some (mI x2)] [] (hp L mi rs) K))) from Iff.rfl).trans (ex_mck.trans (mck_c (ex_mif))))
  | 1, _ => exact (WP_k 6).trans ((show (∃ n, wp (n + 6) (D + 1) 79 10 [some (mR 1 1 0), some (mI x1), some (mI x2)] [] (hp L mi rs) K) ↔ (∃ n, mck (mIn x2 40) (mif (decide ((mi 1 1 2 (mix x2)) ≠ x1)) (wp n (D + 1) 79 22 [some (mR 1 1 0), some (mI x1), some (mI x2)] [] (hp L mi rs) K) (wp n (D + 1) 79 20 [some (mR 1 1 0), some (mI x1), some (mI x2)] [] (hp L mi rs) K))) from Iff.rfl).trans (ex_mck.trans (mck_c (ex_mif))))
  | k9 + 2, h9 => exact absurd h9 (by omega)
set_option maxRecDepth 20000 in
theorem B79_20 {D L : Nat} {mi : mMi} {rs : mRs} {K : mOut → mH → Prop} {x1 : Int32} {x2 : Int32} {i : Nat} (hi : i < 2) : WP (D + 1) 79 20 [some (mR 1 i 0), some (mI x1), some (mI x2)] [] (hp L mi rs) K ↔ K (.inl (some (mI x2))) (hp L mi rs) := by
  match i, hi with
  | 0, _ => exact (WP_k 2).trans ((show (∃ n, wp (n + 2) (D + 1) 79 20 [some (mR 1 0 0), some (mI x1), some (mI x2)] [] (hp L mi rs) K) ↔ (∃ n, K (.inl (some (mI x2))) (hp L mi rs)) from Iff.rfl).trans (ex_one))
  | 1, _ => exact (WP_k 2).trans ((show (∃ n, wp (n + 2) (D + 1) 79 20 [some (mR 1 1 0), some (mI x1), some (mI x2)] [] (hp L mi rs) K) ↔ (∃ n, K (.inl (some (mI x2))) (hp L mi rs)) from Iff.rfl).trans (ex_one))
  | k9 + 2, h9 => exact absurd h9 (by omega)
set_option maxRecDepth 20000 in
theorem B79_22 {D L : Nat} {mi : mMi} {rs : mRs} {K : mOut → mH → Prop} {x1 : Int32} {x2 : Int32} {i : Nat} (hi : i < 2) : WP (D + 1) 79 22 [some (mR 1 i 0), some (mI x1), some (mI x2)] [] (hp L mi rs) K ↔ WP (D + 1) 79 2 [some (mR 1 i 0), some (mI x1), some (mI (x2 + (N 1)))] [] (hp L mi rs) K := by
  match i, hi with
  | 0, _ => exact (WP_k 2).trans ((show (∃ n, wp (n + 2) (D + 1) 79 22 [some (mR 1 0 0), some (mI x1), some (mI x2)] [] (hp L mi rs) K) ↔ (∃ n, wp n (D + 1) 79 2 [some (mR 1 0 0), some (mI x1), some (mI (x2 + (N 1)))] [] (hp L mi rs) K) from Iff.rfl).trans (Iff.rfl))
  | 1, _ => exact (WP_k 2).trans ((show (∃ n, wp (n + 2) (D + 1) 79 22 [some (mR 1 1 0), some (mI x1), some (mI x2)] [] (hp L mi rs) K) ↔ (∃ n, wp n (D + 1) 79 2 [some (mR 1 1 0), some (mI x1), some (mI (x2 + (N 1)))] [] (hp L mi rs) K) from Iff.rfl).trans (Iff.rfl))
  | k9 + 2, h9 => exact absurd h9 (by omega)
set_option maxRecDepth 20000 in
theorem B79_28 {D L : Nat} {mi : mMi} {rs : mRs} {K : mOut → mH → Prop} {x1 : Int32} {x2 : Int32} {i : Nat} (hi : i < 2) : WP (D + 1) 79 28 [some (mR 1 i 0), some (mI x1), some (mI x2)] [] (hp L mi rs) K ↔ K (.inl (some (mI (I (-1))))) (hp L mi rs) := by
  match i, hi with
  | 0, _ => exact (WP_k 2).trans ((show (∃ n, wp (n + 2) (D + 1) 79 28 [some (mR 1 0 0), some (mI x1), some (mI x2)] [] (hp L mi rs) K) ↔ (∃ n, K (.inl (some (mI (I (-1))))) (hp L mi rs)) from Iff.rfl).trans (ex_one))
  | 1, _ => exact (WP_k 2).trans ((show (∃ n, wp (n + 2) (D + 1) 79 28 [some (mR 1 1 0), some (mI x1), some (mI x2)] [] (hp L mi rs) K) ↔ (∃ n, K (.inl (some (mI (I (-1))))) (hp L mi rs)) from Iff.rfl).trans (ex_one))
  | k9 + 2, h9 => exact absurd h9 (by omega)
set_option maxRecDepth 20000 in
theorem B80_0 {D L : Nat} {mi : mMi} {rs : mRs} {K : mOut → mH → Prop} {x1 : Int32} {i : Nat} (hi : i < 2) : WP (D + 1) 80 0 [some (mR 1 i 0), some (mI x1)] [] (hp L mi rs) K ↔ mif (decide (x1 < (N 0))) (WP (D + 1) 80 24 [some (mR 1 i 0), some (mI x1)] [] (hp L mi rs) K) (WP (D + 1) 80 4 [some (mR 1 i 0), some (mI x1)] [] (hp L mi rs) K) := by
  match i, hi with
  | 0, _ => exact (WP_k 2).trans ((show (∃ n, wp (n + 2) (D + 1) 80 0 [some (mR 1 0 0), some (mI x1)] [] (hp L mi rs) K) ↔ (∃ n, mif (decide (x1 < (N 0))) (wp n (D + 1) 80 24 [some (mR 1 0 0), some (mI x1)] [] (hp L mi rs) K) (wp n (D + 1) 80 4 [some (mR 1 0 0), some (mI x1)] [] (hp L mi rs) K)) from Iff.rfl).trans (ex_mif))
  | 1, _ => exact (WP_k 2).trans ((show (∃ n, wp (n + 2) (D + 1) 80 0 [some (mR 1 1 0), some (mI x1)] [] (hp L mi rs) K) ↔ (∃ n, mif (decide (x1 < (N 0))) (wp n (D + 1) 80 24 [some (mR 1 1 0), some (mI x1)] [] (hp L mi rs) K) (wp n (D + 1) 80 4 [some (mR 1 1 0), some (mI x1)] [] (hp L mi rs) K)) from Iff.rfl).trans (ex_mif))
  | k9 + 2, h9 => exact absurd h9 (by omega)
set_option maxRecDepth 20000 in
theorem B80_4 {D L : Nat} {mi : mMi} {rs : mRs} {K : mOut → mH → Prop} {x1 : Int32} {i : Nat} (hi : i < 2) : WP (D + 1) 80 4 [some (mR 1 i 0), some (mI x1)] [] (hp L mi rs) K ↔ mif (decide ((mi 1 i 1 1) ≤ x1)) (WP (D + 1) 80 24 [some (mR 1 i 0), some (mI x1)] [] (hp L mi rs) K) (WP (D + 1) 80 14 [some (mR 1 i 0), some (mI x1)] [] (hp L mi rs) K) := by
  match i, hi with
  | 0, _ => exact (WP_k 6).trans ((show (∃ n, wp (n + 6) (D + 1) 80 4 [some (mR 1 0 0), some (mI x1)] [] (hp L mi rs) K) ↔ (∃ n, mif (decide ((mi 1 0 1 1) ≤ x1)) (wp n (D + 1) 80 24 [some (mR 1 0 0), some (mI x1)] [] (hp L mi rs) K) (wp n (D + 1) 80 14 [some (mR 1 0 0), some (mI x1)] [] (hp L mi rs) K)) from Iff.rfl).trans (ex_mif))
  | 1, _ => exact (WP_k 6).trans ((show (∃ n, wp (n + 6) (D + 1) 80 4 [some (mR 1 1 0), some (mI x1)] [] (hp L mi rs) K) ↔ (∃ n, mif (decide ((mi 1 1 1 1) ≤ x1)) (wp n (D + 1) 80 24 [some (mR 1 1 0), some (mI x1)] [] (hp L mi rs) K) (wp n (D + 1) 80 14 [some (mR 1 1 0), some (mI x1)] [] (hp L mi rs) K)) from Iff.rfl).trans (ex_mif))
  | k9 + 2, h9 => exact absurd h9 (by omega)
set_option maxRecDepth 20000 in
theorem B80_14 {D L : Nat} {mi : mMi} {rs : mRs} {K : mOut → mH → Prop} {x1 : Int32} {i : Nat} (hi : i < 2) : WP (D + 1) 80 14 [some (mR 1 i 0), some (mI x1)] [] (hp L mi rs) K ↔ mif (decide (x1 < (mi 1 i 1 0))) (WP (D + 1) 80 26 [some (mR 1 i 0), some (mI x1)] [] (hp L mi rs) K) (WP (D + 1) 80 24 [some (mR 1 i 0), some (mI x1)] [] (hp L mi rs) K) := by
  match i, hi with
  | 0, _ => exact (WP_k 6).trans ((show (∃ n, wp (n + 6) (D + 1) 80 14 [some (mR 1 0 0), some (mI x1)] [] (hp L mi rs) K) ↔ (∃ n, mif (decide (x1 < (mi 1 0 1 0))) (wp n (D + 1) 80 26 [some (mR 1 0 0), some (mI x1)] [] (hp L mi rs) K) (wp n (D + 1) 80 24 [some (mR 1 0 0), some (mI x1)] [] (hp L mi rs) K)) from Iff.rfl).trans (ex_mif))
  | 1, _ => exact (WP_k 6).trans ((show (∃ n, wp (n + 6) (D + 1) 80 14 [some (mR 1 1 0), some (mI x1)] [] (hp L mi rs) K) ↔ (∃ n, mif (decide (x1 < (mi 1 1 1 0))) (wp n (D + 1) 80 26 [some (mR 1 1 0), some (mI x1)] [] (hp L mi rs) K) (wp n (D + 1) 80 24 [some (mR 1 1 0), some (mI x1)] [] (hp L mi rs) K)) from Iff.rfl).trans (ex_mif))
  | k9 + 2, h9 => exact absurd h9 (by omega)
set_option maxRecDepth 20000 in
theorem B80_24 {D L : Nat} {mi : mMi} {rs : mRs} {K : mOut → mH → Prop} {x1 : Int32} {i : Nat} (hi : i < 2) : WP (D + 1) 80 24 [some (mR 1 i 0), some (mI x1)] [] (hp L mi rs) K ↔ K (.inl (some (mI (N 0)))) (hp L mi rs) := by
  match i, hi with
  | 0, _ => exact (WP_k 2).trans ((show (∃ n, wp (n + 2) (D + 1) 80 24 [some (mR 1 0 0), some (mI x1)] [] (hp L mi rs) K) ↔ (∃ n, K (.inl (some (mI (N 0)))) (hp L mi rs)) from Iff.rfl).trans (ex_one))
  | 1, _ => exact (WP_k 2).trans ((show (∃ n, wp (n + 2) (D + 1) 80 24 [some (mR 1 1 0), some (mI x1)] [] (hp L mi rs) K) ↔ (∃ n, K (.inl (some (mI (N 0)))) (hp L mi rs)) from Iff.rfl).trans (ex_one))
  | k9 + 2, h9 => exact absurd h9 (by omega)
set_option maxRecDepth 20000 in
theorem B80_26 {D L : Nat} {mi : mMi} {rs : mRs} {K : mOut → mH → Prop} {x1 : Int32} {i : Nat} (hi : i < 2) : WP (D + 1) 80 26 [some (mR 1 i 0), some (mI x1)] [] (hp L mi rs) K ↔ K (.inl (some (mI ((mi 1 i 1 0) - x1)))) (hp L mi rs) := by
  match i, hi with
  | 0, _ => exact (WP_k 7).trans ((show (∃ n, wp (n + 7) (D + 1) 80 26 [some (mR 1 0 0), some (mI x1)] [] (hp L mi rs) K) ↔ (∃ n, K (.inl (some (mI ((mi 1 0 1 0) - x1)))) (hp L mi rs)) from Iff.rfl).trans (ex_one))
  | 1, _ => exact (WP_k 7).trans ((show (∃ n, wp (n + 7) (D + 1) 80 26 [some (mR 1 1 0), some (mI x1)] [] (hp L mi rs) K) ↔ (∃ n, K (.inl (some (mI ((mi 1 1 1 0) - x1)))) (hp L mi rs)) from Iff.rfl).trans (ex_one))
  | k9 + 2, h9 => exact absurd h9 (by omega)
set_option maxRecDepth 20000 in
theorem B81_0 {D L : Nat} {mi : mMi} {rs : mRs} {K : mOut → mH → Prop} {x1 : Int32} {x2 : Int32} {i : Nat} (hi : i < 2) : WP (D + 1) 81 0 [some (mR 1 i 0), some (mI x1), some (mI x2)] [] (hp L mi rs) K ↔ mif (decide (x2 < (N 0))) (WP (D + 1) 81 13 [some (mR 1 i 0), some (mI x1), some (mI x2)] [] (hp L mi rs) K) (WP (D + 1) 81 4 [some (mR 1 i 0), some (mI x1), some (mI x2)] [] (hp L mi rs) K) := by
  match i, hi with
  | 0, _ => exact (WP_k 2).trans ((show (∃ n, wp (n + 2) (D + 1) 81 0 [some (mR 1 0 0), some (mI x1), some (mI x2)] [] (hp L mi rs) K) ↔ (∃ n, mif (decide (x2 < (N 0))) (wp n (D + 1) 81 13 [some (mR 1 0 0), some (mI x1), some (mI x2)] [] (hp L mi rs) K) (wp n (D + 1) 81 4 [some (mR 1 0 0), some (mI x1), some (mI x2)] [] (hp L mi rs) K)) from Iff.rfl).trans (ex_mif))
  | 1, _ => exact (WP_k 2).trans ((show (∃ n, wp (n + 2) (D + 1) 81 0 [some (mR 1 1 0), some (mI x1), some (mI x2)] [] (hp L mi rs) K) ↔ (∃ n, mif (decide (x2 < (N 0))) (wp n (D + 1) 81 13 [some (mR 1 1 0), some (mI x1), some (mI x2)] [] (hp L mi rs) K) (wp n (D + 1) 81 4 [some (mR 1 1 0), some (mI x1), some (mI x2)] [] (hp L mi rs) K)) from Iff.rfl).trans (ex_mif))
  | k9 + 2, h9 => exact absurd h9 (by omega)
set_option maxRecDepth 20000 in
theorem B81_4 {D L : Nat} {mi : mMi} {rs : mRs} {K : mOut → mH → Prop} {x1 : Int32} {x2 : Int32} {i : Nat} (hi : i < 2) : WP (D + 1) 81 4 [some (mR 1 i 0), some (mI x1), some (mI x2)] [] (hp L mi rs) K ↔ WP D 80 0 (mEntry 80 [mR 1 i 0, mI x1]) [] (hp L mi rs) (Bk (D + 1) 81 10 [some (mR 1 i 0), some (mI x1), some (mI x2)] [(mI x2)] K) := by
  match i, hi with
  | 0, _ => exact (WP_k 4).trans ((show (∃ n, wp (n + 4) (D + 1) 81 4 [some (mR 1 0 0), some (mI x1), some (mI x2)] [] (hp L mi rs) K) ↔ (∃ n, wp n D 80 0 (mEntry 80 [mR 1 0 0, mI x1]) [] (hp L mi rs) (Bkn n (D + 1) 81 10 [some (mR 1 0 0), some (mI x1), some (mI x2)] [(mI x2)] K)) from Iff.rfl).trans (ex_Bk))
  | 1, _ => exact (WP_k 4).trans ((show (∃ n, wp (n + 4) (D + 1) 81 4 [some (mR 1 1 0), some (mI x1), some (mI x2)] [] (hp L mi rs) K) ↔ (∃ n, wp n D 80 0 (mEntry 80 [mR 1 1 0, mI x1]) [] (hp L mi rs) (Bkn n (D + 1) 81 10 [some (mR 1 1 0), some (mI x1), some (mI x2)] [(mI x2)] K)) from Iff.rfl).trans (ex_Bk))
  | k9 + 2, h9 => exact absurd h9 (by omega)
set_option maxRecDepth 20000 in
theorem B81_10 {D L : Nat} {mi : mMi} {rs : mRs} {K : mOut → mH → Prop} {x1 : Int32} {x2 : Int32} {s0 : Int32} {s1 : Int32} {i : Nat} (hi : i < 2) : WP (D + 1) 81 10 [some (mR 1 i 0), some (mI x1), some (mI x2)] [(mI s1), (mI s0)] (hp L mi rs) K ↔ mif (decide (s0 < s1)) (WP (D + 1) 81 15 [some (mR 1 i 0), some (mI x1), some (mI x2)] [] (hp L mi rs) K) (WP (D + 1) 81 13 [some (mR 1 i 0), some (mI x1), some (mI x2)] [] (hp L mi rs) K) := by
  match i, hi with
  | 0, _ => exact (WP_k 1).trans ((show (∃ n, wp (n + 1) (D + 1) 81 10 [some (mR 1 0 0), some (mI x1), some (mI x2)] [(mI s1), (mI s0)] (hp L mi rs) K) ↔ (∃ n, mif (decide (s0 < s1)) (wp n (D + 1) 81 15 [some (mR 1 0 0), some (mI x1), some (mI x2)] [] (hp L mi rs) K) (wp n (D + 1) 81 13 [some (mR 1 0 0), some (mI x1), some (mI x2)] [] (hp L mi rs) K)) from Iff.rfl).trans (ex_mif))
  | 1, _ => exact (WP_k 1).trans ((show (∃ n, wp (n + 1) (D + 1) 81 10 [some (mR 1 1 0), some (mI x1), some (mI x2)] [(mI s1), (mI s0)] (hp L mi rs) K) ↔ (∃ n, mif (decide (s0 < s1)) (wp n (D + 1) 81 15 [some (mR 1 1 0), some (mI x1), some (mI x2)] [] (hp L mi rs) K) (wp n (D + 1) 81 13 [some (mR 1 1 0), some (mI x1), some (mI x2)] [] (hp L mi rs) K)) from Iff.rfl).trans (ex_mif))
  | k9 + 2, h9 => exact absurd h9 (by omega)
set_option maxRecDepth 20000 in
theorem B81_13 {D L : Nat} {mi : mMi} {rs : mRs} {K : mOut → mH → Prop} {x1 : Int32} {x2 : Int32} {i : Nat} (hi : i < 2) : WP (D + 1) 81 13 [some (mR 1 i 0), some (mI x1), some (mI x2)] [] (hp L mi rs) K ↔ K (.inl (some (mI (I (-1))))) (hp L mi rs) := by
  match i, hi with
  | 0, _ => exact (WP_k 2).trans ((show (∃ n, wp (n + 2) (D + 1) 81 13 [some (mR 1 0 0), some (mI x1), some (mI x2)] [] (hp L mi rs) K) ↔ (∃ n, K (.inl (some (mI (I (-1))))) (hp L mi rs)) from Iff.rfl).trans (ex_one))
  | 1, _ => exact (WP_k 2).trans ((show (∃ n, wp (n + 2) (D + 1) 81 13 [some (mR 1 1 0), some (mI x1), some (mI x2)] [] (hp L mi rs) K) ↔ (∃ n, K (.inl (some (mI (I (-1))))) (hp L mi rs)) from Iff.rfl).trans (ex_one))
  | k9 + 2, h9 => exact absurd h9 (by omega)
set_option maxRecDepth 20000 in
theorem B81_15 {D L : Nat} {mi : mMi} {rs : mRs} {K : mOut → mH → Prop} {x1 : Int32} {x2 : Int32} {i : Nat} (hi : i < 2) : WP (D + 1) 81 15 [some (mR 1 i 0), some (mI x1), some (mI x2)] [] (hp L mi rs) K ↔ K (.inl (some (mI ((x1 * (N 12)) + x2)))) (hp L mi rs) := by
  match i, hi with
  | 0, _ => exact (WP_k 6).trans ((show (∃ n, wp (n + 6) (D + 1) 81 15 [some (mR 1 0 0), some (mI x1), some (mI x2)] [] (hp L mi rs) K) ↔ (∃ n, K (.inl (some (mI ((x1 * (N 12)) + x2)))) (hp L mi rs)) from Iff.rfl).trans (ex_one))
  | 1, _ => exact (WP_k 6).trans ((show (∃ n, wp (n + 6) (D + 1) 81 15 [some (mR 1 1 0), some (mI x1), some (mI x2)] [] (hp L mi rs) K) ↔ (∃ n, K (.inl (some (mI ((x1 * (N 12)) + x2)))) (hp L mi rs)) from Iff.rfl).trans (ex_one))
  | k9 + 2, h9 => exact absurd h9 (by omega)
set_option maxRecDepth 20000 in
theorem B82_0 {D L : Nat} {mi : mMi} {rs : mRs} {K : mOut → mH → Prop}   : WP (D + 1) 82 0 [some (mR 1 0 0), some (mR 1 1 0)] [] (hp L mi rs) K ↔ K (.inl none) (hp L (mset (mcopy (mcopy (mcopy (mcopy mi 1 1 1 0 1 0 1 0 6) 1 1 2 0 1 0 2 0 40) 1 1 3 0 1 0 3 0 40) 1 1 4 0 1 0 4 0 40) 1 0 0 4 (mi 1 1 0 4)) rs) :=
  (WP_k 37).trans ((show (∃ n, wp (n + 37) (D + 1) 82 0 [some (mR 1 0 0), some (mR 1 1 0)] [] (hp L mi rs) K) ↔ (∃ n, K (.inl none) (hp L (mset (mcopy (mcopy (mcopy (mcopy mi 1 1 1 0 1 0 1 0 6) 1 1 2 0 1 0 2 0 40) 1 1 3 0 1 0 3 0 40) 1 1 4 0 1 0 4 0 40) 1 0 0 4 (mi 1 1 0 4)) rs)) from Iff.rfl).trans (ex_one))
set_option maxRecDepth 20000 in
theorem B83_0 {D L : Nat} {mi : mMi} {rs : mRs} {K : mOut → mH → Prop} {i : Nat} (hi : i < 2) : WP (D + 1) 83 0 [some (mR 1 i 0), none, none] [] (hp L mi rs) K ↔ WP (D + 1) 83 4 [some (mR 1 i 0), some (mI (N 0)), some (mI (N 0))] [] (hp L mi rs) K := by
  match i, hi with
  | 0, _ => exact (WP_k 4).trans ((show (∃ n, wp (n + 4) (D + 1) 83 0 [some (mR 1 0 0), none, none] [] (hp L mi rs) K) ↔ (∃ n, wp n (D + 1) 83 4 [some (mR 1 0 0), some (mI (N 0)), some (mI (N 0))] [] (hp L mi rs) K) from Iff.rfl).trans (Iff.rfl))
  | 1, _ => exact (WP_k 4).trans ((show (∃ n, wp (n + 4) (D + 1) 83 0 [some (mR 1 1 0), none, none] [] (hp L mi rs) K) ↔ (∃ n, wp n (D + 1) 83 4 [some (mR 1 1 0), some (mI (N 0)), some (mI (N 0))] [] (hp L mi rs) K) from Iff.rfl).trans (Iff.rfl))
  | k9 + 2, h9 => exact absurd h9 (by omega)
set_option maxRecDepth 20000 in
theorem B83_4 {D L : Nat} {mi : mMi} {rs : mRs} {K : mOut → mH → Prop} {x1 : Int32} {x2 : Int32} {i : Nat} (hi : i < 2) : WP (D + 1) 83 4 [some (mR 1 i 0), some (mI x1), some (mI x2)] [] (hp L mi rs) K ↔ mif (decide ((N 8) ≤ x2)) (WP (D + 1) 83 24 [some (mR 1 i 0), some (mI x1), some (mI x2)] [] (hp L mi rs) K) (WP (D + 1) 83 10 [some (mR 1 i 0), some (mI x1), some (mI x2)] [] (hp L mi rs) K) := by
  match i, hi with
  | 0, _ => exact (WP_k 3).trans ((show (∃ n, wp (n + 3) (D + 1) 83 4 [some (mR 1 0 0), some (mI x1), some (mI x2)] [] (hp L mi rs) K) ↔ (∃ n, mif (decide ((N 8) ≤ x2)) (wp n (D + 1) 83 24 [some (mR 1 0 0), some (mI x1), some (mI x2)] [] (hp L mi rs) K) (wp n (D + 1) 83 10 [some (mR 1 0 0), some (mI x1), some (mI x2)] [] (hp L mi rs) K)) from Iff.rfl).trans (ex_mif))
  | 1, _ => exact (WP_k 3).trans ((show (∃ n, wp (n + 3) (D + 1) 83 4 [some (mR 1 1 0), some (mI x1), some (mI x2)] [] (hp L mi rs) K) ↔ (∃ n, mif (decide ((N 8) ≤ x2)) (wp n (D + 1) 83 24 [some (mR 1 1 0), some (mI x1), some (mI x2)] [] (hp L mi rs) K) (wp n (D + 1) 83 10 [some (mR 1 1 0), some (mI x1), some (mI x2)] [] (hp L mi rs) K)) from Iff.rfl).trans (ex_mif))
  | k9 + 2, h9 => exact absurd h9 (by omega)
set_option maxRecDepth 20000 in
theorem B83_10 {D L : Nat} {mi : mMi} {rs : mRs} {K : mOut → mH → Prop} {x1 : Int32} {x2 : Int32} {i : Nat} (hi : i < 2) : WP (D + 1) 83 10 [some (mR 1 i 0), some (mI x1), some (mI x2)] [] (hp L mi rs) K ↔ WP D 80 0 (mEntry 80 [mR 1 i 0, mI x2]) [] (hp L mi rs) (Bk (D + 1) 83 16 [some (mR 1 i 0), some (mI x1), some (mI x2)] [(mI x1)] K) := by
  match i, hi with
  | 0, _ => exact (WP_k 4).trans ((show (∃ n, wp (n + 4) (D + 1) 83 10 [some (mR 1 0 0), some (mI x1), some (mI x2)] [] (hp L mi rs) K) ↔ (∃ n, wp n D 80 0 (mEntry 80 [mR 1 0 0, mI x2]) [] (hp L mi rs) (Bkn n (D + 1) 83 16 [some (mR 1 0 0), some (mI x1), some (mI x2)] [(mI x1)] K)) from Iff.rfl).trans (ex_Bk))
  | 1, _ => exact (WP_k 4).trans ((show (∃ n, wp (n + 4) (D + 1) 83 10 [some (mR 1 1 0), some (mI x1), some (mI x2)] [] (hp L mi rs) K) ↔ (∃ n, wp n D 80 0 (mEntry 80 [mR 1 1 0, mI x2]) [] (hp L mi rs) (Bkn n (D + 1) 83 16 [some (mR 1 1 0), some (mI x1), some (mI x2)] [(mI x1)] K)) from Iff.rfl).trans (ex_Bk))
  | k9 + 2, h9 => exact absurd h9 (by omega)
set_option maxRecDepth 20000 in
theorem B83_16 {D L : Nat} {mi : mMi} {rs : mRs} {K : mOut → mH → Prop} {x1 : Int32} {x2 : Int32} {s0 : Int32} {s1 : Int32} {i : Nat} (hi : i < 2) : WP (D + 1) 83 16 [some (mR 1 i 0), some (mI x1), some (mI x2)] [(mI s1), (mI s0)] (hp L mi rs) K ↔ WP (D + 1) 83 4 [some (mR 1 i 0), some (mI (s0 + s1)), some (mI (x2 + (N 1)))] [] (hp L mi rs) K := by
  match i, hi with
  | 0, _ => exact (WP_k 4).trans ((show (∃ n, wp (n + 4) (D + 1) 83 16 [some (mR 1 0 0), some (mI x1), some (mI x2)] [(mI s1), (mI s0)] (hp L mi rs) K) ↔ (∃ n, wp n (D + 1) 83 4 [some (mR 1 0 0), some (mI (s0 + s1)), some (mI (x2 + (N 1)))] [] (hp L mi rs) K) from Iff.rfl).trans (Iff.rfl))
  | 1, _ => exact (WP_k 4).trans ((show (∃ n, wp (n + 4) (D + 1) 83 16 [some (mR 1 1 0), some (mI x1), some (mI x2)] [(mI s1), (mI s0)] (hp L mi rs) K) ↔ (∃ n, wp n (D + 1) 83 4 [some (mR 1 1 0), some (mI (s0 + s1)), some (mI (x2 + (N 1)))] [] (hp L mi rs) K) from Iff.rfl).trans (Iff.rfl))
  | k9 + 2, h9 => exact absurd h9 (by omega)
set_option maxRecDepth 20000 in
theorem B83_24 {D L : Nat} {mi : mMi} {rs : mRs} {K : mOut → mH → Prop} {x1 : Int32} {x2 : Int32} {i : Nat} (hi : i < 2) : WP (D + 1) 83 24 [some (mR 1 i 0), some (mI x1), some (mI x2)] [] (hp L mi rs) K ↔ K (.inl (some (mI x1))) (hp L mi rs) := by
  match i, hi with
  | 0, _ => exact (WP_k 2).trans ((show (∃ n, wp (n + 2) (D + 1) 83 24 [some (mR 1 0 0), some (mI x1), some (mI x2)] [] (hp L mi rs) K) ↔ (∃ n, K (.inl (some (mI x1))) (hp L mi rs)) from Iff.rfl).trans (ex_one))
  | 1, _ => exact (WP_k 2).trans ((show (∃ n, wp (n + 2) (D + 1) 83 24 [some (mR 1 1 0), some (mI x1), some (mI x2)] [] (hp L mi rs) K) ↔ (∃ n, K (.inl (some (mI x1))) (hp L mi rs)) from Iff.rfl).trans (ex_one))
  | k9 + 2, h9 => exact absurd h9 (by omega)
set_option maxRecDepth 20000 in
theorem B85_0 {D L : Nat} {mi : mMi} {rs : mRs} {K : mOut → mH → Prop} {i2 : Nat} (hi2 : i2 < 3) : WP (D + 1) 85 0 [some (mR 2 2 0), some (mR 0 i2 0), none, none] [] (hp L mi rs) K ↔ WP (D + 1) 85 3 [some (mR 2 2 0), some (mR 0 i2 0), some (mI (N 7)), none] [] (hp L mi rs) K := by
  match i2, hi2 with
  | 0, _ => exact (WP_k 2).trans ((show (∃ n, wp (n + 2) (D + 1) 85 0 [some (mR 2 2 0), some (mR 0 0 0), none, none] [] (hp L mi rs) K) ↔ (∃ n, wp n (D + 1) 85 3 [some (mR 2 2 0), some (mR 0 0 0), some (mI (N 7)), none] [] (hp L mi rs) K) from Iff.rfl).trans (Iff.rfl))
  | 1, _ => exact (WP_k 2).trans ((show (∃ n, wp (n + 2) (D + 1) 85 0 [some (mR 2 2 0), some (mR 0 1 0), none, none] [] (hp L mi rs) K) ↔ (∃ n, wp n (D + 1) 85 3 [some (mR 2 2 0), some (mR 0 1 0), some (mI (N 7)), none] [] (hp L mi rs) K) from Iff.rfl).trans (Iff.rfl))
  | 2, _ => exact (WP_k 2).trans ((show (∃ n, wp (n + 2) (D + 1) 85 0 [some (mR 2 2 0), some (mR 0 2 0), none, none] [] (hp L mi rs) K) ↔ (∃ n, wp n (D + 1) 85 3 [some (mR 2 2 0), some (mR 0 2 0), some (mI (N 7)), none] [] (hp L mi rs) K) from Iff.rfl).trans (Iff.rfl))
  | k9 + 3, h9 => exact absurd h9 (by omega)
set_option maxRecDepth 20000 in
theorem B85_3 {D L : Nat} {mi : mMi} {rs : mRs} {K : mOut → mH → Prop} {x2 : Int32} {l3 : Option mV} {i2 : Nat} (hi2 : i2 < 3) : WP (D + 1) 85 3 [some (mR 2 2 0), some (mR 0 i2 0), some (mI x2), l3] [] (hp L mi rs) K ↔ mif (decide (x2 < (N 0))) (WP (D + 1) 85 40 [some (mR 2 2 0), some (mR 0 i2 0), some (mI x2), l3] [] (hp L mi rs) K) (WP (D + 1) 85 7 [some (mR 2 2 0), some (mR 0 i2 0), some (mI x2), l3] [] (hp L mi rs) K) := by
  match i2, hi2 with
  | 0, _ => exact (WP_k 2).trans ((show (∃ n, wp (n + 2) (D + 1) 85 3 [some (mR 2 2 0), some (mR 0 0 0), some (mI x2), l3] [] (hp L mi rs) K) ↔ (∃ n, mif (decide (x2 < (N 0))) (wp n (D + 1) 85 40 [some (mR 2 2 0), some (mR 0 0 0), some (mI x2), l3] [] (hp L mi rs) K) (wp n (D + 1) 85 7 [some (mR 2 2 0), some (mR 0 0 0), some (mI x2), l3] [] (hp L mi rs) K)) from Iff.rfl).trans (ex_mif))
  | 1, _ => exact (WP_k 2).trans ((show (∃ n, wp (n + 2) (D + 1) 85 3 [some (mR 2 2 0), some (mR 0 1 0), some (mI x2), l3] [] (hp L mi rs) K) ↔ (∃ n, mif (decide (x2 < (N 0))) (wp n (D + 1) 85 40 [some (mR 2 2 0), some (mR 0 1 0), some (mI x2), l3] [] (hp L mi rs) K) (wp n (D + 1) 85 7 [some (mR 2 2 0), some (mR 0 1 0), some (mI x2), l3] [] (hp L mi rs) K)) from Iff.rfl).trans (ex_mif))
  | 2, _ => exact (WP_k 2).trans ((show (∃ n, wp (n + 2) (D + 1) 85 3 [some (mR 2 2 0), some (mR 0 2 0), some (mI x2), l3] [] (hp L mi rs) K) ↔ (∃ n, mif (decide (x2 < (N 0))) (wp n (D + 1) 85 40 [some (mR 2 2 0), some (mR 0 2 0), some (mI x2), l3] [] (hp L mi rs) K) (wp n (D + 1) 85 7 [some (mR 2 2 0), some (mR 0 2 0), some (mI x2), l3] [] (hp L mi rs) K)) from Iff.rfl).trans (ex_mif))
  | k9 + 3, h9 => exact absurd h9 (by omega)
set_option maxRecDepth 20000 in
theorem B85_7 {D L : Nat} {mi : mMi} {rs : mRs} {K : mOut → mH → Prop} {x2 : Int32} {l3 : Option mV} {i2 : Nat} (hi2 : i2 < 3) : WP (D + 1) 85 7 [some (mR 2 2 0), some (mR 0 i2 0), some (mI x2), l3] [] (hp L mi rs) K ↔ WP (D + 1) 85 9 [some (mR 2 2 0), some (mR 0 i2 0), some (mI x2), some (mI (N 0))] [] (hp L mi rs) K := by
  match i2, hi2 with
  | 0, _ => exact (WP_k 2).trans ((show (∃ n, wp (n + 2) (D + 1) 85 7 [some (mR 2 2 0), some (mR 0 0 0), some (mI x2), l3] [] (hp L mi rs) K) ↔ (∃ n, wp n (D + 1) 85 9 [some (mR 2 2 0), some (mR 0 0 0), some (mI x2), some (mI (N 0))] [] (hp L mi rs) K) from Iff.rfl).trans (Iff.rfl))
  | 1, _ => exact (WP_k 2).trans ((show (∃ n, wp (n + 2) (D + 1) 85 7 [some (mR 2 2 0), some (mR 0 1 0), some (mI x2), l3] [] (hp L mi rs) K) ↔ (∃ n, wp n (D + 1) 85 9 [some (mR 2 2 0), some (mR 0 1 0), some (mI x2), some (mI (N 0))] [] (hp L mi rs) K) from Iff.rfl).trans (Iff.rfl))
  | 2, _ => exact (WP_k 2).trans ((show (∃ n, wp (n + 2) (D + 1) 85 7 [some (mR 2 2 0), some (mR 0 2 0), some (mI x2), l3] [] (hp L mi rs) K) ↔ (∃ n, wp n (D + 1) 85 9 [some (mR 2 2 0), some (mR 0 2 0), some (mI x2), some (mI (N 0))] [] (hp L mi rs) K) from Iff.rfl).trans (Iff.rfl))
  | k9 + 3, h9 => exact absurd h9 (by omega)
set_option maxRecDepth 20000 in
theorem B85_9 {D L : Nat} {mi : mMi} {rs : mRs} {K : mOut → mH → Prop} {x2 : Int32} {x3 : Int32} {i2 : Nat} (hi2 : i2 < 3) : WP (D + 1) 85 9 [some (mR 2 2 0), some (mR 0 i2 0), some (mI x2), some (mI x3)] [] (hp L mi rs) K ↔ WP D 80 0 (mEntry 80 [mR 1 (RO i2) 0, mI x2]) [] (hp L mi rs) (Bk (D + 1) 85 18 [some (mR 2 2 0), some (mR 0 i2 0), some (mI x2), some (mI x3)] [(mI x3)] K) := by
  match i2, hi2 with
  | 0, _ => exact (WP_k 5).trans ((show (∃ n, wp (n + 5) (D + 1) 85 9 [some (mR 2 2 0), some (mR 0 0 0), some (mI x2), some (mI x3)] [] (hp L mi rs) K) ↔ (∃ n, wp n D 80 0 (mEntry 80 [mR 1 (RO 0) 0, mI x2]) [] (hp L mi rs) (Bkn n (D + 1) 85 18 [some (mR 2 2 0), some (mR 0 0 0), some (mI x2), some (mI x3)] [(mI x3)] K)) from Iff.rfl).trans (ex_Bk))
  | 1, _ => exact (WP_k 5).trans ((show (∃ n, wp (n + 5) (D + 1) 85 9 [some (mR 2 2 0), some (mR 0 1 0), some (mI x2), some (mI x3)] [] (hp L mi rs) K) ↔ (∃ n, wp n D 80 0 (mEntry 80 [mR 1 (RO 1) 0, mI x2]) [] (hp L mi rs) (Bkn n (D + 1) 85 18 [some (mR 2 2 0), some (mR 0 1 0), some (mI x2), some (mI x3)] [(mI x3)] K)) from Iff.rfl).trans (ex_Bk))
  | 2, _ => exact (WP_k 5).trans ((show (∃ n, wp (n + 5) (D + 1) 85 9 [some (mR 2 2 0), some (mR 0 2 0), some (mI x2), some (mI x3)] [] (hp L mi rs) K) ↔ (∃ n, wp n D 80 0 (mEntry 80 [mR 1 (RO 2) 0, mI x2]) [] (hp L mi rs) (Bkn n (D + 1) 85 18 [some (mR 2 2 0), some (mR 0 2 0), some (mI x2), some (mI x3)] [(mI x3)] K)) from Iff.rfl).trans (ex_Bk))
  | k9 + 3, h9 => exact absurd h9 (by omega)
set_option maxRecDepth 20000 in
theorem B85_18 {D L : Nat} {mi : mMi} {rs : mRs} {K : mOut → mH → Prop} {x2 : Int32} {x3 : Int32} {s0 : Int32} {s1 : Int32} {i2 : Nat} (hi2 : i2 < 3) : WP (D + 1) 85 18 [some (mR 2 2 0), some (mR 0 i2 0), some (mI x2), some (mI x3)] [(mI s1), (mI s0)] (hp L mi rs) K ↔ mif (decide (s1 ≤ s0)) (WP (D + 1) 85 34 [some (mR 2 2 0), some (mR 0 i2 0), some (mI x2), some (mI x3)] [] (hp L mi rs) K) (WP (D + 1) 85 21 [some (mR 2 2 0), some (mR 0 i2 0), some (mI x2), some (mI x3)] [] (hp L mi rs) K) := by
  match i2, hi2 with
  | 0, _ => exact (WP_k 1).trans ((show (∃ n, wp (n + 1) (D + 1) 85 18 [some (mR 2 2 0), some (mR 0 0 0), some (mI x2), some (mI x3)] [(mI s1), (mI s0)] (hp L mi rs) K) ↔ (∃ n, mif (decide (s1 ≤ s0)) (wp n (D + 1) 85 34 [some (mR 2 2 0), some (mR 0 0 0), some (mI x2), some (mI x3)] [] (hp L mi rs) K) (wp n (D + 1) 85 21 [some (mR 2 2 0), some (mR 0 0 0), some (mI x2), some (mI x3)] [] (hp L mi rs) K)) from Iff.rfl).trans (ex_mif))
  | 1, _ => exact (WP_k 1).trans ((show (∃ n, wp (n + 1) (D + 1) 85 18 [some (mR 2 2 0), some (mR 0 1 0), some (mI x2), some (mI x3)] [(mI s1), (mI s0)] (hp L mi rs) K) ↔ (∃ n, mif (decide (s1 ≤ s0)) (wp n (D + 1) 85 34 [some (mR 2 2 0), some (mR 0 1 0), some (mI x2), some (mI x3)] [] (hp L mi rs) K) (wp n (D + 1) 85 21 [some (mR 2 2 0), some (mR 0 1 0), some (mI x2), some (mI x3)] [] (hp L mi rs) K)) from Iff.rfl).trans (ex_mif))
  | 2, _ => exact (WP_k 1).trans ((show (∃ n, wp (n + 1) (D + 1) 85 18 [some (mR 2 2 0), some (mR 0 2 0), some (mI x2), some (mI x3)] [(mI s1), (mI s0)] (hp L mi rs) K) ↔ (∃ n, mif (decide (s1 ≤ s0)) (wp n (D + 1) 85 34 [some (mR 2 2 0), some (mR 0 2 0), some (mI x2), some (mI x3)] [] (hp L mi rs) K) (wp n (D + 1) 85 21 [some (mR 2 2 0), some (mR 0 2 0), some (mI x2), some (mI x3)] [] (hp L mi rs) K)) from Iff.rfl).trans (ex_mif))
  | k9 + 3, h9 => exact absurd h9 (by omega)
set_option maxRecDepth 20000 in
theorem B85_21 {D L : Nat} {mi : mMi} {rs : mRs} {K : mOut → mH → Prop} {x2 : Int32} {x3 : Int32} {i2 : Nat} (hi2 : i2 < 3) : WP (D + 1) 85 21 [some (mR 2 2 0), some (mR 0 i2 0), some (mI x2), some (mI x3)] [] (hp L mi rs) K ↔ WP D 86 0 (mEntry 86 [mR 2 2 0, mR 0 i2 0, mI x2, mI x3]) [] (hp L mi rs) (Bk (D + 1) 85 28 [some (mR 2 2 0), some (mR 0 i2 0), some (mI x2), some (mI x3)] [] K) := by
  match i2, hi2 with
  | 0, _ => exact (WP_k 5).trans ((show (∃ n, wp (n + 5) (D + 1) 85 21 [some (mR 2 2 0), some (mR 0 0 0), some (mI x2), some (mI x3)] [] (hp L mi rs) K) ↔ (∃ n, wp n D 86 0 (mEntry 86 [mR 2 2 0, mR 0 0 0, mI x2, mI x3]) [] (hp L mi rs) (Bkn n (D + 1) 85 28 [some (mR 2 2 0), some (mR 0 0 0), some (mI x2), some (mI x3)] [] K)) from Iff.rfl).trans (ex_Bk))
  | 1, _ => exact (WP_k 5).trans ((show (∃ n, wp (n + 5) (D + 1) 85 21 [some (mR 2 2 0), some (mR 0 1 0), some (mI x2), some (mI x3)] [] (hp L mi rs) K) ↔ (∃ n, wp n D 86 0 (mEntry 86 [mR 2 2 0, mR 0 1 0, mI x2, mI x3]) [] (hp L mi rs) (Bkn n (D + 1) 85 28 [some (mR 2 2 0), some (mR 0 1 0), some (mI x2), some (mI x3)] [] K)) from Iff.rfl).trans (ex_Bk))
  | 2, _ => exact (WP_k 5).trans ((show (∃ n, wp (n + 5) (D + 1) 85 21 [some (mR 2 2 0), some (mR 0 2 0), some (mI x2), some (mI x3)] [] (hp L mi rs) K) ↔ (∃ n, wp n D 86 0 (mEntry 86 [mR 2 2 0, mR 0 2 0, mI x2, mI x3]) [] (hp L mi rs) (Bkn n (D + 1) 85 28 [some (mR 2 2 0), some (mR 0 2 0), some (mI x2), some (mI x3)] [] K)) from Iff.rfl).trans (ex_Bk))
  | k9 + 3, h9 => exact absurd h9 (by omega)
set_option maxRecDepth 20000 in
theorem B85_28 {D L : Nat} {mi : mMi} {rs : mRs} {K : mOut → mH → Prop} {x2 : Int32} {x3 : Int32} {i2 : Nat} (hi2 : i2 < 3) : WP (D + 1) 85 28 [some (mR 2 2 0), some (mR 0 i2 0), some (mI x2), some (mI x3)] [] (hp L mi rs) K ↔ WP (D + 1) 85 9 [some (mR 2 2 0), some (mR 0 i2 0), some (mI x2), some (mI (x3 + (N 1)))] [] (hp L mi rs) K := by
  match i2, hi2 with
  | 0, _ => exact (WP_k 2).trans ((show (∃ n, wp (n + 2) (D + 1) 85 28 [some (mR 2 2 0), some (mR 0 0 0), some (mI x2), some (mI x3)] [] (hp L mi rs) K) ↔ (∃ n, wp n (D + 1) 85 9 [some (mR 2 2 0), some (mR 0 0 0), some (mI x2), some (mI (x3 + (N 1)))] [] (hp L mi rs) K) from Iff.rfl).trans (Iff.rfl))
  | 1, _ => exact (WP_k 2).trans ((show (∃ n, wp (n + 2) (D + 1) 85 28 [some (mR 2 2 0), some (mR 0 1 0), some (mI x2), some (mI x3)] [] (hp L mi rs) K) ↔ (∃ n, wp n (D + 1) 85 9 [some (mR 2 2 0), some (mR 0 1 0), some (mI x2), some (mI (x3 + (N 1)))] [] (hp L mi rs) K) from Iff.rfl).trans (Iff.rfl))
  | 2, _ => exact (WP_k 2).trans ((show (∃ n, wp (n + 2) (D + 1) 85 28 [some (mR 2 2 0), some (mR 0 2 0), some (mI x2), some (mI x3)] [] (hp L mi rs) K) ↔ (∃ n, wp n (D + 1) 85 9 [some (mR 2 2 0), some (mR 0 2 0), some (mI x2), some (mI (x3 + (N 1)))] [] (hp L mi rs) K) from Iff.rfl).trans (Iff.rfl))
  | k9 + 3, h9 => exact absurd h9 (by omega)
set_option maxRecDepth 20000 in
theorem B85_34 {D L : Nat} {mi : mMi} {rs : mRs} {K : mOut → mH → Prop} {x2 : Int32} {x3 : Int32} {i2 : Nat}  : WP (D + 1) 85 34 [some (mR 2 2 0), some (mR 0 i2 0), some (mI x2), some (mI x3)] [] (hp L mi rs) K ↔ WP (D + 1) 85 37 [some (mR 2 2 0), some (mR 0 i2 0), some (mI (x2 + (I (-1)))), some (mI x3)] [] (hp L mi rs) K :=
  WP_iinc (m := 85) (pc := 34) (d := -1) rfl rfl rfl
set_option maxRecDepth 20000 in
theorem B85_37 {D L : Nat} {mi : mMi} {rs : mRs} {K : mOut → mH → Prop} {x2 : Int32} {x3 : Int32} {i2 : Nat} (hi2 : i2 < 3) : WP (D + 1) 85 37 [some (mR 2 2 0), some (mR 0 i2 0), some (mI x2), some (mI x3)] [] (hp L mi rs) K ↔ WP (D + 1) 85 3 [some (mR 2 2 0), some (mR 0 i2 0), some (mI x2), some (mI x3)] [] (hp L mi rs) K := by
  match i2, hi2 with
  | 0, _ => exact (WP_k 1).trans ((show (∃ n, wp (n + 1) (D + 1) 85 37 [some (mR 2 2 0), some (mR 0 0 0), some (mI x2), some (mI x3)] [] (hp L mi rs) K) ↔ (∃ n, wp n (D + 1) 85 3 [some (mR 2 2 0), some (mR 0 0 0), some (mI x2), some (mI x3)] [] (hp L mi rs) K) from Iff.rfl).trans (Iff.rfl))
  | 1, _ => exact (WP_k 1).trans ((show (∃ n, wp (n + 1) (D + 1) 85 37 [some (mR 2 2 0), some (mR 0 1 0), some (mI x2), some (mI x3)] [] (hp L mi rs) K) ↔ (∃ n, wp n (D + 1) 85 3 [some (mR 2 2 0), some (mR 0 1 0), some (mI x2), some (mI x3)] [] (hp L mi rs) K) from Iff.rfl).trans (Iff.rfl))
  | 2, _ => exact (WP_k 1).trans ((show (∃ n, wp (n + 1) (D + 1) 85 37 [some (mR 2 2 0), some (mR 0 2 0), some (mI x2), some (mI x3)] [] (hp L mi rs) K) ↔ (∃ n, wp n (D + 1) 85 3 [some (mR 2 2 0), some (mR 0 2 0), some (mI x2), some (mI x3)] [] (hp L mi rs) K) from Iff.rfl).trans (Iff.rfl))
  | k9 + 3, h9 => exact absurd h9 (by omega)
set_option maxRecDepth 20000 in
theorem B85_40 {D L : Nat} {mi : mMi} {rs : mRs} {K : mOut → mH → Prop} {x2 : Int32} {l3 : Option mV} {i2 : Nat} (hi2 : i2 < 3) : WP (D + 1) 85 40 [some (mR 2 2 0), some (mR 0 i2 0), some (mI x2), l3] [] (hp L mi rs) K ↔ K (.inl none) (hp L mi rs) := by
  match i2, hi2 with
  | 0, _ => exact (WP_k 1).trans ((show (∃ n, wp (n + 1) (D + 1) 85 40 [some (mR 2 2 0), some (mR 0 0 0), some (mI x2), l3] [] (hp L mi rs) K) ↔ (∃ n, K (.inl none) (hp L mi rs)) from Iff.rfl).trans (ex_one))
  | 1, _ => exact (WP_k 1).trans ((show (∃ n, wp (n + 1) (D + 1) 85 40 [some (mR 2 2 0), some (mR 0 1 0), some (mI x2), l3] [] (hp L mi rs) K) ↔ (∃ n, K (.inl none) (hp L mi rs)) from Iff.rfl).trans (ex_one))
  | 2, _ => exact (WP_k 1).trans ((show (∃ n, wp (n + 1) (D + 1) 85 40 [some (mR 2 2 0), some (mR 0 2 0), some (mI x2), l3] [] (hp L mi rs) K) ↔ (∃ n, K (.inl none) (hp L mi rs)) from Iff.rfl).trans (ex_one))
  | k9 + 3, h9 => exact absurd h9 (by omega)
