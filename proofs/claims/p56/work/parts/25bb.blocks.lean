/-! BLOCKS, by program. -/
set_option maxRecDepth 20000 in
theorem B105_0 {D L : Nat} {mi : mMi} {rs : mRs} {K : mOut → mH → Prop} {x1 : Int32}   : WP (D + 1) 105 0 [some (mR 2 0 0), some (mI x1)] [] (hp L mi rs) K ↔ WP D 106 0 (mEntry 106 [mI x1, mI ((mi 2 1 0 1) + (N 1))]) [] (hp L mi rs) (Bk (D + 1) 105 13 [some (mR 2 0 0), some (mI x1)] [] K) :=
  (WP_k 7).trans ((show (∃ n, wp (n + 7) (D + 1) 105 0 [some (mR 2 0 0), some (mI x1)] [] (hp L mi rs) K) ↔ (∃ n, wp n D 106 0 (mEntry 106 [mI x1, mI ((mi 2 1 0 1) + (N 1))]) [] (hp L mi rs) (Bkn n (D + 1) 105 13 [some (mR 2 0 0), some (mI x1)] [] K)) from Iff.rfl).trans (ex_Bk))
set_option maxRecDepth 20000 in
theorem B105_13 {D L : Nat} {mi : mMi} {rs : mRs} {K : mOut → mH → Prop} {x1 : Int32}   : WP (D + 1) 105 13 [some (mR 2 0 0), some (mI x1)] [] (hp L mi rs) K ↔ K (.inl none) (hp L mi rs) :=
  (WP_k 1).trans ((show (∃ n, wp (n + 1) (D + 1) 105 13 [some (mR 2 0 0), some (mI x1)] [] (hp L mi rs) K) ↔ (∃ n, K (.inl none) (hp L mi rs)) from Iff.rfl).trans (ex_one))
set_option maxRecDepth 20000 in
theorem B106_0 {D L : Nat} {mi : mMi} {rs : mRs} {K : mOut → mH → Prop} {x0 : Int32} {x1 : Int32}   : WP (D + 1) 106 0 [some (mI x0), some (mI x1)] [] (hp L mi rs) K ↔ mif (decide (x0 < (N 0))) (WP (D + 1) 106 9 [some (mI x0), some (mI x1)] [] (hp L mi rs) K) (WP (D + 1) 106 4 [some (mI x0), some (mI x1)] [] (hp L mi rs) K) :=
  (WP_k 2).trans ((show (∃ n, wp (n + 2) (D + 1) 106 0 [some (mI x0), some (mI x1)] [] (hp L mi rs) K) ↔ (∃ n, mif (decide (x0 < (N 0))) (wp n (D + 1) 106 9 [some (mI x0), some (mI x1)] [] (hp L mi rs) K) (wp n (D + 1) 106 4 [some (mI x0), some (mI x1)] [] (hp L mi rs) K)) from Iff.rfl).trans (ex_mif))
set_option maxRecDepth 20000 in
theorem B106_4 {D L : Nat} {mi : mMi} {rs : mRs} {K : mOut → mH → Prop} {x0 : Int32} {x1 : Int32}   : WP (D + 1) 106 4 [some (mI x0), some (mI x1)] [] (hp L mi rs) K ↔ mif (decide (x0 < x1)) (WP (D + 1) 106 20 [some (mI x0), some (mI x1)] [] (hp L mi rs) K) (WP (D + 1) 106 9 [some (mI x0), some (mI x1)] [] (hp L mi rs) K) :=
  (WP_k 3).trans ((show (∃ n, wp (n + 3) (D + 1) 106 4 [some (mI x0), some (mI x1)] [] (hp L mi rs) K) ↔ (∃ n, mif (decide (x0 < x1)) (wp n (D + 1) 106 20 [some (mI x0), some (mI x1)] [] (hp L mi rs) K) (wp n (D + 1) 106 9 [some (mI x0), some (mI x1)] [] (hp L mi rs) K)) from Iff.rfl).trans (ex_mif))
set_option maxRecDepth 20000 in
theorem B106_9 {D L : Nat} {mi : mMi} {qq : Nat × Nat} {dy : mDy} {nx cc ss : Nat} {K : mOut → mH → Prop} {x0 : Int32} {x1 : Int32}   : WP (D + 1) 106 9 [some (mI x0), some (mI x1)] [] (hp L mi (qq, dy, nx, cc, ss)) K ↔ K (.inr 2) (hp L mi (qq, dy, nx + 1, cc + 1, ss + 6)) :=
  (WP_k 1).trans ((show (∃ n, wp (n + 1) (D + 1) 106 9 [some (mI x0), some (mI x1)] [] (hp L mi (qq, dy, nx, cc, ss)) K) ↔ (∃ n, K (.inr 2) (hp L mi (qq, dy, nx + 1, cc + 1, ss + 6))) from Iff.rfl).trans (ex_one))
set_option maxRecDepth 20000 in
theorem B106_20 {D L : Nat} {mi : mMi} {rs : mRs} {K : mOut → mH → Prop} {x0 : Int32} {x1 : Int32}   : WP (D + 1) 106 20 [some (mI x0), some (mI x1)] [] (hp L mi rs) K ↔ K (.inl none) (hp L mi rs) :=
  (WP_k 1).trans ((show (∃ n, wp (n + 1) (D + 1) 106 20 [some (mI x0), some (mI x1)] [] (hp L mi rs) K) ↔ (∃ n, K (.inl none) (hp L mi rs)) from Iff.rfl).trans (ex_one))
set_option maxRecDepth 20000 in
theorem B107_0 {D L : Nat} {mi : mMi} {rs : mRs} {K : mOut → mH → Prop} {x0 : Int32}   : WP (D + 1) 107 0 [some (mI x0)] [] (hp L mi rs) K ↔ mif (decide (x0 ≠ (N 0))) (WP (D + 1) 107 15 [some (mI x0)] [] (hp L mi rs) K) (WP (D + 1) 107 4 [some (mI x0)] [] (hp L mi rs) K) :=
  (WP_k 2).trans ((show (∃ n, wp (n + 2) (D + 1) 107 0 [some (mI x0)] [] (hp L mi rs) K) ↔ (∃ n, mif (decide (x0 ≠ (N 0))) (wp n (D + 1) 107 15 [some (mI x0)] [] (hp L mi rs) K) (wp n (D + 1) 107 4 [some (mI x0)] [] (hp L mi rs) K)) from Iff.rfl).trans (ex_mif))
set_option maxRecDepth 20000 in
theorem B107_4 {D L : Nat} {mi : mMi} {qq : Nat × Nat} {dy : mDy} {nx cc ss : Nat} {K : mOut → mH → Prop} {x0 : Int32}   : WP (D + 1) 107 4 [some (mI x0)] [] (hp L mi (qq, dy, nx, cc, ss)) K ↔ K (.inr 3) (hp L mi (qq, dy, nx + 1, cc + 1, ss + 6)) :=
  (WP_k 1).trans ((show (∃ n, wp (n + 1) (D + 1) 107 4 [some (mI x0)] [] (hp L mi (qq, dy, nx, cc, ss)) K) ↔ (∃ n, K (.inr 3) (hp L mi (qq, dy, nx + 1, cc + 1, ss + 6))) from Iff.rfl).trans (ex_one))
set_option maxRecDepth 20000 in
theorem B107_15 {D L : Nat} {mi : mMi} {rs : mRs} {K : mOut → mH → Prop} {x0 : Int32}   : WP (D + 1) 107 15 [some (mI x0)] [] (hp L mi rs) K ↔ K (.inl none) (hp L mi rs) :=
  (WP_k 1).trans ((show (∃ n, wp (n + 1) (D + 1) 107 15 [some (mI x0)] [] (hp L mi rs) K) ↔ (∃ n, K (.inl none) (hp L mi rs)) from Iff.rfl).trans (ex_one))
set_option maxRecDepth 20000 in
theorem B108_0 {D L : Nat} {mi : mMi} {rs : mRs} {K : mOut → mH → Prop} {x0 : Int32}   : WP (D + 1) 108 0 [some (mI x0)] [] (hp L mi rs) K ↔ K (.inl (some (mI (x0 / (N 2))))) (hp L mi rs) :=
  (WP_k 4).trans ((show (∃ n, wp (n + 4) (D + 1) 108 0 [some (mI x0)] [] (hp L mi rs) K) ↔ (∃ n, K (.inl (some (mI (x0 / (N 2))))) (hp L mi rs)) from Iff.rfl).trans (ex_one))
set_option maxRecDepth 20000 in
theorem B109_0 {D L : Nat} {mi : mMi} {rs : mRs} {K : mOut → mH → Prop} {x0 : Int32}   : WP (D + 1) 109 0 [some (mI x0)] [] (hp L mi rs) K ↔ K (.inl (some (mI (x0 - (x0 / (N 2)))))) (hp L mi rs) :=
  (WP_k 6).trans ((show (∃ n, wp (n + 6) (D + 1) 109 0 [some (mI x0)] [] (hp L mi rs) K) ↔ (∃ n, K (.inl (some (mI (x0 - (x0 / (N 2)))))) (hp L mi rs)) from Iff.rfl).trans (ex_one))
set_option maxRecDepth 20000 in
theorem B110_0 {D L : Nat} {mi : mMi} {rs : mRs} {K : mOut → mH → Prop} {x0 : Int32} {x1 : Int32}   : WP (D + 1) 110 0 [some (mI x0), some (mI x1)] [] (hp L mi rs) K ↔ K (.inl (some (mI ((x0 * ((N 100) - ((N 2) * (if 0 ≤ (x1 - (N 45)) then (x1 - (N 45)) else 0 - (x1 - (N 45)))))) / (N 25))))) (hp L mi rs) :=
  (WP_k 13).trans ((show (∃ n, wp (n + 13) (D + 1) 110 0 [some (mI x0), some (mI x1)] [] (hp L mi rs) K) ↔ (∃ n, K (.inl (some (mI ((x0 * ((N 100) - ((N 2) * (if 0 ≤ (x1 - (N 45)) then (x1 - (N 45)) else 0 - (x1 - (N 45)))))) / (N 25))))) (hp L mi rs)) from Iff.rfl).trans (ex_one))
set_option maxRecDepth 20000 in
theorem B111_0 {D L : Nat} {mi : mMi} {rs : mRs} {K : mOut → mH → Prop} {x0 : Int32}   : WP (D + 1) 111 0 [some (mI x0)] [] (hp L mi rs) K ↔ K (.inl (some (mI (x0 / (N 12))))) (hp L mi rs) :=
  (WP_k 4).trans ((show (∃ n, wp (n + 4) (D + 1) 111 0 [some (mI x0)] [] (hp L mi rs) K) ↔ (∃ n, K (.inl (some (mI (x0 / (N 12))))) (hp L mi rs)) from Iff.rfl).trans (ex_one))
set_option maxRecDepth 20000 in
theorem B112_0 {D L : Nat} {mi : mMi} {rs : mRs} {K : mOut → mH → Prop} {x0 : Int32}   : WP (D + 1) 112 0 [some (mI x0)] [] (hp L mi rs) K ↔ K (.inl (some (mI (x0 - x0 / (N 12) * (N 12))))) (hp L mi rs) :=
  (WP_k 4).trans ((show (∃ n, wp (n + 4) (D + 1) 112 0 [some (mI x0)] [] (hp L mi rs) K) ↔ (∃ n, K (.inl (some (mI (x0 - x0 / (N 12) * (N 12))))) (hp L mi rs)) from Iff.rfl).trans (ex_one))
set_option maxRecDepth 20000 in
theorem B113_0 {D L : Nat} {mi : mMi} {rs : mRs} {K : mOut → mH → Prop} {x1 : Int32}   : WP (D + 1) 113 0 [some (mR 2 0 0), some (mI x1), none] [] (hp L mi rs) K ↔ WP D 114 0 (mEntry 114 [mR 2 0 0]) [] (hp L mi rs) (Bk (D + 1) 113 4 [some (mR 2 0 0), some (mI x1), none] [] K) :=
  (WP_k 2).trans ((show (∃ n, wp (n + 2) (D + 1) 113 0 [some (mR 2 0 0), some (mI x1), none] [] (hp L mi rs) K) ↔ (∃ n, wp n D 114 0 (mEntry 114 [mR 2 0 0]) [] (hp L mi rs) (Bkn n (D + 1) 113 4 [some (mR 2 0 0), some (mI x1), none] [] K)) from Iff.rfl).trans (ex_Bk))
set_option maxRecDepth 20000 in
theorem B113_4 {D L : Nat} {mi : mMi} {rs : mRs} {K : mOut → mH → Prop} {x1 : Int32}   : WP (D + 1) 113 4 [some (mR 2 0 0), some (mI x1), none] [] (hp L mi rs) K ↔ WP D 105 0 (mEntry 105 [mR 2 0 0, mI x1]) [] (hp L mi rs) (Bk (D + 1) 113 9 [some (mR 2 0 0), some (mI x1), none] [] K) :=
  (WP_k 3).trans ((show (∃ n, wp (n + 3) (D + 1) 113 4 [some (mR 2 0 0), some (mI x1), none] [] (hp L mi rs) K) ↔ (∃ n, wp n D 105 0 (mEntry 105 [mR 2 0 0, mI x1]) [] (hp L mi rs) (Bkn n (D + 1) 113 9 [some (mR 2 0 0), some (mI x1), none] [] K)) from Iff.rfl).trans (ex_Bk))
set_option maxRecDepth 20000 in
theorem B113_9 {D L : Nat} {mi : mMi} {rs : mRs} {K : mOut → mH → Prop} {x1 : Int32}   : WP (D + 1) 113 9 [some (mR 2 0 0), some (mI x1), none] [] (hp L mi rs) K ↔ WP D 65 0 (mEntry 65 [mR 2 1 0, mI (N 0), mI x1]) [] (hp L mi rs) (Bk (D + 1) 113 18 [some (mR 2 0 0), some (mI x1), none] [] K) :=
  (WP_k 5).trans ((show (∃ n, wp (n + 5) (D + 1) 113 9 [some (mR 2 0 0), some (mI x1), none] [] (hp L mi rs) K) ↔ (∃ n, wp n D 65 0 (mEntry 65 [mR 2 1 0, mI (N 0), mI x1]) [] (hp L mi rs) (Bkn n (D + 1) 113 18 [some (mR 2 0 0), some (mI x1), none] [] K)) from Iff.rfl).trans (ex_Bk))
set_option maxRecDepth 20000 in
theorem B113_18 {D L : Nat} {mi : mMi} {rs : mRs} {K : mOut → mH → Prop} {x1 : Int32} {s0 : Int32}   : WP (D + 1) 113 18 [some (mR 2 0 0), some (mI x1), none] [(mI s0)] (hp L mi rs) K ↔ WP D 79 0 (mEntry 79 [mR 1 0 0, mI s0]) [] (hp L (mset mi 2 1 0 1 (N 0)) rs) (Bk (D + 1) 113 35 [some (mR 2 0 0), some (mI x1), some (mI s0)] [] K) :=
  (WP_k 9).trans ((show (∃ n, wp (n + 9) (D + 1) 113 18 [some (mR 2 0 0), some (mI x1), none] [(mI s0)] (hp L mi rs) K) ↔ (∃ n, wp n D 79 0 (mEntry 79 [mR 1 0 0, mI s0]) [] (hp L (mset mi 2 1 0 1 (N 0)) rs) (Bkn n (D + 1) 113 35 [some (mR 2 0 0), some (mI x1), some (mI s0)] [] K)) from Iff.rfl).trans (ex_Bk))
set_option maxRecDepth 20000 in
theorem B113_35 {D L : Nat} {mi : mMi} {rs : mRs} {K : mOut → mH → Prop} {x1 : Int32} {x2 : Int32} {s0 : Int32}   : WP (D + 1) 113 35 [some (mR 2 0 0), some (mI x1), some (mI x2)] [(mI s0)] (hp L mi rs) K ↔ K (.inl (some (mI s0))) (hp L mi rs) :=
  (WP_k 1).trans ((show (∃ n, wp (n + 1) (D + 1) 113 35 [some (mR 2 0 0), some (mI x1), some (mI x2)] [(mI s0)] (hp L mi rs) K) ↔ (∃ n, K (.inl (some (mI s0))) (hp L mi rs)) from Iff.rfl).trans (ex_one))
set_option maxRecDepth 20000 in
theorem B114_0 {D L : Nat} {mi : mMi} {rs : mRs} {K : mOut → mH → Prop}   : WP (D + 1) 114 0 [some (mR 2 0 0)] [] (hp L mi rs) K ↔ WP D 115 0 (mEntry 115 [mI (mi 2 0 0 10)]) [] (hp L mi rs) (Bk (D + 1) 114 7 [some (mR 2 0 0)] [] K) :=
  (WP_k 3).trans ((show (∃ n, wp (n + 3) (D + 1) 114 0 [some (mR 2 0 0)] [] (hp L mi rs) K) ↔ (∃ n, wp n D 115 0 (mEntry 115 [mI (mi 2 0 0 10)]) [] (hp L mi rs) (Bkn n (D + 1) 114 7 [some (mR 2 0 0)] [] K)) from Iff.rfl).trans (ex_Bk))
set_option maxRecDepth 20000 in
theorem B114_7 {D L : Nat} {mi : mMi} {rs : mRs} {K : mOut → mH → Prop}   : WP (D + 1) 114 7 [some (mR 2 0 0)] [] (hp L mi rs) K ↔ K (.inl none) (hp L mi rs) :=
  (WP_k 1).trans ((show (∃ n, wp (n + 1) (D + 1) 114 7 [some (mR 2 0 0)] [] (hp L mi rs) K) ↔ (∃ n, K (.inl none) (hp L mi rs)) from Iff.rfl).trans (ex_one))
set_option maxRecDepth 20000 in
theorem B115_0 {D L : Nat} {mi : mMi} {rs : mRs} {K : mOut → mH → Prop} {x0 : Int32}   : WP (D + 1) 115 0 [some (mI x0)] [] (hp L mi rs) K ↔ mif (decide (x0 ≠ (N 0))) (WP (D + 1) 115 15 [some (mI x0)] [] (hp L mi rs) K) (WP (D + 1) 115 4 [some (mI x0)] [] (hp L mi rs) K) :=
  (WP_k 2).trans ((show (∃ n, wp (n + 2) (D + 1) 115 0 [some (mI x0)] [] (hp L mi rs) K) ↔ (∃ n, mif (decide (x0 ≠ (N 0))) (wp n (D + 1) 115 15 [some (mI x0)] [] (hp L mi rs) K) (wp n (D + 1) 115 4 [some (mI x0)] [] (hp L mi rs) K)) from Iff.rfl).trans (ex_mif))
set_option maxRecDepth 20000 in
theorem B115_4 {D L : Nat} {mi : mMi} {qq : Nat × Nat} {dy : mDy} {nx cc ss : Nat} {K : mOut → mH → Prop} {x0 : Int32}   : WP (D + 1) 115 4 [some (mI x0)] [] (hp L mi (qq, dy, nx, cc, ss)) K ↔ K (.inr 1) (hp L mi (qq, dy, nx + 1, cc + 1, ss + 6)) :=
  (WP_k 1).trans ((show (∃ n, wp (n + 1) (D + 1) 115 4 [some (mI x0)] [] (hp L mi (qq, dy, nx, cc, ss)) K) ↔ (∃ n, K (.inr 1) (hp L mi (qq, dy, nx + 1, cc + 1, ss + 6))) from Iff.rfl).trans (ex_one))
set_option maxRecDepth 20000 in
theorem B115_15 {D L : Nat} {mi : mMi} {rs : mRs} {K : mOut → mH → Prop} {x0 : Int32}   : WP (D + 1) 115 15 [some (mI x0)] [] (hp L mi rs) K ↔ K (.inl none) (hp L mi rs) :=
  (WP_k 1).trans ((show (∃ n, wp (n + 1) (D + 1) 115 15 [some (mI x0)] [] (hp L mi rs) K) ↔ (∃ n, K (.inl none) (hp L mi rs)) from Iff.rfl).trans (ex_one))
set_option maxRecDepth 20000 in
theorem B116_0 {D L : Nat} {mi : mMi} {rs : mRs} {K : mOut → mH → Prop} {x1 : Int32}   : WP (D + 1) 116 0 [some (mR 2 0 0), some (mI x1)] [] (hp L mi rs) K ↔ WP D 114 0 (mEntry 114 [mR 2 0 0]) [] (hp L mi rs) (Bk (D + 1) 116 4 [some (mR 2 0 0), some (mI x1)] [] K) :=
  (WP_k 2).trans ((show (∃ n, wp (n + 2) (D + 1) 116 0 [some (mR 2 0 0), some (mI x1)] [] (hp L mi rs) K) ↔ (∃ n, wp n D 114 0 (mEntry 114 [mR 2 0 0]) [] (hp L mi rs) (Bkn n (D + 1) 116 4 [some (mR 2 0 0), some (mI x1)] [] K)) from Iff.rfl).trans (ex_Bk))
set_option maxRecDepth 20000 in
theorem B116_4 {D L : Nat} {mi : mMi} {rs : mRs} {K : mOut → mH → Prop} {x1 : Int32}   : WP (D + 1) 116 4 [some (mR 2 0 0), some (mI x1)] [] (hp L mi rs) K ↔ WP D 117 0 (mEntry 117 [mI x1, mI (N 0), mI (N 12)]) [] (hp L mi rs) (Bk (D + 1) 116 11 [some (mR 2 0 0), some (mI x1)] [] K) :=
  (WP_k 4).trans ((show (∃ n, wp (n + 4) (D + 1) 116 4 [some (mR 2 0 0), some (mI x1)] [] (hp L mi rs) K) ↔ (∃ n, wp n D 117 0 (mEntry 117 [mI x1, mI (N 0), mI (N 12)]) [] (hp L mi rs) (Bkn n (D + 1) 116 11 [some (mR 2 0 0), some (mI x1)] [] K)) from Iff.rfl).trans (ex_Bk))
set_option maxRecDepth 20000 in
theorem B116_11 {D L : Nat} {mi : mMi} {rs : mRs} {K : mOut → mH → Prop} {x1 : Int32}   : WP (D + 1) 116 11 [some (mR 2 0 0), some (mI x1)] [] (hp L mi rs) K ↔ mTsw x1 12 155 0 12 #[68, 76, 87, 98, 109, 120, 128, 155, 155, 155, 155, 139, 147] (fun t9 => WP (D + 1) 116 t9 [some (mR 2 0 0), some (mI x1)] [] (hp L mi rs) K) :=
  (WP_k 2).trans ((show (∃ n, wp (n + 2) (D + 1) 116 11 [some (mR 2 0 0), some (mI x1)] [] (hp L mi rs) K) ↔ (∃ n, mTsw x1 12 155 0 12 #[68, 76, 87, 98, 109, 120, 128, 155, 155, 155, 155, 139, 147] (fun t9 => wp n (D + 1) 116 t9 [some (mR 2 0 0), some (mI x1)] [] (hp L mi rs) K)) from Iff.rfl).trans (ex_tsw))
set_option maxRecDepth 20000 in
theorem B116_80 {D L : Nat} {mi : mMi} {rs : mRs} {K : mOut → mH → Prop} {x1 : Int32}   : WP (D + 1) 116 80 [some (mR 2 0 0), some (mI x1)] [] (hp L mi rs) K ↔ K (.inl (some (mI (mi 1 0 0 4)))) (hp L mi rs) :=
  (WP_k 4).trans ((show (∃ n, wp (n + 4) (D + 1) 116 80 [some (mR 2 0 0), some (mI x1)] [] (hp L mi rs) K) ↔ (∃ n, K (.inl (some (mI (mi 1 0 0 4)))) (hp L mi rs)) from Iff.rfl).trans (ex_one))
set_option maxRecDepth 20000 in
theorem B116_88 {D L : Nat} {mi : mMi} {rs : mRs} {K : mOut → mH → Prop} {x1 : Int32}   : WP (D + 1) 116 88 [some (mR 2 0 0), some (mI x1)] [] (hp L mi rs) K ↔ WP D 6 0 (mEntry 6 [mR 0 0 10]) [] (hp L mi rs) (Bk (D + 1) 116 98 [some (mR 2 0 0), some (mI x1)] [] K) :=
  (WP_k 4).trans ((show (∃ n, wp (n + 4) (D + 1) 116 88 [some (mR 2 0 0), some (mI x1)] [] (hp L mi rs) K) ↔ (∃ n, wp n D 6 0 (mEntry 6 [mR 0 0 10]) [] (hp L mi rs) (Bkn n (D + 1) 116 98 [some (mR 2 0 0), some (mI x1)] [] K)) from Iff.rfl).trans (ex_Bk))
set_option maxRecDepth 20000 in
theorem B116_98 {D L : Nat} {mi : mMi} {rs : mRs} {K : mOut → mH → Prop} {x1 : Int32} {s0 : Int32}   : WP (D + 1) 116 98 [some (mR 2 0 0), some (mI x1)] [(mI s0)] (hp L mi rs) K ↔ K (.inl (some (mI s0))) (hp L mi rs) :=
  (WP_k 1).trans ((show (∃ n, wp (n + 1) (D + 1) 116 98 [some (mR 2 0 0), some (mI x1)] [(mI s0)] (hp L mi rs) K) ↔ (∃ n, K (.inl (some (mI s0))) (hp L mi rs)) from Iff.rfl).trans (ex_one))
set_option maxRecDepth 20000 in
theorem B116_99 {D L : Nat} {mi : mMi} {rs : mRs} {K : mOut → mH → Prop} {x1 : Int32}   : WP (D + 1) 116 99 [some (mR 2 0 0), some (mI x1)] [] (hp L mi rs) K ↔ K (.inl (some (mI (mi 0 0 10 5)))) (hp L mi rs) :=
  (WP_k 5).trans ((show (∃ n, wp (n + 5) (D + 1) 116 99 [some (mR 2 0 0), some (mI x1)] [] (hp L mi rs) K) ↔ (∃ n, K (.inl (some (mI (mi 0 0 10 5)))) (hp L mi rs)) from Iff.rfl).trans (ex_one))
set_option maxRecDepth 20000 in
theorem B116_110 {D L : Nat} {mi : mMi} {rs : mRs} {K : mOut → mH → Prop} {x1 : Int32}   : WP (D + 1) 116 110 [some (mR 2 0 0), some (mI x1)] [] (hp L mi rs) K ↔ WP D 54 0 (mEntry 54 [mR 0 0 1]) [] (hp L mi rs) (Bk (D + 1) 116 120 [some (mR 2 0 0), some (mI x1)] [] K) :=
  (WP_k 4).trans ((show (∃ n, wp (n + 4) (D + 1) 116 110 [some (mR 2 0 0), some (mI x1)] [] (hp L mi rs) K) ↔ (∃ n, wp n D 54 0 (mEntry 54 [mR 0 0 1]) [] (hp L mi rs) (Bkn n (D + 1) 116 120 [some (mR 2 0 0), some (mI x1)] [] K)) from Iff.rfl).trans (ex_Bk))
set_option maxRecDepth 20000 in
theorem B116_120 {D L : Nat} {mi : mMi} {rs : mRs} {K : mOut → mH → Prop} {x1 : Int32} {s0 : Int32}   : WP (D + 1) 116 120 [some (mR 2 0 0), some (mI x1)] [(mI s0)] (hp L mi rs) K ↔ K (.inl (some (mI s0))) (hp L mi rs) :=
  (WP_k 1).trans ((show (∃ n, wp (n + 1) (D + 1) 116 120 [some (mR 2 0 0), some (mI x1)] [(mI s0)] (hp L mi rs) K) ↔ (∃ n, K (.inl (some (mI s0))) (hp L mi rs)) from Iff.rfl).trans (ex_one))
set_option maxRecDepth 20000 in
theorem B116_121 {D L : Nat} {mi : mMi} {rs : mRs} {K : mOut → mH → Prop} {x1 : Int32}   : WP (D + 1) 116 121 [some (mR 2 0 0), some (mI x1)] [] (hp L mi rs) K ↔ WP D 55 0 (mEntry 55 [mR 0 0 1]) [] (hp L mi rs) (Bk (D + 1) 116 131 [some (mR 2 0 0), some (mI x1)] [] K) :=
  (WP_k 4).trans ((show (∃ n, wp (n + 4) (D + 1) 116 121 [some (mR 2 0 0), some (mI x1)] [] (hp L mi rs) K) ↔ (∃ n, wp n D 55 0 (mEntry 55 [mR 0 0 1]) [] (hp L mi rs) (Bkn n (D + 1) 116 131 [some (mR 2 0 0), some (mI x1)] [] K)) from Iff.rfl).trans (ex_Bk))
set_option maxRecDepth 20000 in
theorem B116_131 {D L : Nat} {mi : mMi} {rs : mRs} {K : mOut → mH → Prop} {x1 : Int32} {s0 : Int32}   : WP (D + 1) 116 131 [some (mR 2 0 0), some (mI x1)] [(mI s0)] (hp L mi rs) K ↔ K (.inl (some (mI s0))) (hp L mi rs) :=
  (WP_k 1).trans ((show (∃ n, wp (n + 1) (D + 1) 116 131 [some (mR 2 0 0), some (mI x1)] [(mI s0)] (hp L mi rs) K) ↔ (∃ n, K (.inl (some (mI s0))) (hp L mi rs)) from Iff.rfl).trans (ex_one))
set_option maxRecDepth 20000 in
theorem B116_132 {D L : Nat} {mi : mMi} {rs : mRs} {K : mOut → mH → Prop} {x1 : Int32}   : WP (D + 1) 116 132 [some (mR 2 0 0), some (mI x1)] [] (hp L mi rs) K ↔ K (.inl (some (mI (mi 0 0 0 5)))) (hp L mi rs) :=
  (WP_k 4).trans ((show (∃ n, wp (n + 4) (D + 1) 116 132 [some (mR 2 0 0), some (mI x1)] [] (hp L mi rs) K) ↔ (∃ n, K (.inl (some (mI (mi 0 0 0 5)))) (hp L mi rs)) from Iff.rfl).trans (ex_one))
set_option maxRecDepth 20000 in
theorem B116_140 {D L : Nat} {mi : mMi} {rs : mRs} {K : mOut → mH → Prop} {x1 : Int32}   : WP (D + 1) 116 140 [some (mR 2 0 0), some (mI x1)] [] (hp L mi rs) K ↔ K (.inl (some (mI (mi 0 0 7 2)))) (hp L mi rs) :=
  (WP_k 5).trans ((show (∃ n, wp (n + 5) (D + 1) 116 140 [some (mR 2 0 0), some (mI x1)] [] (hp L mi rs) K) ↔ (∃ n, K (.inl (some (mI (mi 0 0 7 2)))) (hp L mi rs)) from Iff.rfl).trans (ex_one))
set_option maxRecDepth 20000 in
theorem B116_151 {D L : Nat} {mi : mMi} {rs : mRs} {K : mOut → mH → Prop} {x1 : Int32}   : WP (D + 1) 116 151 [some (mR 2 0 0), some (mI x1)] [] (hp L mi rs) K ↔ K (.inl (some (mI (mi 0 0 0 6)))) (hp L mi rs) :=
  (WP_k 4).trans ((show (∃ n, wp (n + 4) (D + 1) 116 151 [some (mR 2 0 0), some (mI x1)] [] (hp L mi rs) K) ↔ (∃ n, K (.inl (some (mI (mi 0 0 0 6)))) (hp L mi rs)) from Iff.rfl).trans (ex_one))
set_option maxRecDepth 20000 in
theorem B116_159 {D L : Nat} {mi : mMi} {rs : mRs} {K : mOut → mH → Prop} {x1 : Int32}   : WP (D + 1) 116 159 [some (mR 2 0 0), some (mI x1)] [] (hp L mi rs) K ↔ WP D 83 0 (mEntry 83 [mR 1 0 0]) [] (hp L mi rs) (Bk (D + 1) 116 166 [some (mR 2 0 0), some (mI x1)] [] K) :=
  (WP_k 3).trans ((show (∃ n, wp (n + 3) (D + 1) 116 159 [some (mR 2 0 0), some (mI x1)] [] (hp L mi rs) K) ↔ (∃ n, wp n D 83 0 (mEntry 83 [mR 1 0 0]) [] (hp L mi rs) (Bkn n (D + 1) 116 166 [some (mR 2 0 0), some (mI x1)] [] K)) from Iff.rfl).trans (ex_Bk))
set_option maxRecDepth 20000 in
theorem B116_166 {D L : Nat} {mi : mMi} {rs : mRs} {K : mOut → mH → Prop} {x1 : Int32} {s0 : Int32}   : WP (D + 1) 116 166 [some (mR 2 0 0), some (mI x1)] [(mI s0)] (hp L mi rs) K ↔ K (.inl (some (mI s0))) (hp L mi rs) :=
  (WP_k 1).trans ((show (∃ n, wp (n + 1) (D + 1) 116 166 [some (mR 2 0 0), some (mI x1)] [(mI s0)] (hp L mi rs) K) ↔ (∃ n, K (.inl (some (mI s0))) (hp L mi rs)) from Iff.rfl).trans (ex_one))
set_option maxRecDepth 20000 in
theorem B116_167 {D L : Nat} {mi : mMi} {rs : mRs} {K : mOut → mH → Prop} {x1 : Int32}   : WP (D + 1) 116 167 [some (mR 2 0 0), some (mI x1)] [] (hp L mi rs) K ↔ WP D 46 0 (mEntry 46 [mR 0 0 7, mI (x1 - (N 7))]) [] (hp L mi rs) (Bk (D + 1) 116 181 [some (mR 2 0 0), some (mI x1)] [] K) :=
  (WP_k 7).trans ((show (∃ n, wp (n + 7) (D + 1) 116 167 [some (mR 2 0 0), some (mI x1)] [] (hp L mi rs) K) ↔ (∃ n, wp n D 46 0 (mEntry 46 [mR 0 0 7, mI (x1 - (N 7))]) [] (hp L mi rs) (Bkn n (D + 1) 116 181 [some (mR 2 0 0), some (mI x1)] [] K)) from Iff.rfl).trans (ex_Bk))
set_option maxRecDepth 20000 in
theorem B116_181 {D L : Nat} {mi : mMi} {rs : mRs} {K : mOut → mH → Prop} {x1 : Int32} {s0 : Int32}   : WP (D + 1) 116 181 [some (mR 2 0 0), some (mI x1)] [(mI s0)] (hp L mi rs) K ↔ K (.inl (some (mI s0))) (hp L mi rs) :=
  (WP_k 1).trans ((show (∃ n, wp (n + 1) (D + 1) 116 181 [some (mR 2 0 0), some (mI x1)] [(mI s0)] (hp L mi rs) K) ↔ (∃ n, K (.inl (some (mI s0))) (hp L mi rs)) from Iff.rfl).trans (ex_one))
set_option maxRecDepth 20000 in
theorem B117_0 {D L : Nat} {mi : mMi} {rs : mRs} {K : mOut → mH → Prop} {x0 : Int32} {x1 : Int32} {x2 : Int32}   : WP (D + 1) 117 0 [some (mI x0), some (mI x1), some (mI x2)] [] (hp L mi rs) K ↔ mif (decide (x0 < x1)) (WP (D + 1) 117 14 [some (mI x0), some (mI x1), some (mI x2)] [] (hp L mi rs) K) (WP (D + 1) 117 5 [some (mI x0), some (mI x1), some (mI x2)] [] (hp L mi rs) K) :=
  (WP_k 3).trans ((show (∃ n, wp (n + 3) (D + 1) 117 0 [some (mI x0), some (mI x1), some (mI x2)] [] (hp L mi rs) K) ↔ (∃ n, mif (decide (x0 < x1)) (wp n (D + 1) 117 14 [some (mI x0), some (mI x1), some (mI x2)] [] (hp L mi rs) K) (wp n (D + 1) 117 5 [some (mI x0), some (mI x1), some (mI x2)] [] (hp L mi rs) K)) from Iff.rfl).trans (ex_mif))
set_option maxRecDepth 20000 in
theorem B117_5 {D L : Nat} {mi : mMi} {rs : mRs} {K : mOut → mH → Prop} {x0 : Int32} {x1 : Int32} {x2 : Int32}   : WP (D + 1) 117 5 [some (mI x0), some (mI x1), some (mI x2)] [] (hp L mi rs) K ↔ mif (decide (x2 < x0)) (WP (D + 1) 117 14 [some (mI x0), some (mI x1), some (mI x2)] [] (hp L mi rs) K) (WP (D + 1) 117 10 [some (mI x0), some (mI x1), some (mI x2)] [] (hp L mi rs) K) :=
  (WP_k 3).trans ((show (∃ n, wp (n + 3) (D + 1) 117 5 [some (mI x0), some (mI x1), some (mI x2)] [] (hp L mi rs) K) ↔ (∃ n, mif (decide (x2 < x0)) (wp n (D + 1) 117 14 [some (mI x0), some (mI x1), some (mI x2)] [] (hp L mi rs) K) (wp n (D + 1) 117 10 [some (mI x0), some (mI x1), some (mI x2)] [] (hp L mi rs) K)) from Iff.rfl).trans (ex_mif))
set_option maxRecDepth 20000 in
theorem B117_10 {D L : Nat} {mi : mMi} {rs : mRs} {K : mOut → mH → Prop} {x0 : Int32} {x1 : Int32} {x2 : Int32}   : WP (D + 1) 117 10 [some (mI x0), some (mI x1), some (mI x2)] [] (hp L mi rs) K ↔ WP (D + 1) 117 15 [some (mI x0), some (mI x1), some (mI x2)] [(mI (N 1))] (hp L mi rs) K :=
  (WP_k 2).trans ((show (∃ n, wp (n + 2) (D + 1) 117 10 [some (mI x0), some (mI x1), some (mI x2)] [] (hp L mi rs) K) ↔ (∃ n, wp n (D + 1) 117 15 [some (mI x0), some (mI x1), some (mI x2)] [(mI (N 1))] (hp L mi rs) K) from Iff.rfl).trans (Iff.rfl))
set_option maxRecDepth 20000 in
theorem B117_14 {D L : Nat} {mi : mMi} {rs : mRs} {K : mOut → mH → Prop} {x0 : Int32} {x1 : Int32} {x2 : Int32}   : WP (D + 1) 117 14 [some (mI x0), some (mI x1), some (mI x2)] [] (hp L mi rs) K ↔ WP (D + 1) 117 15 [some (mI x0), some (mI x1), some (mI x2)] [(mI (N 0))] (hp L mi rs) K :=
  (WP_k 1).trans ((show (∃ n, wp (n + 1) (D + 1) 117 14 [some (mI x0), some (mI x1), some (mI x2)] [] (hp L mi rs) K) ↔ (∃ n, wp n (D + 1) 117 15 [some (mI x0), some (mI x1), some (mI x2)] [(mI (N 0))] (hp L mi rs) K) from Iff.rfl).trans (Iff.rfl))
set_option maxRecDepth 20000 in
theorem B117_15 {D L : Nat} {mi : mMi} {rs : mRs} {K : mOut → mH → Prop} {x0 : Int32} {x1 : Int32} {x2 : Int32} {s0 : Int32}   : WP (D + 1) 117 15 [some (mI x0), some (mI x1), some (mI x2)] [(mI s0)] (hp L mi rs) K ↔ WP D 107 0 (mEntry 107 [mI s0]) [] (hp L mi rs) (Bk (D + 1) 117 18 [some (mI x0), some (mI x1), some (mI x2)] [] K) :=
  (WP_k 1).trans ((show (∃ n, wp (n + 1) (D + 1) 117 15 [some (mI x0), some (mI x1), some (mI x2)] [(mI s0)] (hp L mi rs) K) ↔ (∃ n, wp n D 107 0 (mEntry 107 [mI s0]) [] (hp L mi rs) (Bkn n (D + 1) 117 18 [some (mI x0), some (mI x1), some (mI x2)] [] K)) from Iff.rfl).trans (ex_Bk))
set_option maxRecDepth 20000 in
theorem B117_18 {D L : Nat} {mi : mMi} {rs : mRs} {K : mOut → mH → Prop} {x0 : Int32} {x1 : Int32} {x2 : Int32}   : WP (D + 1) 117 18 [some (mI x0), some (mI x1), some (mI x2)] [] (hp L mi rs) K ↔ K (.inl none) (hp L mi rs) :=
  (WP_k 1).trans ((show (∃ n, wp (n + 1) (D + 1) 117 18 [some (mI x0), some (mI x1), some (mI x2)] [] (hp L mi rs) K) ↔ (∃ n, K (.inl none) (hp L mi rs)) from Iff.rfl).trans (ex_one))
set_option maxRecDepth 20000 in
theorem B118_0 {D L : Nat} {mi : mMi} {rs : mRs} {K : mOut → mH → Prop} {x1 : Int32}   : WP (D + 1) 118 0 [some (mR 2 0 0), some (mI x1)] [] (hp L mi rs) K ↔ WP D 114 0 (mEntry 114 [mR 2 0 0]) [] (hp L mi rs) (Bk (D + 1) 118 4 [some (mR 2 0 0), some (mI x1)] [] K) :=
  (WP_k 2).trans ((show (∃ n, wp (n + 2) (D + 1) 118 0 [some (mR 2 0 0), some (mI x1)] [] (hp L mi rs) K) ↔ (∃ n, wp n D 114 0 (mEntry 114 [mR 2 0 0]) [] (hp L mi rs) (Bkn n (D + 1) 118 4 [some (mR 2 0 0), some (mI x1)] [] K)) from Iff.rfl).trans (ex_Bk))
set_option maxRecDepth 20000 in
theorem B118_4 {D L : Nat} {mi : mMi} {rs : mRs} {K : mOut → mH → Prop} {x1 : Int32}   : WP (D + 1) 118 4 [some (mR 2 0 0), some (mI x1)] [] (hp L mi rs) K ↔ WP D 117 0 (mEntry 117 [mI x1, mI (N 0), mI (N 5)]) [] (hp L mi rs) (Bk (D + 1) 118 10 [some (mR 2 0 0), some (mI x1)] [] K) :=
  (WP_k 4).trans ((show (∃ n, wp (n + 4) (D + 1) 118 4 [some (mR 2 0 0), some (mI x1)] [] (hp L mi rs) K) ↔ (∃ n, wp n D 117 0 (mEntry 117 [mI x1, mI (N 0), mI (N 5)]) [] (hp L mi rs) (Bkn n (D + 1) 118 10 [some (mR 2 0 0), some (mI x1)] [] K)) from Iff.rfl).trans (ex_Bk))
set_option maxRecDepth 20000 in
theorem B118_10 {D L : Nat} {mi : mMi} {rs : mRs} {K : mOut → mH → Prop} {x1 : Int32}   : WP (D + 1) 118 10 [some (mR 2 0 0), some (mI x1)] [] (hp L mi rs) K ↔ mck (mIn x1 6) (K (.inl (some (mI (mi 1 0 1 (mix x1))))) (hp L mi rs)) :=
  (WP_k 6).trans ((show (∃ n, wp (n + 6) (D + 1) 118 10 [some (mR 2 0 0), some (mI x1)] [] (hp L mi rs) K) ↔ (∃ n, mck (mIn x1 6) (K (.inl (some (mI (mi 1 0 1 (mix x1))))) (hp L mi rs))) from Iff.rfl).trans (ex_mck.trans (mck_c (ex_one))))
set_option maxRecDepth 20000 in
theorem B119_0 {D L : Nat} {mi : mMi} {rs : mRs} {K : mOut → mH → Prop} {x1 : Int32} {x2 : Int32}   : WP (D + 1) 119 0 [some (mR 2 0 0), some (mI x1), some (mI x2), none] [] (hp L mi rs) K ↔ WP D 120 0 (mEntry 120 [mR 2 0 0, mI x1]) [] (hp L mi rs) (Bk (D + 1) 119 5 [some (mR 2 0 0), some (mI x1), some (mI x2), none] [] K) :=
  (WP_k 3).trans ((show (∃ n, wp (n + 3) (D + 1) 119 0 [some (mR 2 0 0), some (mI x1), some (mI x2), none] [] (hp L mi rs) K) ↔ (∃ n, wp n D 120 0 (mEntry 120 [mR 2 0 0, mI x1]) [] (hp L mi rs) (Bkn n (D + 1) 119 5 [some (mR 2 0 0), some (mI x1), some (mI x2), none] [] K)) from Iff.rfl).trans (ex_Bk))
set_option maxRecDepth 20000 in
theorem B119_5 {D L : Nat} {mi : mMi} {rs : mRs} {K : mOut → mH → Prop} {x1 : Int32} {x2 : Int32}   : WP (D + 1) 119 5 [some (mR 2 0 0), some (mI x1), some (mI x2), none] [] (hp L mi rs) K ↔ WP D 117 0 (mEntry 117 [mI x2, mI (N 0), mI (N 5)]) [] (hp L mi rs) (Bk (D + 1) 119 11 [some (mR 2 0 0), some (mI x1), some (mI x2), none] [] K) :=
  (WP_k 4).trans ((show (∃ n, wp (n + 4) (D + 1) 119 5 [some (mR 2 0 0), some (mI x1), some (mI x2), none] [] (hp L mi rs) K) ↔ (∃ n, wp n D 117 0 (mEntry 117 [mI x2, mI (N 0), mI (N 5)]) [] (hp L mi rs) (Bkn n (D + 1) 119 11 [some (mR 2 0 0), some (mI x1), some (mI x2), none] [] K)) from Iff.rfl).trans (ex_Bk))
set_option maxRecDepth 20000 in
theorem B119_11 {D L : Nat} {mi : mMi} {rs : mRs} {K : mOut → mH → Prop} {x1 : Int32} {x2 : Int32}   : WP (D + 1) 119 11 [some (mR 2 0 0), some (mI x1), some (mI x2), none] [] (hp L mi rs) K ↔ mck (mIn x1 40) (mTsw x2 25 93 0 4 #[35, 48, 58, 67, 80] (fun t9 => WP (D + 1) 119 t9 [some (mR 2 0 0), some (mI x1), some (mI x2), some (mI (mi 0 0 13 (mix x1)))] [] (hp L mi rs) K)) :=
  (WP_k 9).trans ((show (∃ n, wp (n + 9) (D + 1) 119 11 [some (mR 2 0 0), some (mI x1), some (mI x2), none] [] (hp L mi rs) K) ↔ (∃ n, mck (mIn x1 40) (mTsw x2 25 93 0 4 #[35, 48, 58, 67, 80] (fun t9 => wp n (D + 1) 119 t9 [some (mR 2 0 0), some (mI x1), some (mI x2), some (mI (mi 0 0 13 (mix x1)))] [] (hp L mi rs) K))) from Iff.rfl).trans (ex_mck.trans (mck_c (ex_tsw))))
set_option maxRecDepth 20000 in
theorem B119_60 {D L : Nat} {mi : mMi} {rs : mRs} {K : mOut → mH → Prop} {x1 : Int32} {x2 : Int32} {x3 : Int32}   : WP (D + 1) 119 60 [some (mR 2 0 0), some (mI x1), some (mI x2), some (mI x3)] [] (hp L mi rs) K ↔ mck (mIn x1 40) (K (.inl (some (mI (mi 0 0 11 (mix x1))))) (hp L mi rs)) :=
  (WP_k 7).trans ((show (∃ n, wp (n + 7) (D + 1) 119 60 [some (mR 2 0 0), some (mI x1), some (mI x2), some (mI x3)] [] (hp L mi rs) K) ↔ (∃ n, mck (mIn x1 40) (K (.inl (some (mI (mi 0 0 11 (mix x1))))) (hp L mi rs))) from Iff.rfl).trans (ex_mck.trans (mck_c (ex_one))))
set_option maxRecDepth 20000 in
theorem B119_73 {D L : Nat} {mi : mMi} {rs : mRs} {K : mOut → mH → Prop} {x1 : Int32} {x2 : Int32} {x3 : Int32}   : WP (D + 1) 119 73 [some (mR 2 0 0), some (mI x1), some (mI x2), some (mI x3)] [] (hp L mi rs) K ↔ mck (mIn x1 40) (K (.inl (some (mI (mi 1 0 4 (mix x1))))) (hp L mi rs)) :=
  (WP_k 6).trans ((show (∃ n, wp (n + 6) (D + 1) 119 73 [some (mR 2 0 0), some (mI x1), some (mI x2), some (mI x3)] [] (hp L mi rs) K) ↔ (∃ n, mck (mIn x1 40) (K (.inl (some (mI (mi 1 0 4 (mix x1))))) (hp L mi rs))) from Iff.rfl).trans (ex_mck.trans (mck_c (ex_one))))
set_option maxRecDepth 20000 in
theorem B119_83 {D L : Nat} {mi : mMi} {rs : mRs} {K : mOut → mH → Prop} {x1 : Int32} {x2 : Int32} {x3 : Int32}   : WP (D + 1) 119 83 [some (mR 2 0 0), some (mI x1), some (mI x2), some (mI x3)] [] (hp L mi rs) K ↔ WP D 29 0 (mEntry 29 [mR 0 0 0, mI x1]) [] (hp L mi rs) (Bk (D + 1) 119 91 [some (mR 2 0 0), some (mI x1), some (mI x2), some (mI x3)] [] K) :=
  (WP_k 4).trans ((show (∃ n, wp (n + 4) (D + 1) 119 83 [some (mR 2 0 0), some (mI x1), some (mI x2), some (mI x3)] [] (hp L mi rs) K) ↔ (∃ n, wp n D 29 0 (mEntry 29 [mR 0 0 0, mI x1]) [] (hp L mi rs) (Bkn n (D + 1) 119 91 [some (mR 2 0 0), some (mI x1), some (mI x2), some (mI x3)] [] K)) from Iff.rfl).trans (ex_Bk))
set_option maxRecDepth 20000 in
theorem B119_91 {D L : Nat} {mi : mMi} {rs : mRs} {K : mOut → mH → Prop} {x1 : Int32} {x2 : Int32} {x3 : Int32} {s0 : Int32}   : WP (D + 1) 119 91 [some (mR 2 0 0), some (mI x1), some (mI x2), some (mI x3)] [(mI s0)] (hp L mi rs) K ↔ K (.inl (some (mI s0))) (hp L mi rs) :=
  (WP_k 1).trans ((show (∃ n, wp (n + 1) (D + 1) 119 91 [some (mR 2 0 0), some (mI x1), some (mI x2), some (mI x3)] [(mI s0)] (hp L mi rs) K) ↔ (∃ n, K (.inl (some (mI s0))) (hp L mi rs)) from Iff.rfl).trans (ex_one))
set_option maxRecDepth 20000 in
theorem B119_92 {D L : Nat} {mi : mMi} {rs : mRs} {K : mOut → mH → Prop} {x1 : Int32} {x2 : Int32} {x3 : Int32}   : WP (D + 1) 119 92 [some (mR 2 0 0), some (mI x1), some (mI x2), some (mI x3)] [] (hp L mi rs) K ↔ mif (decide ((N 0) ≤ x3)) (WP (D + 1) 119 100 [some (mR 2 0 0), some (mI x1), some (mI x2), some (mI x3)] [] (hp L mi rs) K) (WP (D + 1) 119 96 [some (mR 2 0 0), some (mI x1), some (mI x2), some (mI x3)] [] (hp L mi rs) K) :=
  (WP_k 2).trans ((show (∃ n, wp (n + 2) (D + 1) 119 92 [some (mR 2 0 0), some (mI x1), some (mI x2), some (mI x3)] [] (hp L mi rs) K) ↔ (∃ n, mif (decide ((N 0) ≤ x3)) (wp n (D + 1) 119 100 [some (mR 2 0 0), some (mI x1), some (mI x2), some (mI x3)] [] (hp L mi rs) K) (wp n (D + 1) 119 96 [some (mR 2 0 0), some (mI x1), some (mI x2), some (mI x3)] [] (hp L mi rs) K)) from Iff.rfl).trans (ex_mif))
set_option maxRecDepth 20000 in
theorem B119_96 {D L : Nat} {mi : mMi} {rs : mRs} {K : mOut → mH → Prop} {x1 : Int32} {x2 : Int32} {x3 : Int32}   : WP (D + 1) 119 96 [some (mR 2 0 0), some (mI x1), some (mI x2), some (mI x3)] [] (hp L mi rs) K ↔ WP (D + 1) 119 104 [some (mR 2 0 0), some (mI x1), some (mI x2), some (mI x3)] [(mI (I (-1)))] (hp L mi rs) K :=
  (WP_k 2).trans ((show (∃ n, wp (n + 2) (D + 1) 119 96 [some (mR 2 0 0), some (mI x1), some (mI x2), some (mI x3)] [] (hp L mi rs) K) ↔ (∃ n, wp n (D + 1) 119 104 [some (mR 2 0 0), some (mI x1), some (mI x2), some (mI x3)] [(mI (I (-1)))] (hp L mi rs) K) from Iff.rfl).trans (Iff.rfl))
set_option maxRecDepth 20000 in
theorem B119_100 {D L : Nat} {mi : mMi} {rs : mRs} {K : mOut → mH → Prop} {x1 : Int32} {x2 : Int32} {x3 : Int32}   : WP (D + 1) 119 100 [some (mR 2 0 0), some (mI x1), some (mI x2), some (mI x3)] [] (hp L mi rs) K ↔ WP D 111 0 (mEntry 111 [mI x3]) [] (hp L mi rs) (Bk (D + 1) 119 104 [some (mR 2 0 0), some (mI x1), some (mI x2), some (mI x3)] [] K) :=
  (WP_k 2).trans ((show (∃ n, wp (n + 2) (D + 1) 119 100 [some (mR 2 0 0), some (mI x1), some (mI x2), some (mI x3)] [] (hp L mi rs) K) ↔ (∃ n, wp n D 111 0 (mEntry 111 [mI x3]) [] (hp L mi rs) (Bkn n (D + 1) 119 104 [some (mR 2 0 0), some (mI x1), some (mI x2), some (mI x3)] [] K)) from Iff.rfl).trans (ex_Bk))
set_option maxRecDepth 20000 in
theorem B119_104 {D L : Nat} {mi : mMi} {rs : mRs} {K : mOut → mH → Prop} {x1 : Int32} {x2 : Int32} {x3 : Int32} {s0 : Int32}   : WP (D + 1) 119 104 [some (mR 2 0 0), some (mI x1), some (mI x2), some (mI x3)] [(mI s0)] (hp L mi rs) K ↔ K (.inl (some (mI s0))) (hp L mi rs) :=
  (WP_k 1).trans ((show (∃ n, wp (n + 1) (D + 1) 119 104 [some (mR 2 0 0), some (mI x1), some (mI x2), some (mI x3)] [(mI s0)] (hp L mi rs) K) ↔ (∃ n, K (.inl (some (mI s0))) (hp L mi rs)) from Iff.rfl).trans (ex_one))
set_option maxRecDepth 20000 in
theorem B119_105 {D L : Nat} {mi : mMi} {rs : mRs} {K : mOut → mH → Prop} {x1 : Int32} {x2 : Int32} {x3 : Int32}   : WP (D + 1) 119 105 [some (mR 2 0 0), some (mI x1), some (mI x2), some (mI x3)] [] (hp L mi rs) K ↔ mif (decide ((N 0) ≤ x3)) (WP (D + 1) 119 113 [some (mR 2 0 0), some (mI x1), some (mI x2), some (mI x3)] [] (hp L mi rs) K) (WP (D + 1) 119 109 [some (mR 2 0 0), some (mI x1), some (mI x2), some (mI x3)] [] (hp L mi rs) K) :=
  (WP_k 2).trans ((show (∃ n, wp (n + 2) (D + 1) 119 105 [some (mR 2 0 0), some (mI x1), some (mI x2), some (mI x3)] [] (hp L mi rs) K) ↔ (∃ n, mif (decide ((N 0) ≤ x3)) (wp n (D + 1) 119 113 [some (mR 2 0 0), some (mI x1), some (mI x2), some (mI x3)] [] (hp L mi rs) K) (wp n (D + 1) 119 109 [some (mR 2 0 0), some (mI x1), some (mI x2), some (mI x3)] [] (hp L mi rs) K)) from Iff.rfl).trans (ex_mif))
set_option maxRecDepth 20000 in
theorem B119_109 {D L : Nat} {mi : mMi} {rs : mRs} {K : mOut → mH → Prop} {x1 : Int32} {x2 : Int32} {x3 : Int32}   : WP (D + 1) 119 109 [some (mR 2 0 0), some (mI x1), some (mI x2), some (mI x3)] [] (hp L mi rs) K ↔ WP (D + 1) 119 117 [some (mR 2 0 0), some (mI x1), some (mI x2), some (mI x3)] [(mI (I (-1)))] (hp L mi rs) K :=
  (WP_k 2).trans ((show (∃ n, wp (n + 2) (D + 1) 119 109 [some (mR 2 0 0), some (mI x1), some (mI x2), some (mI x3)] [] (hp L mi rs) K) ↔ (∃ n, wp n (D + 1) 119 117 [some (mR 2 0 0), some (mI x1), some (mI x2), some (mI x3)] [(mI (I (-1)))] (hp L mi rs) K) from Iff.rfl).trans (Iff.rfl))
set_option maxRecDepth 20000 in
theorem B119_113 {D L : Nat} {mi : mMi} {rs : mRs} {K : mOut → mH → Prop} {x1 : Int32} {x2 : Int32} {x3 : Int32}   : WP (D + 1) 119 113 [some (mR 2 0 0), some (mI x1), some (mI x2), some (mI x3)] [] (hp L mi rs) K ↔ WP D 112 0 (mEntry 112 [mI x3]) [] (hp L mi rs) (Bk (D + 1) 119 117 [some (mR 2 0 0), some (mI x1), some (mI x2), some (mI x3)] [] K) :=
  (WP_k 2).trans ((show (∃ n, wp (n + 2) (D + 1) 119 113 [some (mR 2 0 0), some (mI x1), some (mI x2), some (mI x3)] [] (hp L mi rs) K) ↔ (∃ n, wp n D 112 0 (mEntry 112 [mI x3]) [] (hp L mi rs) (Bkn n (D + 1) 119 117 [some (mR 2 0 0), some (mI x1), some (mI x2), some (mI x3)] [] K)) from Iff.rfl).trans (ex_Bk))
set_option maxRecDepth 20000 in
theorem B119_117 {D L : Nat} {mi : mMi} {rs : mRs} {K : mOut → mH → Prop} {x1 : Int32} {x2 : Int32} {x3 : Int32} {s0 : Int32}   : WP (D + 1) 119 117 [some (mR 2 0 0), some (mI x1), some (mI x2), some (mI x3)] [(mI s0)] (hp L mi rs) K ↔ K (.inl (some (mI s0))) (hp L mi rs) :=
  (WP_k 1).trans ((show (∃ n, wp (n + 1) (D + 1) 119 117 [some (mR 2 0 0), some (mI x1), some (mI x2), some (mI x3)] [(mI s0)] (hp L mi rs) K) ↔ (∃ n, K (.inl (some (mI s0))) (hp L mi rs)) from Iff.rfl).trans (ex_one))
set_option maxRecDepth 20000 in
theorem B119_118 {D L : Nat} {mi : mMi} {rs : mRs} {K : mOut → mH → Prop} {x1 : Int32} {x2 : Int32} {x3 : Int32}   : WP (D + 1) 119 118 [some (mR 2 0 0), some (mI x1), some (mI x2), some (mI x3)] [] (hp L mi rs) K ↔ mck (mIn x1 40) (K (.inl (some (mI (mi 0 0 12 (mix x1))))) (hp L mi rs)) :=
  (WP_k 7).trans ((show (∃ n, wp (n + 7) (D + 1) 119 118 [some (mR 2 0 0), some (mI x1), some (mI x2), some (mI x3)] [] (hp L mi rs) K) ↔ (∃ n, mck (mIn x1 40) (K (.inl (some (mI (mi 0 0 12 (mix x1))))) (hp L mi rs))) from Iff.rfl).trans (ex_mck.trans (mck_c (ex_one))))
set_option maxRecDepth 20000 in
theorem B120_0 {D L : Nat} {mi : mMi} {rs : mRs} {K : mOut → mH → Prop} {x1 : Int32}   : WP (D + 1) 120 0 [some (mR 2 0 0), some (mI x1)] [] (hp L mi rs) K ↔ WP D 114 0 (mEntry 114 [mR 2 0 0]) [] (hp L mi rs) (Bk (D + 1) 120 4 [some (mR 2 0 0), some (mI x1)] [] K) :=
  (WP_k 2).trans ((show (∃ n, wp (n + 2) (D + 1) 120 0 [some (mR 2 0 0), some (mI x1)] [] (hp L mi rs) K) ↔ (∃ n, wp n D 114 0 (mEntry 114 [mR 2 0 0]) [] (hp L mi rs) (Bkn n (D + 1) 120 4 [some (mR 2 0 0), some (mI x1)] [] K)) from Iff.rfl).trans (ex_Bk))
set_option maxRecDepth 20000 in
theorem B120_4 {D L : Nat} {mi : mMi} {rs : mRs} {K : mOut → mH → Prop} {x1 : Int32}   : WP (D + 1) 120 4 [some (mR 2 0 0), some (mI x1)] [] (hp L mi rs) K ↔ WP D 106 0 (mEntry 106 [mI x1, mI (mi 1 0 0 4)]) [] (hp L mi rs) (Bk (D + 1) 120 15 [some (mR 2 0 0), some (mI x1)] [] K) :=
  (WP_k 5).trans ((show (∃ n, wp (n + 5) (D + 1) 120 4 [some (mR 2 0 0), some (mI x1)] [] (hp L mi rs) K) ↔ (∃ n, wp n D 106 0 (mEntry 106 [mI x1, mI (mi 1 0 0 4)]) [] (hp L mi rs) (Bkn n (D + 1) 120 15 [some (mR 2 0 0), some (mI x1)] [] K)) from Iff.rfl).trans (ex_Bk))
set_option maxRecDepth 20000 in
theorem B120_15 {D L : Nat} {mi : mMi} {rs : mRs} {K : mOut → mH → Prop} {x1 : Int32}   : WP (D + 1) 120 15 [some (mR 2 0 0), some (mI x1)] [] (hp L mi rs) K ↔ K (.inl none) (hp L mi rs) :=
  (WP_k 1).trans ((show (∃ n, wp (n + 1) (D + 1) 120 15 [some (mR 2 0 0), some (mI x1)] [] (hp L mi rs) K) ↔ (∃ n, K (.inl none) (hp L mi rs)) from Iff.rfl).trans (ex_one))
set_option maxRecDepth 20000 in
theorem B121_0 {D L : Nat} {mi : mMi} {rs : mRs} {K : mOut → mH → Prop} {x1 : Int32} {x2 : Int32} {x3 : Int32}   : WP (D + 1) 121 0 [some (mR 2 0 0), some (mI x1), some (mI x2), some (mI x3), none] [] (hp L mi rs) K ↔ WP D 122 0 (mEntry 122 [mR 2 0 0, mI x1, mI x2]) [] (hp L mi rs) (Bk (D + 1) 121 6 [some (mR 2 0 0), some (mI x1), some (mI x2), some (mI x3), none] [] K) :=
  (WP_k 4).trans ((show (∃ n, wp (n + 4) (D + 1) 121 0 [some (mR 2 0 0), some (mI x1), some (mI x2), some (mI x3), none] [] (hp L mi rs) K) ↔ (∃ n, wp n D 122 0 (mEntry 122 [mR 2 0 0, mI x1, mI x2]) [] (hp L mi rs) (Bkn n (D + 1) 121 6 [some (mR 2 0 0), some (mI x1), some (mI x2), some (mI x3), none] [] K)) from Iff.rfl).trans (ex_Bk))
set_option maxRecDepth 20000 in
theorem B121_6 {D L : Nat} {mi : mMi} {rs : mRs} {K : mOut → mH → Prop} {x1 : Int32} {x2 : Int32} {x3 : Int32}   : WP (D + 1) 121 6 [some (mR 2 0 0), some (mI x1), some (mI x2), some (mI x3), none] [] (hp L mi rs) K ↔ WP D 117 0 (mEntry 117 [mI x3, mI (N 0), mI (N 6)]) [] (hp L mi rs) (Bk (D + 1) 121 13 [some (mR 2 0 0), some (mI x1), some (mI x2), some (mI x3), none] [] K) :=
  (WP_k 4).trans ((show (∃ n, wp (n + 4) (D + 1) 121 6 [some (mR 2 0 0), some (mI x1), some (mI x2), some (mI x3), none] [] (hp L mi rs) K) ↔ (∃ n, wp n D 117 0 (mEntry 117 [mI x3, mI (N 0), mI (N 6)]) [] (hp L mi rs) (Bkn n (D + 1) 121 13 [some (mR 2 0 0), some (mI x1), some (mI x2), some (mI x3), none] [] K)) from Iff.rfl).trans (ex_Bk))
set_option maxRecDepth 20000 in
theorem B121_13 {D L : Nat} {mi : mMi} {rs : mRs} {K : mOut → mH → Prop} {x1 : Int32} {x2 : Int32} {x3 : Int32}   : WP (D + 1) 121 13 [some (mR 2 0 0), some (mI x1), some (mI x2), some (mI x3), none] [] (hp L mi rs) K ↔ WP D 81 0 (mEntry 81 [mR 1 0 0, mI x1, mI x2]) [] (hp L mi rs) (Bk (D + 1) 121 22 [some (mR 2 0 0), some (mI x1), some (mI x2), some (mI x3), none] [] K) :=
  (WP_k 5).trans ((show (∃ n, wp (n + 5) (D + 1) 121 13 [some (mR 2 0 0), some (mI x1), some (mI x2), some (mI x3), none] [] (hp L mi rs) K) ↔ (∃ n, wp n D 81 0 (mEntry 81 [mR 1 0 0, mI x1, mI x2]) [] (hp L mi rs) (Bkn n (D + 1) 121 22 [some (mR 2 0 0), some (mI x1), some (mI x2), some (mI x3), none] [] K)) from Iff.rfl).trans (ex_Bk))
set_option maxRecDepth 20000 in
theorem B121_22 {D L : Nat} {mi : mMi} {rs : mRs} {K : mOut → mH → Prop} {x1 : Int32} {x2 : Int32} {x3 : Int32} {s0 : Int32}   : WP (D + 1) 121 22 [some (mR 2 0 0), some (mI x1), some (mI x2), some (mI x3), none] [(mI s0)] (hp L mi rs) K ↔ WP D 51 0 (mEntry 51 [mR 0 0 1, mI s0]) [] (hp L mi rs) (Bk (D + 1) 121 36 [some (mR 2 0 0), some (mI x1), some (mI x2), some (mI x3), some (mI s0)] [] K) :=
  (WP_k 6).trans ((show (∃ n, wp (n + 6) (D + 1) 121 22 [some (mR 2 0 0), some (mI x1), some (mI x2), some (mI x3), none] [(mI s0)] (hp L mi rs) K) ↔ (∃ n, wp n D 51 0 (mEntry 51 [mR 0 0 1, mI s0]) [] (hp L mi rs) (Bkn n (D + 1) 121 36 [some (mR 2 0 0), some (mI x1), some (mI x2), some (mI x3), some (mI s0)] [] K)) from Iff.rfl).trans (ex_Bk))
set_option maxRecDepth 20000 in
theorem B121_36 {D L : Nat} {mi : mMi} {rs : mRs} {K : mOut → mH → Prop} {x1 : Int32} {x2 : Int32} {x3 : Int32} {x4 : Int32} {s0 : Int32}   : WP (D + 1) 121 36 [some (mR 2 0 0), some (mI x1), some (mI x2), some (mI x3), some (mI x4)] [(mI s0)] (hp L mi rs) K ↔ mif (decide (s0 ≠ (N 0))) (WP (D + 1) 121 41 [some (mR 2 0 0), some (mI x1), some (mI x2), some (mI x3), some (mI x4)] [] (hp L mi rs) K) (WP (D + 1) 121 39 [some (mR 2 0 0), some (mI x1), some (mI x2), some (mI x3), some (mI x4)] [] (hp L mi rs) K) :=
  (WP_k 1).trans ((show (∃ n, wp (n + 1) (D + 1) 121 36 [some (mR 2 0 0), some (mI x1), some (mI x2), some (mI x3), some (mI x4)] [(mI s0)] (hp L mi rs) K) ↔ (∃ n, mif (decide (s0 ≠ (N 0))) (wp n (D + 1) 121 41 [some (mR 2 0 0), some (mI x1), some (mI x2), some (mI x3), some (mI x4)] [] (hp L mi rs) K) (wp n (D + 1) 121 39 [some (mR 2 0 0), some (mI x1), some (mI x2), some (mI x3), some (mI x4)] [] (hp L mi rs) K)) from Iff.rfl).trans (ex_mif))
set_option maxRecDepth 20000 in
theorem B121_39 {D L : Nat} {mi : mMi} {rs : mRs} {K : mOut → mH → Prop} {x1 : Int32} {x2 : Int32} {x3 : Int32} {x4 : Int32}   : WP (D + 1) 121 39 [some (mR 2 0 0), some (mI x1), some (mI x2), some (mI x3), some (mI x4)] [] (hp L mi rs) K ↔ K (.inl (some (mI (I (-1))))) (hp L mi rs) :=
  (WP_k 2).trans ((show (∃ n, wp (n + 2) (D + 1) 121 39 [some (mR 2 0 0), some (mI x1), some (mI x2), some (mI x3), some (mI x4)] [] (hp L mi rs) K) ↔ (∃ n, K (.inl (some (mI (I (-1))))) (hp L mi rs)) from Iff.rfl).trans (ex_one))
set_option maxRecDepth 20000 in
theorem B121_41 {D L : Nat} {mi : mMi} {rs : mRs} {K : mOut → mH → Prop} {x1 : Int32} {x2 : Int32} {x3 : Int32} {x4 : Int32}   : WP (D + 1) 121 41 [some (mR 2 0 0), some (mI x1), some (mI x2), some (mI x3), some (mI x4)] [] (hp L mi rs) K ↔ WP D 85 0 (mEntry 85 [mR 2 2 0, mR 0 0 0]) [] (hp L mi rs) (Bk (D + 1) 121 52 [some (mR 2 0 0), some (mI x1), some (mI x2), some (mI x3), some (mI x4)] [] K) :=
  (WP_k 5).trans ((show (∃ n, wp (n + 5) (D + 1) 121 41 [some (mR 2 0 0), some (mI x1), some (mI x2), some (mI x3), some (mI x4)] [] (hp L mi rs) K) ↔ (∃ n, wp n D 85 0 (mEntry 85 [mR 2 2 0, mR 0 0 0]) [] (hp L mi rs) (Bkn n (D + 1) 121 52 [some (mR 2 0 0), some (mI x1), some (mI x2), some (mI x3), some (mI x4)] [] K)) from Iff.rfl).trans (ex_Bk))
set_option maxRecDepth 20000 in
theorem B121_52 {D L : Nat} {mi : mMi} {rs : mRs} {K : mOut → mH → Prop} {x1 : Int32} {x2 : Int32} {x3 : Int32} {x4 : Int32}   : WP (D + 1) 121 52 [some (mR 2 0 0), some (mI x1), some (mI x2), some (mI x3), some (mI x4)] [] (hp L mi rs) K ↔ mTsw x3 53 116 0 5 #[39, 53, 67, 81, 95, 105] (fun t9 => WP (D + 1) 121 t9 [some (mR 2 0 0), some (mI x1), some (mI x2), some (mI x3), some (mI x4)] [] (hp L mi rs) K) :=
  (WP_k 2).trans ((show (∃ n, wp (n + 2) (D + 1) 121 52 [some (mR 2 0 0), some (mI x1), some (mI x2), some (mI x3), some (mI x4)] [] (hp L mi rs) K) ↔ (∃ n, mTsw x3 53 116 0 5 #[39, 53, 67, 81, 95, 105] (fun t9 => wp n (D + 1) 121 t9 [some (mR 2 0 0), some (mI x1), some (mI x2), some (mI x3), some (mI x4)] [] (hp L mi rs) K)) from Iff.rfl).trans (ex_tsw))
set_option maxRecDepth 20000 in
theorem B121_92 {D L : Nat} {mi : mMi} {rs : mRs} {K : mOut → mH → Prop} {x1 : Int32} {x2 : Int32} {x3 : Int32} {x4 : Int32}   : WP (D + 1) 121 92 [some (mR 2 0 0), some (mI x1), some (mI x2), some (mI x3), some (mI x4)] [] (hp L mi rs) K ↔ mck (mIn x4 96) (K (.inl (some (mI (mi 0 0 2 (mix x4))))) (hp L mi rs)) :=
  (WP_k 7).trans ((show (∃ n, wp (n + 7) (D + 1) 121 92 [some (mR 2 0 0), some (mI x1), some (mI x2), some (mI x3), some (mI x4)] [] (hp L mi rs) K) ↔ (∃ n, mck (mIn x4 96) (K (.inl (some (mI (mi 0 0 2 (mix x4))))) (hp L mi rs))) from Iff.rfl).trans (ex_mck.trans (mck_c (ex_one))))
set_option maxRecDepth 20000 in
theorem B121_106 {D L : Nat} {mi : mMi} {rs : mRs} {K : mOut → mH → Prop} {x1 : Int32} {x2 : Int32} {x3 : Int32} {x4 : Int32}   : WP (D + 1) 121 106 [some (mR 2 0 0), some (mI x1), some (mI x2), some (mI x3), some (mI x4)] [] (hp L mi rs) K ↔ mck (mIn x4 96) (K (.inl (some (mI (mi 0 0 3 (mix x4))))) (hp L mi rs)) :=
  (WP_k 7).trans ((show (∃ n, wp (n + 7) (D + 1) 121 106 [some (mR 2 0 0), some (mI x1), some (mI x2), some (mI x3), some (mI x4)] [] (hp L mi rs) K) ↔ (∃ n, mck (mIn x4 96) (K (.inl (some (mI (mi 0 0 3 (mix x4))))) (hp L mi rs))) from Iff.rfl).trans (ex_mck.trans (mck_c (ex_one))))
set_option maxRecDepth 20000 in
theorem B121_120 {D L : Nat} {mi : mMi} {rs : mRs} {K : mOut → mH → Prop} {x1 : Int32} {x2 : Int32} {x3 : Int32} {x4 : Int32}   : WP (D + 1) 121 120 [some (mR 2 0 0), some (mI x1), some (mI x2), some (mI x3), some (mI x4)] [] (hp L mi rs) K ↔ mck (mIn x4 96) (K (.inl (some (mI (mi 0 0 4 (mix x4))))) (hp L mi rs)) :=
  (WP_k 7).trans ((show (∃ n, wp (n + 7) (D + 1) 121 120 [some (mR 2 0 0), some (mI x1), some (mI x2), some (mI x3), some (mI x4)] [] (hp L mi rs) K) ↔ (∃ n, mck (mIn x4 96) (K (.inl (some (mI (mi 0 0 4 (mix x4))))) (hp L mi rs))) from Iff.rfl).trans (ex_mck.trans (mck_c (ex_one))))
set_option maxRecDepth 20000 in
theorem B121_134 {D L : Nat} {mi : mMi} {rs : mRs} {K : mOut → mH → Prop} {x1 : Int32} {x2 : Int32} {x3 : Int32} {x4 : Int32}   : WP (D + 1) 121 134 [some (mR 2 0 0), some (mI x1), some (mI x2), some (mI x3), some (mI x4)] [] (hp L mi rs) K ↔ mck (mIn x4 96) (K (.inl (some (mI (mi 0 0 5 (mix x4))))) (hp L mi rs)) :=
  (WP_k 7).trans ((show (∃ n, wp (n + 7) (D + 1) 121 134 [some (mR 2 0 0), some (mI x1), some (mI x2), some (mI x3), some (mI x4)] [] (hp L mi rs) K) ↔ (∃ n, mck (mIn x4 96) (K (.inl (some (mI (mi 0 0 5 (mix x4))))) (hp L mi rs))) from Iff.rfl).trans (ex_mck.trans (mck_c (ex_one))))
set_option maxRecDepth 20000 in
theorem B121_148 {D L : Nat} {mi : mMi} {rs : mRs} {K : mOut → mH → Prop} {x1 : Int32} {x2 : Int32} {x3 : Int32} {x4 : Int32}   : WP (D + 1) 121 148 [some (mR 2 0 0), some (mI x1), some (mI x2), some (mI x3), some (mI x4)] [] (hp L mi rs) K ↔ WP D 24 0 (mEntry 24 [mR 0 0 0, mI x4]) [] (hp L mi rs) (Bk (D + 1) 121 157 [some (mR 2 0 0), some (mI x1), some (mI x2), some (mI x3), some (mI x4)] [] K) :=
  (WP_k 4).trans ((show (∃ n, wp (n + 4) (D + 1) 121 148 [some (mR 2 0 0), some (mI x1), some (mI x2), some (mI x3), some (mI x4)] [] (hp L mi rs) K) ↔ (∃ n, wp n D 24 0 (mEntry 24 [mR 0 0 0, mI x4]) [] (hp L mi rs) (Bkn n (D + 1) 121 157 [some (mR 2 0 0), some (mI x1), some (mI x2), some (mI x3), some (mI x4)] [] K)) from Iff.rfl).trans (ex_Bk))
set_option maxRecDepth 20000 in
theorem B121_157 {D L : Nat} {mi : mMi} {rs : mRs} {K : mOut → mH → Prop} {x1 : Int32} {x2 : Int32} {x3 : Int32} {x4 : Int32} {s0 : Int32}   : WP (D + 1) 121 157 [some (mR 2 0 0), some (mI x1), some (mI x2), some (mI x3), some (mI x4)] [(mI s0)] (hp L mi rs) K ↔ K (.inl (some (mI s0))) (hp L mi rs) :=
  (WP_k 1).trans ((show (∃ n, wp (n + 1) (D + 1) 121 157 [some (mR 2 0 0), some (mI x1), some (mI x2), some (mI x3), some (mI x4)] [(mI s0)] (hp L mi rs) K) ↔ (∃ n, K (.inl (some (mI s0))) (hp L mi rs)) from Iff.rfl).trans (ex_one))
set_option maxRecDepth 20000 in
theorem B121_158 {D L : Nat} {mi : mMi} {rs : mRs} {K : mOut → mH → Prop} {x1 : Int32} {x2 : Int32} {x3 : Int32} {x4 : Int32}   : WP (D + 1) 121 158 [some (mR 2 0 0), some (mI x1), some (mI x2), some (mI x3), some (mI x4)] [] (hp L mi rs) K ↔ mck (mIn x4 96) (K (.inl (some (mI (mi 2 2 1 (mix x4))))) (hp L mi rs)) :=
  (WP_k 6).trans ((show (∃ n, wp (n + 6) (D + 1) 121 158 [some (mR 2 0 0), some (mI x1), some (mI x2), some (mI x3), some (mI x4)] [] (hp L mi rs) K) ↔ (∃ n, mck (mIn x4 96) (K (.inl (some (mI (mi 2 2 1 (mix x4))))) (hp L mi rs))) from Iff.rfl).trans (ex_mck.trans (mck_c (ex_one))))
set_option maxRecDepth 20000 in
theorem B121_169 {D L : Nat} {mi : mMi} {rs : mRs} {K : mOut → mH → Prop} {x1 : Int32} {x2 : Int32} {x3 : Int32} {x4 : Int32}   : WP (D + 1) 121 169 [some (mR 2 0 0), some (mI x1), some (mI x2), some (mI x3), some (mI x4)] [] (hp L mi rs) K ↔ WP D 23 0 (mEntry 23 [mR 0 0 0, mI x4]) [] (hp L mi rs) (Bk (D + 1) 121 178 [some (mR 2 0 0), some (mI x1), some (mI x2), some (mI x3), some (mI x4)] [] K) :=
  (WP_k 4).trans ((show (∃ n, wp (n + 4) (D + 1) 121 169 [some (mR 2 0 0), some (mI x1), some (mI x2), some (mI x3), some (mI x4)] [] (hp L mi rs) K) ↔ (∃ n, wp n D 23 0 (mEntry 23 [mR 0 0 0, mI x4]) [] (hp L mi rs) (Bkn n (D + 1) 121 178 [some (mR 2 0 0), some (mI x1), some (mI x2), some (mI x3), some (mI x4)] [] K)) from Iff.rfl).trans (ex_Bk))
set_option maxRecDepth 20000 in
theorem B121_178 {D L : Nat} {mi : mMi} {rs : mRs} {K : mOut → mH → Prop} {x1 : Int32} {x2 : Int32} {x3 : Int32} {x4 : Int32} {s0 : Int32}   : WP (D + 1) 121 178 [some (mR 2 0 0), some (mI x1), some (mI x2), some (mI x3), some (mI x4)] [(mI s0)] (hp L mi rs) K ↔ K (.inl (some (mI s0))) (hp L mi rs) :=
  (WP_k 1).trans ((show (∃ n, wp (n + 1) (D + 1) 121 178 [some (mR 2 0 0), some (mI x1), some (mI x2), some (mI x3), some (mI x4)] [(mI s0)] (hp L mi rs) K) ↔ (∃ n, K (.inl (some (mI s0))) (hp L mi rs)) from Iff.rfl).trans (ex_one))
set_option maxRecDepth 20000 in
theorem B122_0 {D L : Nat} {mi : mMi} {rs : mRs} {K : mOut → mH → Prop} {x1 : Int32} {x2 : Int32}   : WP (D + 1) 122 0 [some (mR 2 0 0), some (mI x1), some (mI x2)] [] (hp L mi rs) K ↔ WP D 114 0 (mEntry 114 [mR 2 0 0]) [] (hp L mi rs) (Bk (D + 1) 122 4 [some (mR 2 0 0), some (mI x1), some (mI x2)] [] K) :=
  (WP_k 2).trans ((show (∃ n, wp (n + 2) (D + 1) 122 0 [some (mR 2 0 0), some (mI x1), some (mI x2)] [] (hp L mi rs) K) ↔ (∃ n, wp n D 114 0 (mEntry 114 [mR 2 0 0]) [] (hp L mi rs) (Bkn n (D + 1) 122 4 [some (mR 2 0 0), some (mI x1), some (mI x2)] [] K)) from Iff.rfl).trans (ex_Bk))
set_option maxRecDepth 20000 in
theorem B122_4 {D L : Nat} {mi : mMi} {rs : mRs} {K : mOut → mH → Prop} {x1 : Int32} {x2 : Int32}   : WP (D + 1) 122 4 [some (mR 2 0 0), some (mI x1), some (mI x2)] [] (hp L mi rs) K ↔ WP D 80 0 (mEntry 80 [mR 1 0 0, mI x1]) [] (hp L mi rs) (Bk (D + 1) 122 13 [some (mR 2 0 0), some (mI x1), some (mI x2)] [(mI x2)] K) :=
  (WP_k 5).trans ((show (∃ n, wp (n + 5) (D + 1) 122 4 [some (mR 2 0 0), some (mI x1), some (mI x2)] [] (hp L mi rs) K) ↔ (∃ n, wp n D 80 0 (mEntry 80 [mR 1 0 0, mI x1]) [] (hp L mi rs) (Bkn n (D + 1) 122 13 [some (mR 2 0 0), some (mI x1), some (mI x2)] [(mI x2)] K)) from Iff.rfl).trans (ex_Bk))
set_option maxRecDepth 20000 in
theorem B122_13 {D L : Nat} {mi : mMi} {rs : mRs} {K : mOut → mH → Prop} {x1 : Int32} {x2 : Int32} {s0 : Int32} {s1 : Int32}   : WP (D + 1) 122 13 [some (mR 2 0 0), some (mI x1), some (mI x2)] [(mI s1), (mI s0)] (hp L mi rs) K ↔ WP D 106 0 (mEntry 106 [mI s0, mI s1]) [] (hp L mi rs) (Bk (D + 1) 122 16 [some (mR 2 0 0), some (mI x1), some (mI x2)] [] K) :=
  (WP_k 1).trans ((show (∃ n, wp (n + 1) (D + 1) 122 13 [some (mR 2 0 0), some (mI x1), some (mI x2)] [(mI s1), (mI s0)] (hp L mi rs) K) ↔ (∃ n, wp n D 106 0 (mEntry 106 [mI s0, mI s1]) [] (hp L mi rs) (Bkn n (D + 1) 122 16 [some (mR 2 0 0), some (mI x1), some (mI x2)] [] K)) from Iff.rfl).trans (ex_Bk))
set_option maxRecDepth 20000 in
theorem B122_16 {D L : Nat} {mi : mMi} {rs : mRs} {K : mOut → mH → Prop} {x1 : Int32} {x2 : Int32}   : WP (D + 1) 122 16 [some (mR 2 0 0), some (mI x1), some (mI x2)] [] (hp L mi rs) K ↔ K (.inl none) (hp L mi rs) :=
  (WP_k 1).trans ((show (∃ n, wp (n + 1) (D + 1) 122 16 [some (mR 2 0 0), some (mI x1), some (mI x2)] [] (hp L mi rs) K) ↔ (∃ n, K (.inl none) (hp L mi rs)) from Iff.rfl).trans (ex_one))
set_option maxRecDepth 20000 in
theorem B123_0 {D L : Nat} {mi : mMi} {rs : mRs} {K : mOut → mH → Prop} {x1 : Int32} {x2 : Int32} {x3 : Int32}   : WP (D + 1) 123 0 [some (mR 2 0 0), some (mI x1), some (mI x2), some (mI x3), none] [] (hp L mi rs) K ↔ WP D 122 0 (mEntry 122 [mR 2 0 0, mI x1, mI x2]) [] (hp L mi rs) (Bk (D + 1) 123 6 [some (mR 2 0 0), some (mI x1), some (mI x2), some (mI x3), none] [] K) :=
  (WP_k 4).trans ((show (∃ n, wp (n + 4) (D + 1) 123 0 [some (mR 2 0 0), some (mI x1), some (mI x2), some (mI x3), none] [] (hp L mi rs) K) ↔ (∃ n, wp n D 122 0 (mEntry 122 [mR 2 0 0, mI x1, mI x2]) [] (hp L mi rs) (Bkn n (D + 1) 123 6 [some (mR 2 0 0), some (mI x1), some (mI x2), some (mI x3), none] [] K)) from Iff.rfl).trans (ex_Bk))
set_option maxRecDepth 20000 in
theorem B123_6 {D L : Nat} {mi : mMi} {rs : mRs} {K : mOut → mH → Prop} {x1 : Int32} {x2 : Int32} {x3 : Int32}   : WP (D + 1) 123 6 [some (mR 2 0 0), some (mI x1), some (mI x2), some (mI x3), none] [] (hp L mi rs) K ↔ WP D 117 0 (mEntry 117 [mI x3, mI (N 0), mI (N 3)]) [] (hp L mi rs) (Bk (D + 1) 123 12 [some (mR 2 0 0), some (mI x1), some (mI x2), some (mI x3), none] [] K) :=
  (WP_k 4).trans ((show (∃ n, wp (n + 4) (D + 1) 123 6 [some (mR 2 0 0), some (mI x1), some (mI x2), some (mI x3), none] [] (hp L mi rs) K) ↔ (∃ n, wp n D 117 0 (mEntry 117 [mI x3, mI (N 0), mI (N 3)]) [] (hp L mi rs) (Bkn n (D + 1) 123 12 [some (mR 2 0 0), some (mI x1), some (mI x2), some (mI x3), none] [] K)) from Iff.rfl).trans (ex_Bk))
set_option maxRecDepth 20000 in
theorem B123_12 {D L : Nat} {mi : mMi} {rs : mRs} {K : mOut → mH → Prop} {x1 : Int32} {x2 : Int32} {x3 : Int32}   : WP (D + 1) 123 12 [some (mR 2 0 0), some (mI x1), some (mI x2), some (mI x3), none] [] (hp L mi rs) K ↔ WP D 81 0 (mEntry 81 [mR 1 0 0, mI x1, mI x2]) [] (hp L mi rs) (Bk (D + 1) 123 21 [some (mR 2 0 0), some (mI x1), some (mI x2), some (mI x3), none] [] K) :=
  (WP_k 5).trans ((show (∃ n, wp (n + 5) (D + 1) 123 12 [some (mR 2 0 0), some (mI x1), some (mI x2), some (mI x3), none] [] (hp L mi rs) K) ↔ (∃ n, wp n D 81 0 (mEntry 81 [mR 1 0 0, mI x1, mI x2]) [] (hp L mi rs) (Bkn n (D + 1) 123 21 [some (mR 2 0 0), some (mI x1), some (mI x2), some (mI x3), none] [] K)) from Iff.rfl).trans (ex_Bk))
set_option maxRecDepth 20000 in
theorem B123_21 {D L : Nat} {mi : mMi} {rs : mRs} {K : mOut → mH → Prop} {x1 : Int32} {x2 : Int32} {x3 : Int32} {s0 : Int32}   : WP (D + 1) 123 21 [some (mR 2 0 0), some (mI x1), some (mI x2), some (mI x3), none] [(mI s0)] (hp L mi rs) K ↔ WP D 52 0 (mEntry 52 [mR 0 0 1, mI s0]) [] (hp L mi rs) (Bk (D + 1) 123 35 [some (mR 2 0 0), some (mI x1), some (mI x2), some (mI x3), some (mI s0)] [] K) :=
  (WP_k 6).trans ((show (∃ n, wp (n + 6) (D + 1) 123 21 [some (mR 2 0 0), some (mI x1), some (mI x2), some (mI x3), none] [(mI s0)] (hp L mi rs) K) ↔ (∃ n, wp n D 52 0 (mEntry 52 [mR 0 0 1, mI s0]) [] (hp L mi rs) (Bkn n (D + 1) 123 35 [some (mR 2 0 0), some (mI x1), some (mI x2), some (mI x3), some (mI s0)] [] K)) from Iff.rfl).trans (ex_Bk))
set_option maxRecDepth 20000 in
theorem B123_35 {D L : Nat} {mi : mMi} {rs : mRs} {K : mOut → mH → Prop} {x1 : Int32} {x2 : Int32} {x3 : Int32} {x4 : Int32} {s0 : Int32}   : WP (D + 1) 123 35 [some (mR 2 0 0), some (mI x1), some (mI x2), some (mI x3), some (mI x4)] [(mI s0)] (hp L mi rs) K ↔ mif (decide (s0 ≠ (N 0))) (WP (D + 1) 123 40 [some (mR 2 0 0), some (mI x1), some (mI x2), some (mI x3), some (mI x4)] [] (hp L mi rs) K) (WP (D + 1) 123 38 [some (mR 2 0 0), some (mI x1), some (mI x2), some (mI x3), some (mI x4)] [] (hp L mi rs) K) :=
  (WP_k 1).trans ((show (∃ n, wp (n + 1) (D + 1) 123 35 [some (mR 2 0 0), some (mI x1), some (mI x2), some (mI x3), some (mI x4)] [(mI s0)] (hp L mi rs) K) ↔ (∃ n, mif (decide (s0 ≠ (N 0))) (wp n (D + 1) 123 40 [some (mR 2 0 0), some (mI x1), some (mI x2), some (mI x3), some (mI x4)] [] (hp L mi rs) K) (wp n (D + 1) 123 38 [some (mR 2 0 0), some (mI x1), some (mI x2), some (mI x3), some (mI x4)] [] (hp L mi rs) K)) from Iff.rfl).trans (ex_mif))
set_option maxRecDepth 20000 in
theorem B123_38 {D L : Nat} {mi : mMi} {rs : mRs} {K : mOut → mH → Prop} {x1 : Int32} {x2 : Int32} {x3 : Int32} {x4 : Int32}   : WP (D + 1) 123 38 [some (mR 2 0 0), some (mI x1), some (mI x2), some (mI x3), some (mI x4)] [] (hp L mi rs) K ↔ K (.inl (some (mI (I (-1))))) (hp L mi rs) :=
  (WP_k 2).trans ((show (∃ n, wp (n + 2) (D + 1) 123 38 [some (mR 2 0 0), some (mI x1), some (mI x2), some (mI x3), some (mI x4)] [] (hp L mi rs) K) ↔ (∃ n, K (.inl (some (mI (I (-1))))) (hp L mi rs)) from Iff.rfl).trans (ex_one))
set_option maxRecDepth 20000 in
theorem B123_40 {D L : Nat} {mi : mMi} {rs : mRs} {K : mOut → mH → Prop} {x1 : Int32} {x2 : Int32} {x3 : Int32} {x4 : Int32}   : WP (D + 1) 123 40 [some (mR 2 0 0), some (mI x1), some (mI x2), some (mI x3), some (mI x4)] [] (hp L mi rs) K ↔ WP D 85 0 (mEntry 85 [mR 2 2 0, mR 0 0 0]) [] (hp L mi rs) (Bk (D + 1) 123 51 [some (mR 2 0 0), some (mI x1), some (mI x2), some (mI x3), some (mI x4)] [] K) :=
  (WP_k 5).trans ((show (∃ n, wp (n + 5) (D + 1) 123 40 [some (mR 2 0 0), some (mI x1), some (mI x2), some (mI x3), some (mI x4)] [] (hp L mi rs) K) ↔ (∃ n, wp n D 85 0 (mEntry 85 [mR 2 2 0, mR 0 0 0]) [] (hp L mi rs) (Bkn n (D + 1) 123 51 [some (mR 2 0 0), some (mI x1), some (mI x2), some (mI x3), some (mI x4)] [] K)) from Iff.rfl).trans (ex_Bk))
set_option maxRecDepth 20000 in
theorem B123_51 {D L : Nat} {mi : mMi} {rs : mRs} {K : mOut → mH → Prop} {x1 : Int32} {x2 : Int32} {x3 : Int32} {x4 : Int32}   : WP (D + 1) 123 51 [some (mR 2 0 0), some (mI x1), some (mI x2), some (mI x3), some (mI x4)] [] (hp L mi rs) K ↔ mTsw x3 52 67 0 2 #[28, 42, 53] (fun t9 => WP (D + 1) 123 t9 [some (mR 2 0 0), some (mI x1), some (mI x2), some (mI x3), some (mI x4)] [] (hp L mi rs) K) :=
  (WP_k 2).trans ((show (∃ n, wp (n + 2) (D + 1) 123 51 [some (mR 2 0 0), some (mI x1), some (mI x2), some (mI x3), some (mI x4)] [] (hp L mi rs) K) ↔ (∃ n, mTsw x3 52 67 0 2 #[28, 42, 53] (fun t9 => wp n (D + 1) 123 t9 [some (mR 2 0 0), some (mI x1), some (mI x2), some (mI x3), some (mI x4)] [] (hp L mi rs) K)) from Iff.rfl).trans (ex_tsw))
set_option maxRecDepth 20000 in
theorem B123_80 {D L : Nat} {mi : mMi} {rs : mRs} {K : mOut → mH → Prop} {x1 : Int32} {x2 : Int32} {x3 : Int32} {x4 : Int32}   : WP (D + 1) 123 80 [some (mR 2 0 0), some (mI x1), some (mI x2), some (mI x3), some (mI x4)] [] (hp L mi rs) K ↔ mck (mIn x4 96) (K (.inl (some (mI (mi 0 0 6 (mix x4))))) (hp L mi rs)) :=
  (WP_k 7).trans ((show (∃ n, wp (n + 7) (D + 1) 123 80 [some (mR 2 0 0), some (mI x1), some (mI x2), some (mI x3), some (mI x4)] [] (hp L mi rs) K) ↔ (∃ n, mck (mIn x4 96) (K (.inl (some (mI (mi 0 0 6 (mix x4))))) (hp L mi rs))) from Iff.rfl).trans (ex_mck.trans (mck_c (ex_one))))
set_option maxRecDepth 20000 in
theorem B123_94 {D L : Nat} {mi : mMi} {rs : mRs} {K : mOut → mH → Prop} {x1 : Int32} {x2 : Int32} {x3 : Int32} {x4 : Int32}   : WP (D + 1) 123 94 [some (mR 2 0 0), some (mI x1), some (mI x2), some (mI x3), some (mI x4)] [] (hp L mi rs) K ↔ mck (mIn x4 96) (K (.inl (some (mI (mi 2 2 2 (mix x4))))) (hp L mi rs)) :=
  (WP_k 6).trans ((show (∃ n, wp (n + 6) (D + 1) 123 94 [some (mR 2 0 0), some (mI x1), some (mI x2), some (mI x3), some (mI x4)] [] (hp L mi rs) K) ↔ (∃ n, mck (mIn x4 96) (K (.inl (some (mI (mi 2 2 2 (mix x4))))) (hp L mi rs))) from Iff.rfl).trans (ex_mck.trans (mck_c (ex_one))))
set_option maxRecDepth 20000 in
theorem B123_105 {D L : Nat} {mi : mMi} {rs : mRs} {K : mOut → mH → Prop} {x1 : Int32} {x2 : Int32} {x3 : Int32} {x4 : Int32}   : WP (D + 1) 123 105 [some (mR 2 0 0), some (mI x1), some (mI x2), some (mI x3), some (mI x4)] [] (hp L mi rs) K ↔ mck (mIn x4 96) (WP D 109 0 (mEntry 109 [mI (mi 2 2 2 (mix x4))]) [] (hp L mi rs) (Bk (D + 1) 123 118 [some (mR 2 0 0), some (mI x1), some (mI x2), some (mI x3), some (mI x4)] [] K)) :=
  (WP_k 6).trans ((show (∃ n, wp (n + 6) (D + 1) 123 105 [some (mR 2 0 0), some (mI x1), some (mI x2), some (mI x3), some (mI x4)] [] (hp L mi rs) K) ↔ (∃ n, mck (mIn x4 96) (wp n D 109 0 (mEntry 109 [mI (mi 2 2 2 (mix x4))]) [] (hp L mi rs) (Bkn n (D + 1) 123 118 [some (mR 2 0 0), some (mI x1), some (mI x2), some (mI x3), some (mI x4)] [] K))) from Iff.rfl).trans (ex_mck.trans (mck_c (ex_Bk))))
set_option maxRecDepth 20000 in
theorem B123_118 {D L : Nat} {mi : mMi} {rs : mRs} {K : mOut → mH → Prop} {x1 : Int32} {x2 : Int32} {x3 : Int32} {x4 : Int32} {s0 : Int32}   : WP (D + 1) 123 118 [some (mR 2 0 0), some (mI x1), some (mI x2), some (mI x3), some (mI x4)] [(mI s0)] (hp L mi rs) K ↔ K (.inl (some (mI s0))) (hp L mi rs) :=
  (WP_k 1).trans ((show (∃ n, wp (n + 1) (D + 1) 123 118 [some (mR 2 0 0), some (mI x1), some (mI x2), some (mI x3), some (mI x4)] [(mI s0)] (hp L mi rs) K) ↔ (∃ n, K (.inl (some (mI s0))) (hp L mi rs)) from Iff.rfl).trans (ex_one))
set_option maxRecDepth 20000 in
theorem B123_119 {D L : Nat} {mi : mMi} {rs : mRs} {K : mOut → mH → Prop} {x1 : Int32} {x2 : Int32} {x3 : Int32} {x4 : Int32}   : WP (D + 1) 123 119 [some (mR 2 0 0), some (mI x1), some (mI x2), some (mI x3), some (mI x4)] [] (hp L mi rs) K ↔ mck (mIn x4 96) (WP D 108 0 (mEntry 108 [mI (mi 2 2 2 (mix x4))]) [] (hp L mi rs) (Bk (D + 1) 123 132 [some (mR 2 0 0), some (mI x1), some (mI x2), some (mI x3), some (mI x4)] [] K)) :=
  (WP_k 6).trans ((show (∃ n, wp (n + 6) (D + 1) 123 119 [some (mR 2 0 0), some (mI x1), some (mI x2), some (mI x3), some (mI x4)] [] (hp L mi rs) K) ↔ (∃ n, mck (mIn x4 96) (wp n D 108 0 (mEntry 108 [mI (mi 2 2 2 (mix x4))]) [] (hp L mi rs) (Bkn n (D + 1) 123 132 [some (mR 2 0 0), some (mI x1), some (mI x2), some (mI x3), some (mI x4)] [] K))) from Iff.rfl).trans (ex_mck.trans (mck_c (ex_Bk))))
set_option maxRecDepth 20000 in
theorem B123_132 {D L : Nat} {mi : mMi} {rs : mRs} {K : mOut → mH → Prop} {x1 : Int32} {x2 : Int32} {x3 : Int32} {x4 : Int32} {s0 : Int32}   : WP (D + 1) 123 132 [some (mR 2 0 0), some (mI x1), some (mI x2), some (mI x3), some (mI x4)] [(mI s0)] (hp L mi rs) K ↔ K (.inl (some (mI s0))) (hp L mi rs) :=
  (WP_k 1).trans ((show (∃ n, wp (n + 1) (D + 1) 123 132 [some (mR 2 0 0), some (mI x1), some (mI x2), some (mI x3), some (mI x4)] [(mI s0)] (hp L mi rs) K) ↔ (∃ n, K (.inl (some (mI s0))) (hp L mi rs)) from Iff.rfl).trans (ex_one))
set_option maxRecDepth 20000 in
theorem B124_0 {D L : Nat} {mi : mMi} {rs : mRs} {K : mOut → mH → Prop} {x1 : Int32} {x2 : Int32}   : WP (D + 1) 124 0 [some (mR 2 0 0), some (mI x1), some (mI x2)] [] (hp L mi rs) K ↔ WP D 114 0 (mEntry 114 [mR 2 0 0]) [] (hp L mi rs) (Bk (D + 1) 124 4 [some (mR 2 0 0), some (mI x1), some (mI x2)] [] K) :=
  (WP_k 2).trans ((show (∃ n, wp (n + 2) (D + 1) 124 0 [some (mR 2 0 0), some (mI x1), some (mI x2)] [] (hp L mi rs) K) ↔ (∃ n, wp n D 114 0 (mEntry 114 [mR 2 0 0]) [] (hp L mi rs) (Bkn n (D + 1) 124 4 [some (mR 2 0 0), some (mI x1), some (mI x2)] [] K)) from Iff.rfl).trans (ex_Bk))
set_option maxRecDepth 20000 in
theorem B124_4 {D L : Nat} {mi : mMi} {rs : mRs} {K : mOut → mH → Prop} {x1 : Int32} {x2 : Int32}   : WP (D + 1) 124 4 [some (mR 2 0 0), some (mI x1), some (mI x2)] [] (hp L mi rs) K ↔ WP D 47 0 (mEntry 47 [mR 0 0 7]) [] (hp L mi rs) (Bk (D + 1) 124 15 [some (mR 2 0 0), some (mI x1), some (mI x2)] [(mI x1)] K) :=
  (WP_k 5).trans ((show (∃ n, wp (n + 5) (D + 1) 124 4 [some (mR 2 0 0), some (mI x1), some (mI x2)] [] (hp L mi rs) K) ↔ (∃ n, wp n D 47 0 (mEntry 47 [mR 0 0 7]) [] (hp L mi rs) (Bkn n (D + 1) 124 15 [some (mR 2 0 0), some (mI x1), some (mI x2)] [(mI x1)] K)) from Iff.rfl).trans (ex_Bk))
set_option maxRecDepth 20000 in
theorem B124_15 {D L : Nat} {mi : mMi} {rs : mRs} {K : mOut → mH → Prop} {x1 : Int32} {x2 : Int32} {s0 : Int32} {s1 : Int32}   : WP (D + 1) 124 15 [some (mR 2 0 0), some (mI x1), some (mI x2)] [(mI s1), (mI s0)] (hp L mi rs) K ↔ WP D 106 0 (mEntry 106 [mI s0, mI s1]) [] (hp L mi rs) (Bk (D + 1) 124 18 [some (mR 2 0 0), some (mI x1), some (mI x2)] [] K) :=
  (WP_k 1).trans ((show (∃ n, wp (n + 1) (D + 1) 124 15 [some (mR 2 0 0), some (mI x1), some (mI x2)] [(mI s1), (mI s0)] (hp L mi rs) K) ↔ (∃ n, wp n D 106 0 (mEntry 106 [mI s0, mI s1]) [] (hp L mi rs) (Bkn n (D + 1) 124 18 [some (mR 2 0 0), some (mI x1), some (mI x2)] [] K)) from Iff.rfl).trans (ex_Bk))
set_option maxRecDepth 20000 in
theorem B124_18 {D L : Nat} {mi : mMi} {rs : mRs} {K : mOut → mH → Prop} {x1 : Int32} {x2 : Int32}   : WP (D + 1) 124 18 [some (mR 2 0 0), some (mI x1), some (mI x2)] [] (hp L mi rs) K ↔ WP D 117 0 (mEntry 117 [mI x2, mI (N 0), mI (N 4)]) [] (hp L mi rs) (Bk (D + 1) 124 24 [some (mR 2 0 0), some (mI x1), some (mI x2)] [] K) :=
  (WP_k 4).trans ((show (∃ n, wp (n + 4) (D + 1) 124 18 [some (mR 2 0 0), some (mI x1), some (mI x2)] [] (hp L mi rs) K) ↔ (∃ n, wp n D 117 0 (mEntry 117 [mI x2, mI (N 0), mI (N 4)]) [] (hp L mi rs) (Bkn n (D + 1) 124 24 [some (mR 2 0 0), some (mI x1), some (mI x2)] [] K)) from Iff.rfl).trans (ex_Bk))
set_option maxRecDepth 20000 in
theorem B124_24 {D L : Nat} {mi : mMi} {rs : mRs} {K : mOut → mH → Prop} {x1 : Int32} {x2 : Int32}   : WP (D + 1) 124 24 [some (mR 2 0 0), some (mI x1), some (mI x2)] [] (hp L mi rs) K ↔ WP D 48 0 (mEntry 48 [mR 0 0 7, mI x1, mI x2]) [] (hp L mi rs) (Bk (D + 1) 124 36 [some (mR 2 0 0), some (mI x1), some (mI x2)] [] K) :=
  (WP_k 6).trans ((show (∃ n, wp (n + 6) (D + 1) 124 24 [some (mR 2 0 0), some (mI x1), some (mI x2)] [] (hp L mi rs) K) ↔ (∃ n, wp n D 48 0 (mEntry 48 [mR 0 0 7, mI x1, mI x2]) [] (hp L mi rs) (Bkn n (D + 1) 124 36 [some (mR 2 0 0), some (mI x1), some (mI x2)] [] K)) from Iff.rfl).trans (ex_Bk))
set_option maxRecDepth 20000 in
theorem B124_36 {D L : Nat} {mi : mMi} {rs : mRs} {K : mOut → mH → Prop} {x1 : Int32} {x2 : Int32} {s0 : Int32}   : WP (D + 1) 124 36 [some (mR 2 0 0), some (mI x1), some (mI x2)] [(mI s0)] (hp L mi rs) K ↔ K (.inl (some (mI s0))) (hp L mi rs) :=
  (WP_k 1).trans ((show (∃ n, wp (n + 1) (D + 1) 124 36 [some (mR 2 0 0), some (mI x1), some (mI x2)] [(mI s0)] (hp L mi rs) K) ↔ (∃ n, K (.inl (some (mI s0))) (hp L mi rs)) from Iff.rfl).trans (ex_one))
set_option maxRecDepth 20000 in
theorem B125_0 {D L : Nat} {mi : mMi} {rs : mRs} {K : mOut → mH → Prop} {x1 : Int32}   : WP (D + 1) 125 0 [some (mR 2 0 0), some (mI x1)] [] (hp L mi rs) K ↔ WP D 114 0 (mEntry 114 [mR 2 0 0]) [] (hp L mi rs) (Bk (D + 1) 125 4 [some (mR 2 0 0), some (mI x1)] [] K) :=
  (WP_k 2).trans ((show (∃ n, wp (n + 2) (D + 1) 125 0 [some (mR 2 0 0), some (mI x1)] [] (hp L mi rs) K) ↔ (∃ n, wp n D 114 0 (mEntry 114 [mR 2 0 0]) [] (hp L mi rs) (Bkn n (D + 1) 125 4 [some (mR 2 0 0), some (mI x1)] [] K)) from Iff.rfl).trans (ex_Bk))
set_option maxRecDepth 20000 in
theorem B125_4 {D L : Nat} {mi : mMi} {rs : mRs} {K : mOut → mH → Prop} {x1 : Int32}   : WP (D + 1) 125 4 [some (mR 2 0 0), some (mI x1)] [] (hp L mi rs) K ↔ WP D 6 0 (mEntry 6 [mR 0 0 10]) [] (hp L mi rs) (Bk (D + 1) 125 15 [some (mR 2 0 0), some (mI x1)] [(mI x1)] K) :=
  (WP_k 5).trans ((show (∃ n, wp (n + 5) (D + 1) 125 4 [some (mR 2 0 0), some (mI x1)] [] (hp L mi rs) K) ↔ (∃ n, wp n D 6 0 (mEntry 6 [mR 0 0 10]) [] (hp L mi rs) (Bkn n (D + 1) 125 15 [some (mR 2 0 0), some (mI x1)] [(mI x1)] K)) from Iff.rfl).trans (ex_Bk))
set_option maxRecDepth 20000 in
theorem B125_15 {D L : Nat} {mi : mMi} {rs : mRs} {K : mOut → mH → Prop} {x1 : Int32} {s0 : Int32} {s1 : Int32}   : WP (D + 1) 125 15 [some (mR 2 0 0), some (mI x1)] [(mI s1), (mI s0)] (hp L mi rs) K ↔ WP D 106 0 (mEntry 106 [mI s0, mI s1]) [] (hp L mi rs) (Bk (D + 1) 125 18 [some (mR 2 0 0), some (mI x1)] [] K) :=
  (WP_k 1).trans ((show (∃ n, wp (n + 1) (D + 1) 125 15 [some (mR 2 0 0), some (mI x1)] [(mI s1), (mI s0)] (hp L mi rs) K) ↔ (∃ n, wp n D 106 0 (mEntry 106 [mI s0, mI s1]) [] (hp L mi rs) (Bkn n (D + 1) 125 18 [some (mR 2 0 0), some (mI x1)] [] K)) from Iff.rfl).trans (ex_Bk))
set_option maxRecDepth 20000 in
theorem B125_18 {D L : Nat} {mi : mMi} {rs : mRs} {K : mOut → mH → Prop} {x1 : Int32}   : WP (D + 1) 125 18 [some (mR 2 0 0), some (mI x1)] [] (hp L mi rs) K ↔ WP D 7 0 (mEntry 7 [mR 0 0 10, mI x1]) [] (hp L mi rs) (Bk (D + 1) 125 29 [some (mR 2 0 0), some (mI x1)] [] K) :=
  (WP_k 5).trans ((show (∃ n, wp (n + 5) (D + 1) 125 18 [some (mR 2 0 0), some (mI x1)] [] (hp L mi rs) K) ↔ (∃ n, wp n D 7 0 (mEntry 7 [mR 0 0 10, mI x1]) [] (hp L mi rs) (Bkn n (D + 1) 125 29 [some (mR 2 0 0), some (mI x1)] [] K)) from Iff.rfl).trans (ex_Bk))
set_option maxRecDepth 20000 in
theorem B125_29 {D L : Nat} {mi : mMi} {rs : mRs} {K : mOut → mH → Prop} {x1 : Int32} {s0 : Int32}   : WP (D + 1) 125 29 [some (mR 2 0 0), some (mI x1)] [(mI s0)] (hp L mi rs) K ↔ K (.inl (some (mI s0))) (hp L mi rs) :=
  (WP_k 1).trans ((show (∃ n, wp (n + 1) (D + 1) 125 29 [some (mR 2 0 0), some (mI x1)] [(mI s0)] (hp L mi rs) K) ↔ (∃ n, K (.inl (some (mI s0))) (hp L mi rs)) from Iff.rfl).trans (ex_one))
set_option maxRecDepth 20000 in
theorem B126_0 {D L : Nat} {mi : mMi} {rs : mRs} {K : mOut → mH → Prop} {x1 : Int32}   : WP (D + 1) 126 0 [some (mR 2 0 0), some (mI x1)] [] (hp L mi rs) K ↔ WP D 114 0 (mEntry 114 [mR 2 0 0]) [] (hp L mi rs) (Bk (D + 1) 126 4 [some (mR 2 0 0), some (mI x1)] [] K) :=
  (WP_k 2).trans ((show (∃ n, wp (n + 2) (D + 1) 126 0 [some (mR 2 0 0), some (mI x1)] [] (hp L mi rs) K) ↔ (∃ n, wp n D 114 0 (mEntry 114 [mR 2 0 0]) [] (hp L mi rs) (Bkn n (D + 1) 126 4 [some (mR 2 0 0), some (mI x1)] [] K)) from Iff.rfl).trans (ex_Bk))
set_option maxRecDepth 20000 in
theorem B126_4 {D L : Nat} {mi : mMi} {rs : mRs} {K : mOut → mH → Prop} {x1 : Int32}   : WP (D + 1) 126 4 [some (mR 2 0 0), some (mI x1)] [] (hp L mi rs) K ↔ WP D 106 0 (mEntry 106 [mI x1, mI (mi 0 0 10 5)]) [] (hp L mi rs) (Bk (D + 1) 126 18 [some (mR 2 0 0), some (mI x1)] [] K) :=
  (WP_k 6).trans ((show (∃ n, wp (n + 6) (D + 1) 126 4 [some (mR 2 0 0), some (mI x1)] [] (hp L mi rs) K) ↔ (∃ n, wp n D 106 0 (mEntry 106 [mI x1, mI (mi 0 0 10 5)]) [] (hp L mi rs) (Bkn n (D + 1) 126 18 [some (mR 2 0 0), some (mI x1)] [] K)) from Iff.rfl).trans (ex_Bk))
set_option maxRecDepth 20000 in
theorem B126_18 {D L : Nat} {mi : mMi} {rs : mRs} {K : mOut → mH → Prop} {x1 : Int32}   : WP (D + 1) 126 18 [some (mR 2 0 0), some (mI x1)] [] (hp L mi rs) K ↔ mck (mIn x1 40) (K (.inl (some (mI (mi 0 0 14 (mix x1))))) (hp L mi rs)) :=
  (WP_k 7).trans ((show (∃ n, wp (n + 7) (D + 1) 126 18 [some (mR 2 0 0), some (mI x1)] [] (hp L mi rs) K) ↔ (∃ n, mck (mIn x1 40) (K (.inl (some (mI (mi 0 0 14 (mix x1))))) (hp L mi rs))) from Iff.rfl).trans (ex_mck.trans (mck_c (ex_one))))
set_option maxRecDepth 20000 in
theorem B127_0 {D L : Nat} {mi : mMi} {rs : mRs} {K : mOut → mH → Prop} {x1 : Int32} {x2 : Int32}   : WP (D + 1) 127 0 [some (mR 2 0 0), some (mI x1), some (mI x2)] [] (hp L mi rs) K ↔ WP D 122 0 (mEntry 122 [mR 2 0 0, mI x1, mI x2]) [] (hp L mi rs) (Bk (D + 1) 127 6 [some (mR 2 0 0), some (mI x1), some (mI x2)] [] K) :=
  (WP_k 4).trans ((show (∃ n, wp (n + 4) (D + 1) 127 0 [some (mR 2 0 0), some (mI x1), some (mI x2)] [] (hp L mi rs) K) ↔ (∃ n, wp n D 122 0 (mEntry 122 [mR 2 0 0, mI x1, mI x2]) [] (hp L mi rs) (Bkn n (D + 1) 127 6 [some (mR 2 0 0), some (mI x1), some (mI x2)] [] K)) from Iff.rfl).trans (ex_Bk))
set_option maxRecDepth 20000 in
theorem B127_6 {D L : Nat} {mi : mMi} {rs : mRs} {K : mOut → mH → Prop} {x1 : Int32} {x2 : Int32}   : WP (D + 1) 127 6 [some (mR 2 0 0), some (mI x1), some (mI x2)] [] (hp L mi rs) K ↔ WP D 12 0 (mEntry 12 [mR 0 0 0, mI x1, mI x2]) [] (hp L mi rs) (Bk (D + 1) 127 15 [some (mR 2 0 0), some (mI x1), some (mI x2)] [] K) :=
  (WP_k 5).trans ((show (∃ n, wp (n + 5) (D + 1) 127 6 [some (mR 2 0 0), some (mI x1), some (mI x2)] [] (hp L mi rs) K) ↔ (∃ n, wp n D 12 0 (mEntry 12 [mR 0 0 0, mI x1, mI x2]) [] (hp L mi rs) (Bkn n (D + 1) 127 15 [some (mR 2 0 0), some (mI x1), some (mI x2)] [] K)) from Iff.rfl).trans (ex_Bk))
set_option maxRecDepth 20000 in
theorem B127_15 {D L : Nat} {mi : mMi} {rs : mRs} {K : mOut → mH → Prop} {x1 : Int32} {x2 : Int32} {s0 : Int32}   : WP (D + 1) 127 15 [some (mR 2 0 0), some (mI x1), some (mI x2)] [(mI s0)] (hp L mi rs) K ↔ mck (mZ s0 || false) (K (.inl (some (mI s0))) (hp L mi rs)) :=
  (WP_k 1).trans ((show (∃ n, wp (n + 1) (D + 1) 127 15 [some (mR 2 0 0), some (mI x1), some (mI x2)] [(mI s0)] (hp L mi rs) K) ↔ (∃ n, mck (mZ s0 || false) (K (.inl (some (mI s0))) (hp L mi rs))) from Iff.rfl).trans (ex_mck.trans (mck_c (ex_one))))
set_option maxRecDepth 20000 in
theorem B128_0 {D L : Nat} {mi : mMi} {rs : mRs} {K : mOut → mH → Prop} {x1 : Int32} {x2 : Int32}   : WP (D + 1) 128 0 [some (mR 2 0 0), some (mI x1), some (mI x2)] [] (hp L mi rs) K ↔ WP D 122 0 (mEntry 122 [mR 2 0 0, mI x1, mI x2]) [] (hp L mi rs) (Bk (D + 1) 128 6 [some (mR 2 0 0), some (mI x1), some (mI x2)] [] K) :=
  (WP_k 4).trans ((show (∃ n, wp (n + 4) (D + 1) 128 0 [some (mR 2 0 0), some (mI x1), some (mI x2)] [] (hp L mi rs) K) ↔ (∃ n, wp n D 122 0 (mEntry 122 [mR 2 0 0, mI x1, mI x2]) [] (hp L mi rs) (Bkn n (D + 1) 128 6 [some (mR 2 0 0), some (mI x1), some (mI x2)] [] K)) from Iff.rfl).trans (ex_Bk))
set_option maxRecDepth 20000 in
theorem B128_6 {D L : Nat} {mi : mMi} {rs : mRs} {K : mOut → mH → Prop} {x1 : Int32} {x2 : Int32}   : WP (D + 1) 128 6 [some (mR 2 0 0), some (mI x1), some (mI x2)] [] (hp L mi rs) K ↔ WP D 16 0 (mEntry 16 [mR 0 0 0, mI x1, mI x2]) [] (hp L mi rs) (Bk (D + 1) 128 15 [some (mR 2 0 0), some (mI x1), some (mI x2)] [] K) :=
  (WP_k 5).trans ((show (∃ n, wp (n + 5) (D + 1) 128 6 [some (mR 2 0 0), some (mI x1), some (mI x2)] [] (hp L mi rs) K) ↔ (∃ n, wp n D 16 0 (mEntry 16 [mR 0 0 0, mI x1, mI x2]) [] (hp L mi rs) (Bkn n (D + 1) 128 15 [some (mR 2 0 0), some (mI x1), some (mI x2)] [] K)) from Iff.rfl).trans (ex_Bk))
set_option maxRecDepth 20000 in
theorem B128_15 {D L : Nat} {mi : mMi} {rs : mRs} {K : mOut → mH → Prop} {x1 : Int32} {x2 : Int32} {s0 : Int32}   : WP (D + 1) 128 15 [some (mR 2 0 0), some (mI x1), some (mI x2)] [(mI s0)] (hp L mi rs) K ↔ mck (mZ s0 || false) (K (.inl (some (mI s0))) (hp L mi rs)) :=
  (WP_k 1).trans ((show (∃ n, wp (n + 1) (D + 1) 128 15 [some (mR 2 0 0), some (mI x1), some (mI x2)] [(mI s0)] (hp L mi rs) K) ↔ (∃ n, mck (mZ s0 || false) (K (.inl (some (mI s0))) (hp L mi rs))) from Iff.rfl).trans (ex_mck.trans (mck_c (ex_one))))
set_option maxRecDepth 20000 in
theorem B129_0 {D L : Nat} {mi : mMi} {rs : mRs} {K : mOut → mH → Prop}   : WP (D + 1) 129 0 [some (mR 2 0 0), none, none] [] (hp L mi rs) K ↔ WP D 114 0 (mEntry 114 [mR 2 0 0]) [] (hp L mi rs) (Bk (D + 1) 129 4 [some (mR 2 0 0), none, none] [] K) :=
  (WP_k 2).trans ((show (∃ n, wp (n + 2) (D + 1) 129 0 [some (mR 2 0 0), none, none] [] (hp L mi rs) K) ↔ (∃ n, wp n D 114 0 (mEntry 114 [mR 2 0 0]) [] (hp L mi rs) (Bkn n (D + 1) 129 4 [some (mR 2 0 0), none, none] [] K)) from Iff.rfl).trans (ex_Bk))
set_option maxRecDepth 20000 in
theorem B129_4 {D L : Nat} {mi : mMi} {rs : mRs} {K : mOut → mH → Prop}   : WP (D + 1) 129 4 [some (mR 2 0 0), none, none] [] (hp L mi rs) K ↔ WP (D + 1) 129 8 [some (mR 2 0 0), some (mI (I (-1))), some (mI (N 0))] [] (hp L mi rs) K :=
  (WP_k 4).trans ((show (∃ n, wp (n + 4) (D + 1) 129 4 [some (mR 2 0 0), none, none] [] (hp L mi rs) K) ↔ (∃ n, wp n (D + 1) 129 8 [some (mR 2 0 0), some (mI (I (-1))), some (mI (N 0))] [] (hp L mi rs) K) from Iff.rfl).trans (Iff.rfl))
set_option maxRecDepth 20000 in
theorem B129_8 {D L : Nat} {mi : mMi} {rs : mRs} {K : mOut → mH → Prop} {x1 : Int32} {x2 : Int32}   : WP (D + 1) 129 8 [some (mR 2 0 0), some (mI x1), some (mI x2)] [] (hp L mi rs) K ↔ mif (decide ((N 96) ≤ x2)) (WP (D + 1) 129 39 [some (mR 2 0 0), some (mI x1), some (mI x2)] [] (hp L mi rs) K) (WP (D + 1) 129 14 [some (mR 2 0 0), some (mI x1), some (mI x2)] [] (hp L mi rs) K) :=
  (WP_k 3).trans ((show (∃ n, wp (n + 3) (D + 1) 129 8 [some (mR 2 0 0), some (mI x1), some (mI x2)] [] (hp L mi rs) K) ↔ (∃ n, mif (decide ((N 96) ≤ x2)) (wp n (D + 1) 129 39 [some (mR 2 0 0), some (mI x1), some (mI x2)] [] (hp L mi rs) K) (wp n (D + 1) 129 14 [some (mR 2 0 0), some (mI x1), some (mI x2)] [] (hp L mi rs) K)) from Iff.rfl).trans (ex_mif))
set_option maxRecDepth 20000 in
theorem B129_14 {D L : Nat} {mi : mMi} {rs : mRs} {K : mOut → mH → Prop} {x1 : Int32} {x2 : Int32}   : WP (D + 1) 129 14 [some (mR 2 0 0), some (mI x1), some (mI x2)] [] (hp L mi rs) K ↔ WP D 51 0 (mEntry 51 [mR 0 0 1, mI x2]) [] (hp L mi rs) (Bk (D + 1) 129 25 [some (mR 2 0 0), some (mI x1), some (mI x2)] [] K) :=
  (WP_k 5).trans ((show (∃ n, wp (n + 5) (D + 1) 129 14 [some (mR 2 0 0), some (mI x1), some (mI x2)] [] (hp L mi rs) K) ↔ (∃ n, wp n D 51 0 (mEntry 51 [mR 0 0 1, mI x2]) [] (hp L mi rs) (Bkn n (D + 1) 129 25 [some (mR 2 0 0), some (mI x1), some (mI x2)] [] K)) from Iff.rfl).trans (ex_Bk))
set_option maxRecDepth 20000 in
theorem B129_25 {D L : Nat} {mi : mMi} {rs : mRs} {K : mOut → mH → Prop} {x1 : Int32} {x2 : Int32} {s0 : Int32}   : WP (D + 1) 129 25 [some (mR 2 0 0), some (mI x1), some (mI x2)] [(mI s0)] (hp L mi rs) K ↔ mif (decide (s0 = (N 0))) (WP (D + 1) 129 33 [some (mR 2 0 0), some (mI x1), some (mI x2)] [] (hp L mi rs) K) (WP (D + 1) 129 28 [some (mR 2 0 0), some (mI x1), some (mI x2)] [] (hp L mi rs) K) :=
  (WP_k 1).trans ((show (∃ n, wp (n + 1) (D + 1) 129 25 [some (mR 2 0 0), some (mI x1), some (mI x2)] [(mI s0)] (hp L mi rs) K) ↔ (∃ n, mif (decide (s0 = (N 0))) (wp n (D + 1) 129 33 [some (mR 2 0 0), some (mI x1), some (mI x2)] [] (hp L mi rs) K) (wp n (D + 1) 129 28 [some (mR 2 0 0), some (mI x1), some (mI x2)] [] (hp L mi rs) K)) from Iff.rfl).trans (ex_mif))
set_option maxRecDepth 20000 in
theorem B129_28 {D L : Nat} {mi : mMi} {rs : mRs} {K : mOut → mH → Prop} {x1 : Int32} {x2 : Int32}   : WP (D + 1) 129 28 [some (mR 2 0 0), some (mI x1), some (mI x2)] [] (hp L mi rs) K ↔ WP D 111 0 (mEntry 111 [mI x2]) [] (hp L mi rs) (Bk (D + 1) 129 32 [some (mR 2 0 0), some (mI x1), some (mI x2)] [] K) :=
  (WP_k 2).trans ((show (∃ n, wp (n + 2) (D + 1) 129 28 [some (mR 2 0 0), some (mI x1), some (mI x2)] [] (hp L mi rs) K) ↔ (∃ n, wp n D 111 0 (mEntry 111 [mI x2]) [] (hp L mi rs) (Bkn n (D + 1) 129 32 [some (mR 2 0 0), some (mI x1), some (mI x2)] [] K)) from Iff.rfl).trans (ex_Bk))
set_option maxRecDepth 20000 in
theorem B129_32 {D L : Nat} {mi : mMi} {rs : mRs} {K : mOut → mH → Prop} {x1 : Int32} {x2 : Int32} {s0 : Int32}   : WP (D + 1) 129 32 [some (mR 2 0 0), some (mI x1), some (mI x2)] [(mI s0)] (hp L mi rs) K ↔ WP (D + 1) 129 33 [some (mR 2 0 0), some (mI s0), some (mI x2)] [] (hp L mi rs) K :=
  (WP_k 1).trans ((show (∃ n, wp (n + 1) (D + 1) 129 32 [some (mR 2 0 0), some (mI x1), some (mI x2)] [(mI s0)] (hp L mi rs) K) ↔ (∃ n, wp n (D + 1) 129 33 [some (mR 2 0 0), some (mI s0), some (mI x2)] [] (hp L mi rs) K) from Iff.rfl).trans (Iff.rfl))
set_option maxRecDepth 20000 in
theorem B129_33 {D L : Nat} {mi : mMi} {rs : mRs} {K : mOut → mH → Prop} {x1 : Int32} {x2 : Int32}   : WP (D + 1) 129 33 [some (mR 2 0 0), some (mI x1), some (mI x2)] [] (hp L mi rs) K ↔ WP (D + 1) 129 8 [some (mR 2 0 0), some (mI x1), some (mI (x2 + (N 1)))] [] (hp L mi rs) K :=
  (WP_k 2).trans ((show (∃ n, wp (n + 2) (D + 1) 129 33 [some (mR 2 0 0), some (mI x1), some (mI x2)] [] (hp L mi rs) K) ↔ (∃ n, wp n (D + 1) 129 8 [some (mR 2 0 0), some (mI x1), some (mI (x2 + (N 1)))] [] (hp L mi rs) K) from Iff.rfl).trans (Iff.rfl))
set_option maxRecDepth 20000 in
theorem B129_39 {D L : Nat} {mi : mMi} {rs : mRs} {K : mOut → mH → Prop} {x1 : Int32} {x2 : Int32}   : WP (D + 1) 129 39 [some (mR 2 0 0), some (mI x1), some (mI x2)] [] (hp L mi rs) K ↔ K (.inl (some (mI x1))) (hp L mi rs) :=
  (WP_k 2).trans ((show (∃ n, wp (n + 2) (D + 1) 129 39 [some (mR 2 0 0), some (mI x1), some (mI x2)] [] (hp L mi rs) K) ↔ (∃ n, K (.inl (some (mI x1))) (hp L mi rs)) from Iff.rfl).trans (ex_one))
set_option maxRecDepth 20000 in
theorem B130_0 {D L : Nat} {mi : mMi} {rs : mRs} {K : mOut → mH → Prop}   : WP (D + 1) 130 0 [some (mR 2 0 0)] [] (hp L mi rs) K ↔ WP D 114 0 (mEntry 114 [mR 2 0 0]) [] (hp L mi rs) (Bk (D + 1) 130 4 [some (mR 2 0 0)] [] K) :=
  (WP_k 2).trans ((show (∃ n, wp (n + 2) (D + 1) 130 0 [some (mR 2 0 0)] [] (hp L mi rs) K) ↔ (∃ n, wp n D 114 0 (mEntry 114 [mR 2 0 0]) [] (hp L mi rs) (Bkn n (D + 1) 130 4 [some (mR 2 0 0)] [] K)) from Iff.rfl).trans (ex_Bk))
set_option maxRecDepth 20000 in
theorem B130_4 {D L : Nat} {mi : mMi} {rs : mRs} {K : mOut → mH → Prop}   : WP (D + 1) 130 4 [some (mR 2 0 0)] [] (hp L mi rs) K ↔ WP D 31 0 (mEntry 31 [mR 0 0 0]) [] (hp L mi rs) (Bk (D + 1) 130 11 [some (mR 2 0 0)] [] K) :=
  (WP_k 3).trans ((show (∃ n, wp (n + 3) (D + 1) 130 4 [some (mR 2 0 0)] [] (hp L mi rs) K) ↔ (∃ n, wp n D 31 0 (mEntry 31 [mR 0 0 0]) [] (hp L mi rs) (Bkn n (D + 1) 130 11 [some (mR 2 0 0)] [] K)) from Iff.rfl).trans (ex_Bk))
set_option maxRecDepth 20000 in
theorem B130_11 {D L : Nat} {mi : mMi} {rs : mRs} {K : mOut → mH → Prop} {s0 : Int32}   : WP (D + 1) 130 11 [some (mR 2 0 0)] [(mI s0)] (hp L mi rs) K ↔ WP D 131 0 (mEntry 131 [mI s0]) [] (hp L mi rs) (Bk (D + 1) 130 14 [some (mR 2 0 0)] [] K) :=
  (WP_k 1).trans ((show (∃ n, wp (n + 1) (D + 1) 130 11 [some (mR 2 0 0)] [(mI s0)] (hp L mi rs) K) ↔ (∃ n, wp n D 131 0 (mEntry 131 [mI s0]) [] (hp L mi rs) (Bkn n (D + 1) 130 14 [some (mR 2 0 0)] [] K)) from Iff.rfl).trans (ex_Bk))
set_option maxRecDepth 20000 in
theorem B130_14 {D L : Nat} {mi : mMi} {rs : mRs} {K : mOut → mH → Prop} {s0 : Int32}   : WP (D + 1) 130 14 [some (mR 2 0 0)] [(mI s0)] (hp L mi rs) K ↔ K (.inl (some (mI s0))) (hp L mi rs) :=
  (WP_k 1).trans ((show (∃ n, wp (n + 1) (D + 1) 130 14 [some (mR 2 0 0)] [(mI s0)] (hp L mi rs) K) ↔ (∃ n, K (.inl (some (mI s0))) (hp L mi rs)) from Iff.rfl).trans (ex_one))
set_option maxRecDepth 20000 in
theorem B131_0 {D L : Nat} {mi : mMi} {rs : mRs} {K : mOut → mH → Prop} {x0 : Int32}   : WP (D + 1) 131 0 [some (mI x0)] [] (hp L mi rs) K ↔ mif (decide (x0 ≠ (I (-1)))) (WP (D + 1) 131 9 [some (mI x0)] [] (hp L mi rs) K) (WP (D + 1) 131 5 [some (mI x0)] [] (hp L mi rs) K) :=
  (WP_k 3).trans ((show (∃ n, wp (n + 3) (D + 1) 131 0 [some (mI x0)] [] (hp L mi rs) K) ↔ (∃ n, mif (decide (x0 ≠ (I (-1)))) (wp n (D + 1) 131 9 [some (mI x0)] [] (hp L mi rs) K) (wp n (D + 1) 131 5 [some (mI x0)] [] (hp L mi rs) K)) from Iff.rfl).trans (ex_mif))
set_option maxRecDepth 20000 in
theorem B131_5 {D L : Nat} {mi : mMi} {rs : mRs} {K : mOut → mH → Prop} {x0 : Int32}   : WP (D + 1) 131 5 [some (mI x0)] [] (hp L mi rs) K ↔ WP (D + 1) 131 21 [some (mI x0)] [(mI (I (-1)))] (hp L mi rs) K :=
  (WP_k 2).trans ((show (∃ n, wp (n + 2) (D + 1) 131 5 [some (mI x0)] [] (hp L mi rs) K) ↔ (∃ n, wp n (D + 1) 131 21 [some (mI x0)] [(mI (I (-1)))] (hp L mi rs) K) from Iff.rfl).trans (Iff.rfl))
set_option maxRecDepth 20000 in
theorem B131_9 {D L : Nat} {mi : mMi} {rs : mRs} {K : mOut → mH → Prop} {x0 : Int32}   : WP (D + 1) 131 9 [some (mI x0)] [] (hp L mi rs) K ↔ WP D 111 0 (mEntry 111 [mI x0]) [] (hp L mi rs) (Bk (D + 1) 131 15 [some (mI x0)] [(mI (N 100))] K) :=
  (WP_k 3).trans ((show (∃ n, wp (n + 3) (D + 1) 131 9 [some (mI x0)] [] (hp L mi rs) K) ↔ (∃ n, wp n D 111 0 (mEntry 111 [mI x0]) [] (hp L mi rs) (Bkn n (D + 1) 131 15 [some (mI x0)] [(mI (N 100))] K)) from Iff.rfl).trans (ex_Bk))
set_option maxRecDepth 20000 in
theorem B131_15 {D L : Nat} {mi : mMi} {rs : mRs} {K : mOut → mH → Prop} {x0 : Int32} {s0 : Int32} {s1 : Int32}   : WP (D + 1) 131 15 [some (mI x0)] [(mI s1), (mI s0)] (hp L mi rs) K ↔ WP D 112 0 (mEntry 112 [mI x0]) [] (hp L mi rs) (Bk (D + 1) 131 20 [some (mI x0)] [(mI (s0 * s1))] K) :=
  (WP_k 3).trans ((show (∃ n, wp (n + 3) (D + 1) 131 15 [some (mI x0)] [(mI s1), (mI s0)] (hp L mi rs) K) ↔ (∃ n, wp n D 112 0 (mEntry 112 [mI x0]) [] (hp L mi rs) (Bkn n (D + 1) 131 20 [some (mI x0)] [(mI (s0 * s1))] K)) from Iff.rfl).trans (ex_Bk))
set_option maxRecDepth 20000 in
theorem B131_20 {D L : Nat} {mi : mMi} {rs : mRs} {K : mOut → mH → Prop} {x0 : Int32} {s0 : Int32} {s1 : Int32}   : WP (D + 1) 131 20 [some (mI x0)] [(mI s1), (mI s0)] (hp L mi rs) K ↔ WP (D + 1) 131 21 [some (mI x0)] [(mI (s0 + s1))] (hp L mi rs) K :=
  (WP_k 1).trans ((show (∃ n, wp (n + 1) (D + 1) 131 20 [some (mI x0)] [(mI s1), (mI s0)] (hp L mi rs) K) ↔ (∃ n, wp n (D + 1) 131 21 [some (mI x0)] [(mI (s0 + s1))] (hp L mi rs) K) from Iff.rfl).trans (Iff.rfl))
set_option maxRecDepth 20000 in
theorem B131_21 {D L : Nat} {mi : mMi} {rs : mRs} {K : mOut → mH → Prop} {x0 : Int32} {s0 : Int32}   : WP (D + 1) 131 21 [some (mI x0)] [(mI s0)] (hp L mi rs) K ↔ K (.inl (some (mI s0))) (hp L mi rs) :=
  (WP_k 1).trans ((show (∃ n, wp (n + 1) (D + 1) 131 21 [some (mI x0)] [(mI s0)] (hp L mi rs) K) ↔ (∃ n, K (.inl (some (mI s0))) (hp L mi rs)) from Iff.rfl).trans (ex_one))
set_option maxRecDepth 20000 in
theorem B132_0 {D L : Nat} {mi : mMi} {rs : mRs} {K : mOut → mH → Prop}   : WP (D + 1) 132 0 [some (mR 2 0 0)] [] (hp L mi rs) K ↔ WP D 114 0 (mEntry 114 [mR 2 0 0]) [] (hp L mi rs) (Bk (D + 1) 132 4 [some (mR 2 0 0)] [] K) :=
  (WP_k 2).trans ((show (∃ n, wp (n + 2) (D + 1) 132 0 [some (mR 2 0 0)] [] (hp L mi rs) K) ↔ (∃ n, wp n D 114 0 (mEntry 114 [mR 2 0 0]) [] (hp L mi rs) (Bkn n (D + 1) 132 4 [some (mR 2 0 0)] [] K)) from Iff.rfl).trans (ex_Bk))
set_option maxRecDepth 20000 in
theorem B132_4 {D L : Nat} {mi : mMi} {rs : mRs} {K : mOut → mH → Prop}   : WP (D + 1) 132 4 [some (mR 2 0 0)] [] (hp L mi rs) K ↔ WP D 56 0 (mEntry 56 [mR 0 0 1]) [] (hp L mi rs) (Bk (D + 1) 132 14 [some (mR 2 0 0)] [] K) :=
  (WP_k 4).trans ((show (∃ n, wp (n + 4) (D + 1) 132 4 [some (mR 2 0 0)] [] (hp L mi rs) K) ↔ (∃ n, wp n D 56 0 (mEntry 56 [mR 0 0 1]) [] (hp L mi rs) (Bkn n (D + 1) 132 14 [some (mR 2 0 0)] [] K)) from Iff.rfl).trans (ex_Bk))
set_option maxRecDepth 20000 in
theorem B132_14 {D L : Nat} {mi : mMi} {rs : mRs} {K : mOut → mH → Prop} {s0 : Int32}   : WP (D + 1) 132 14 [some (mR 2 0 0)] [(mI s0)] (hp L mi rs) K ↔ WP D 131 0 (mEntry 131 [mI s0]) [] (hp L mi rs) (Bk (D + 1) 132 17 [some (mR 2 0 0)] [] K) :=
  (WP_k 1).trans ((show (∃ n, wp (n + 1) (D + 1) 132 14 [some (mR 2 0 0)] [(mI s0)] (hp L mi rs) K) ↔ (∃ n, wp n D 131 0 (mEntry 131 [mI s0]) [] (hp L mi rs) (Bkn n (D + 1) 132 17 [some (mR 2 0 0)] [] K)) from Iff.rfl).trans (ex_Bk))
set_option maxRecDepth 20000 in
theorem B132_17 {D L : Nat} {mi : mMi} {rs : mRs} {K : mOut → mH → Prop} {s0 : Int32}   : WP (D + 1) 132 17 [some (mR 2 0 0)] [(mI s0)] (hp L mi rs) K ↔ K (.inl (some (mI s0))) (hp L mi rs) :=
  (WP_k 1).trans ((show (∃ n, wp (n + 1) (D + 1) 132 17 [some (mR 2 0 0)] [(mI s0)] (hp L mi rs) K) ↔ (∃ n, K (.inl (some (mI s0))) (hp L mi rs)) from Iff.rfl).trans (ex_one))
set_option maxRecDepth 20000 in
theorem B133_0 {D L : Nat} {mi : mMi} {rs : mRs} {K : mOut → mH → Prop} {x1 : Int32} {x2 : Int32}   : WP (D + 1) 133 0 [some (mR 2 0 0), some (mI x1), some (mI x2)] [] (hp L mi rs) K ↔ WP D 122 0 (mEntry 122 [mR 2 0 0, mI x1, mI x2]) [] (hp L mi rs) (Bk (D + 1) 133 6 [some (mR 2 0 0), some (mI x1), some (mI x2)] [] K) :=
  (WP_k 4).trans ((show (∃ n, wp (n + 4) (D + 1) 133 0 [some (mR 2 0 0), some (mI x1), some (mI x2)] [] (hp L mi rs) K) ↔ (∃ n, wp n D 122 0 (mEntry 122 [mR 2 0 0, mI x1, mI x2]) [] (hp L mi rs) (Bkn n (D + 1) 133 6 [some (mR 2 0 0), some (mI x1), some (mI x2)] [] K)) from Iff.rfl).trans (ex_Bk))
set_option maxRecDepth 20000 in
theorem B133_6 {D L : Nat} {mi : mMi} {rs : mRs} {K : mOut → mH → Prop} {x1 : Int32} {x2 : Int32}   : WP (D + 1) 133 6 [some (mR 2 0 0), some (mI x1), some (mI x2)] [] (hp L mi rs) K ↔ WP D 18 0 (mEntry 18 [mR 0 1 0, mR 0 0 0]) [] (hp L mi rs) (Bk (D + 1) 133 17 [some (mR 2 0 0), some (mI x1), some (mI x2)] [] K) :=
  (WP_k 5).trans ((show (∃ n, wp (n + 5) (D + 1) 133 6 [some (mR 2 0 0), some (mI x1), some (mI x2)] [] (hp L mi rs) K) ↔ (∃ n, wp n D 18 0 (mEntry 18 [mR 0 1 0, mR 0 0 0]) [] (hp L mi rs) (Bkn n (D + 1) 133 17 [some (mR 2 0 0), some (mI x1), some (mI x2)] [] K)) from Iff.rfl).trans (ex_Bk))
set_option maxRecDepth 20000 in
theorem B133_17 {D L : Nat} {mi : mMi} {rs : mRs} {K : mOut → mH → Prop} {x1 : Int32} {x2 : Int32}   : WP (D + 1) 133 17 [some (mR 2 0 0), some (mI x1), some (mI x2)] [] (hp L mi rs) K ↔ WP D 32 0 (mEntry 32 [mR 0 1 0, mI x1, mI x2]) [] (hp L mi rs) (Bk (D + 1) 133 26 [some (mR 2 0 0), some (mI x1), some (mI x2)] [] K) :=
  (WP_k 5).trans ((show (∃ n, wp (n + 5) (D + 1) 133 17 [some (mR 2 0 0), some (mI x1), some (mI x2)] [] (hp L mi rs) K) ↔ (∃ n, wp n D 32 0 (mEntry 32 [mR 0 1 0, mI x1, mI x2]) [] (hp L mi rs) (Bkn n (D + 1) 133 26 [some (mR 2 0 0), some (mI x1), some (mI x2)] [] K)) from Iff.rfl).trans (ex_Bk))
set_option maxRecDepth 20000 in
theorem B133_26 {D L : Nat} {mi : mMi} {rs : mRs} {K : mOut → mH → Prop} {x1 : Int32} {x2 : Int32} {s0 : Int32}   : WP (D + 1) 133 26 [some (mR 2 0 0), some (mI x1), some (mI x2)] [(mI s0)] (hp L mi rs) K ↔ K (.inl (some (mI s0))) (hp L mi rs) :=
  (WP_k 1).trans ((show (∃ n, wp (n + 1) (D + 1) 133 26 [some (mR 2 0 0), some (mI x1), some (mI x2)] [(mI s0)] (hp L mi rs) K) ↔ (∃ n, K (.inl (some (mI s0))) (hp L mi rs)) from Iff.rfl).trans (ex_one))
