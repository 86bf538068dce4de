/-! BLOCKS, by program. -/
set_option maxRecDepth 20000 in
theorem B19_0 {D L : Nat} {mi : mMi} {rs : mRs} {K : mOut → mH → Prop} {i : Nat} (hi : i < 3) : WP (D + 1) 19 0 [some (mR 0 i 0), none, none, none] [] (hp L mi rs) K ↔ WP (D + 1) 19 10 [some (mR 0 i 0), some (mI (mi 0 i 7 2)), some (mI (N 0)), none] [] (hp L mi rs) K := by
  match i, hi with
  | 0, _ => exact (WP_k 6).trans ((show (∃ n, wp (n + 6) (D + 1) 19 0 [some (mR 0 0 0), none, none, none] [] (hp L mi rs) K) ↔ (∃ n, wp n (D + 1) 19 10 [some (mR 0 0 0), some (mI (mi 0 0 7 2)), some (mI (N 0)), none] [] (hp L mi rs) K) from Iff.rfl).trans (Iff.rfl))
  | 1, _ => exact (WP_k 6).trans ((show (∃ n, wp (n + 6) (D + 1) 19 0 [some (mR 0 1 0), none, none, none] [] (hp L mi rs) K) ↔ (∃ n, wp n (D + 1) 19 10 [some (mR 0 1 0), some (mI (mi 0 1 7 2)), some (mI (N 0)), none] [] (hp L mi rs) K) from Iff.rfl).trans (Iff.rfl))
  | 2, _ => exact (WP_k 6).trans ((show (∃ n, wp (n + 6) (D + 1) 19 0 [some (mR 0 2 0), none, none, none] [] (hp L mi rs) K) ↔ (∃ n, wp n (D + 1) 19 10 [some (mR 0 2 0), some (mI (mi 0 2 7 2)), some (mI (N 0)), none] [] (hp L mi rs) K) from Iff.rfl).trans (Iff.rfl))
  | k9 + 3, h9 => exact absurd h9 (by omega)
set_option maxRecDepth 20000 in
theorem B19_10 {D L : Nat} {mi : mMi} {rs : mRs} {K : mOut → mH → Prop} {x1 : Int32} {x2 : Int32} {l3 : Option mV} {i : Nat} (hi : i < 3) : WP (D + 1) 19 10 [some (mR 0 i 0), some (mI x1), some (mI x2), l3] [] (hp L mi rs) K ↔ mif (decide ((N 96) ≤ x2)) (WP (D + 1) 19 49 [some (mR 0 i 0), some (mI x1), some (mI x2), l3] [] (hp L mi rs) K) (WP (D + 1) 19 16 [some (mR 0 i 0), some (mI x1), some (mI x2), l3] [] (hp L mi rs) K) := by
  match i, hi with
  | 0, _ => exact (WP_k 3).trans ((show (∃ n, wp (n + 3) (D + 1) 19 10 [some (mR 0 0 0), some (mI x1), some (mI x2), l3] [] (hp L mi rs) K) ↔ (∃ n, mif (decide ((N 96) ≤ x2)) (wp n (D + 1) 19 49 [some (mR 0 0 0), some (mI x1), some (mI x2), l3] [] (hp L mi rs) K) (wp n (D + 1) 19 16 [some (mR 0 0 0), some (mI x1), some (mI x2), l3] [] (hp L mi rs) K)) from Iff.rfl).trans (ex_mif))
  | 1, _ => exact (WP_k 3).trans ((show (∃ n, wp (n + 3) (D + 1) 19 10 [some (mR 0 1 0), some (mI x1), some (mI x2), l3] [] (hp L mi rs) K) ↔ (∃ n, mif (decide ((N 96) ≤ x2)) (wp n (D + 1) 19 49 [some (mR 0 1 0), some (mI x1), some (mI x2), l3] [] (hp L mi rs) K) (wp n (D + 1) 19 16 [some (mR 0 1 0), some (mI x1), some (mI x2), l3] [] (hp L mi rs) K)) from Iff.rfl).trans (ex_mif))
  | 2, _ => exact (WP_k 3).trans ((show (∃ n, wp (n + 3) (D + 1) 19 10 [some (mR 0 2 0), some (mI x1), some (mI x2), l3] [] (hp L mi rs) K) ↔ (∃ n, mif (decide ((N 96) ≤ x2)) (wp n (D + 1) 19 49 [some (mR 0 2 0), some (mI x1), some (mI x2), l3] [] (hp L mi rs) K) (wp n (D + 1) 19 16 [some (mR 0 2 0), some (mI x1), some (mI x2), l3] [] (hp L mi rs) K)) from Iff.rfl).trans (ex_mif))
  | k9 + 3, h9 => exact absurd h9 (by omega)
set_option maxRecDepth 20000 in
theorem B19_16 {D L : Nat} {mi : mMi} {rs : mRs} {K : mOut → mH → Prop} {x1 : Int32} {x2 : Int32} {l3 : Option mV} {i : Nat} (hi : i < 3) : WP (D + 1) 19 16 [some (mR 0 i 0), some (mI x1), some (mI x2), l3] [] (hp L mi rs) K ↔ WP D 20 0 (mEntry 20 [mR 0 i 0]) [] (hp L mi rs) (Bk (D + 1) 19 20 [some (mR 0 i 0), some (mI x1), some (mI x2), l3] [] K) := by
  match i, hi with
  | 0, _ => exact (WP_k 2).trans ((show (∃ n, wp (n + 2) (D + 1) 19 16 [some (mR 0 0 0), some (mI x1), some (mI x2), l3] [] (hp L mi rs) K) ↔ (∃ n, wp n D 20 0 (mEntry 20 [mR 0 0 0]) [] (hp L mi rs) (Bkn n (D + 1) 19 20 [some (mR 0 0 0), some (mI x1), some (mI x2), l3] [] K)) from Iff.rfl).trans (ex_Bk))
  | 1, _ => exact (WP_k 2).trans ((show (∃ n, wp (n + 2) (D + 1) 19 16 [some (mR 0 1 0), some (mI x1), some (mI x2), l3] [] (hp L mi rs) K) ↔ (∃ n, wp n D 20 0 (mEntry 20 [mR 0 1 0]) [] (hp L mi rs) (Bkn n (D + 1) 19 20 [some (mR 0 1 0), some (mI x1), some (mI x2), l3] [] K)) from Iff.rfl).trans (ex_Bk))
  | 2, _ => exact (WP_k 2).trans ((show (∃ n, wp (n + 2) (D + 1) 19 16 [some (mR 0 2 0), some (mI x1), some (mI x2), l3] [] (hp L mi rs) K) ↔ (∃ n, wp n D 20 0 (mEntry 20 [mR 0 2 0]) [] (hp L mi rs) (Bkn n (D + 1) 19 20 [some (mR 0 2 0), some (mI x1), some (mI x2), l3] [] K)) from Iff.rfl).trans (ex_Bk))
  | k9 + 3, h9 => exact absurd h9 (by omega)
set_option maxRecDepth 20000 in
theorem B19_20 {D L : Nat} {mi : mMi} {rs : mRs} {K : mOut → mH → Prop} {x1 : Int32} {x2 : Int32} {l3 : Option mV} {s0 : Int32} {i : Nat} (hi : i < 3) : WP (D + 1) 19 20 [some (mR 0 i 0), some (mI x1), some (mI x2), l3] [(mI s0)] (hp L mi rs) K ↔ mif (decide (s0 ≠ (I (-1)))) (WP (D + 1) 19 29 [some (mR 0 i 0), some (mI x1), some (mI x2), some (mI s0)] [] (hp L mi rs) K) (WP (D + 1) 19 26 [some (mR 0 i 0), some (mI x1), some (mI x2), some (mI s0)] [] (hp L mi rs) K) := by
  match i, hi with
  | 0, _ => exact (WP_k 4).trans ((show (∃ n, wp (n + 4) (D + 1) 19 20 [some (mR 0 0 0), some (mI x1), some (mI x2), l3] [(mI s0)] (hp L mi rs) K) ↔ (∃ n, mif (decide (s0 ≠ (I (-1)))) (wp n (D + 1) 19 29 [some (mR 0 0 0), some (mI x1), some (mI x2), some (mI s0)] [] (hp L mi rs) K) (wp n (D + 1) 19 26 [some (mR 0 0 0), some (mI x1), some (mI x2), some (mI s0)] [] (hp L mi rs) K)) from Iff.rfl).trans (ex_mif))
  | 1, _ => exact (WP_k 4).trans ((show (∃ n, wp (n + 4) (D + 1) 19 20 [some (mR 0 1 0), some (mI x1), some (mI x2), l3] [(mI s0)] (hp L mi rs) K) ↔ (∃ n, mif (decide (s0 ≠ (I (-1)))) (wp n (D + 1) 19 29 [some (mR 0 1 0), some (mI x1), some (mI x2), some (mI s0)] [] (hp L mi rs) K) (wp n (D + 1) 19 26 [some (mR 0 1 0), some (mI x1), some (mI x2), some (mI s0)] [] (hp L mi rs) K)) from Iff.rfl).trans (ex_mif))
  | 2, _ => exact (WP_k 4).trans ((show (∃ n, wp (n + 4) (D + 1) 19 20 [some (mR 0 2 0), some (mI x1), some (mI x2), l3] [(mI s0)] (hp L mi rs) K) ↔ (∃ n, mif (decide (s0 ≠ (I (-1)))) (wp n (D + 1) 19 29 [some (mR 0 2 0), some (mI x1), some (mI x2), some (mI s0)] [] (hp L mi rs) K) (wp n (D + 1) 19 26 [some (mR 0 2 0), some (mI x1), some (mI x2), some (mI s0)] [] (hp L mi rs) K)) from Iff.rfl).trans (ex_mif))
  | k9 + 3, h9 => exact absurd h9 (by omega)
set_option maxRecDepth 20000 in
theorem B19_26 {D L : Nat} {mi : mMi} {rs : mRs} {K : mOut → mH → Prop} {x1 : Int32} {x2 : Int32} {x3 : Int32} {i : Nat} (hi : i < 3) : WP (D + 1) 19 26 [some (mR 0 i 0), some (mI x1), some (mI x2), some (mI x3)] [] (hp L mi rs) K ↔ WP (D + 1) 19 49 [some (mR 0 i 0), some (mI x1), some (mI x2), some (mI x3)] [] (hp L mi rs) K := by
  match i, hi with
  | 0, _ => exact (WP_k 1).trans ((show (∃ n, wp (n + 1) (D + 1) 19 26 [some (mR 0 0 0), some (mI x1), some (mI x2), some (mI x3)] [] (hp L mi rs) K) ↔ (∃ n, wp n (D + 1) 19 49 [some (mR 0 0 0), some (mI x1), some (mI x2), some (mI x3)] [] (hp L mi rs) K) from Iff.rfl).trans (Iff.rfl))
  | 1, _ => exact (WP_k 1).trans ((show (∃ n, wp (n + 1) (D + 1) 19 26 [some (mR 0 1 0), some (mI x1), some (mI x2), some (mI x3)] [] (hp L mi rs) K) ↔ (∃ n, wp n (D + 1) 19 49 [some (mR 0 1 0), some (mI x1), some (mI x2), some (mI x3)] [] (hp L mi rs) K) from Iff.rfl).trans (Iff.rfl))
  | 2, _ => exact (WP_k 1).trans ((show (∃ n, wp (n + 1) (D + 1) 19 26 [some (mR 0 2 0), some (mI x1), some (mI x2), some (mI x3)] [] (hp L mi rs) K) ↔ (∃ n, wp n (D + 1) 19 49 [some (mR 0 2 0), some (mI x1), some (mI x2), some (mI x3)] [] (hp L mi rs) K) from Iff.rfl).trans (Iff.rfl))
  | k9 + 3, h9 => exact absurd h9 (by omega)
set_option maxRecDepth 20000 in
theorem B19_29 {D L : Nat} {mi : mMi} {rs : mRs} {K : mOut → mH → Prop} {x1 : Int32} {x2 : Int32} {x3 : Int32} {i : Nat} (hi : i < 3) : WP (D + 1) 19 29 [some (mR 0 i 0), some (mI x1), some (mI x2), some (mI x3)] [] (hp L mi rs) K ↔ WP D 111 0 (mEntry 111 [mI x3]) [] (hp L mi rs) (Bk (D + 1) 19 34 [some (mR 0 i 0), some (mI x1), some (mI x2), some (mI x3)] [(mR 0 i 0)] K) := by
  match i, hi with
  | 0, _ => exact (WP_k 3).trans ((show (∃ n, wp (n + 3) (D + 1) 19 29 [some (mR 0 0 0), some (mI x1), some (mI x2), some (mI x3)] [] (hp L mi rs) K) ↔ (∃ n, wp n D 111 0 (mEntry 111 [mI x3]) [] (hp L mi rs) (Bkn n (D + 1) 19 34 [some (mR 0 0 0), some (mI x1), some (mI x2), some (mI x3)] [(mR 0 0 0)] K)) from Iff.rfl).trans (ex_Bk))
  | 1, _ => exact (WP_k 3).trans ((show (∃ n, wp (n + 3) (D + 1) 19 29 [some (mR 0 1 0), some (mI x1), some (mI x2), some (mI x3)] [] (hp L mi rs) K) ↔ (∃ n, wp n D 111 0 (mEntry 111 [mI x3]) [] (hp L mi rs) (Bkn n (D + 1) 19 34 [some (mR 0 1 0), some (mI x1), some (mI x2), some (mI x3)] [(mR 0 1 0)] K)) from Iff.rfl).trans (ex_Bk))
  | 2, _ => exact (WP_k 3).trans ((show (∃ n, wp (n + 3) (D + 1) 19 29 [some (mR 0 2 0), some (mI x1), some (mI x2), some (mI x3)] [] (hp L mi rs) K) ↔ (∃ n, wp n D 111 0 (mEntry 111 [mI x3]) [] (hp L mi rs) (Bkn n (D + 1) 19 34 [some (mR 0 2 0), some (mI x1), some (mI x2), some (mI x3)] [(mR 0 2 0)] K)) from Iff.rfl).trans (ex_Bk))
  | k9 + 3, h9 => exact absurd h9 (by omega)
set_option maxRecDepth 20000 in
theorem B19_34 {D L : Nat} {mi : mMi} {rs : mRs} {K : mOut → mH → Prop} {x1 : Int32} {x2 : Int32} {x3 : Int32} {s1 : Int32} {i : Nat} (hi : i < 3) : WP (D + 1) 19 34 [some (mR 0 i 0), some (mI x1), some (mI x2), some (mI x3)] [(mI s1), (mR 0 i 0)] (hp L mi rs) K ↔ WP D 112 0 (mEntry 112 [mI x3]) [] (hp L mi rs) (Bk (D + 1) 19 38 [some (mR 0 i 0), some (mI x1), some (mI x2), some (mI x3)] [(mI s1), (mR 0 i 0)] K) := by
  match i, hi with
  | 0, _ => exact (WP_k 2).trans ((show (∃ n, wp (n + 2) (D + 1) 19 34 [some (mR 0 0 0), some (mI x1), some (mI x2), some (mI x3)] [(mI s1), (mR 0 0 0)] (hp L mi rs) K) ↔ (∃ n, wp n D 112 0 (mEntry 112 [mI x3]) [] (hp L mi rs) (Bkn n (D + 1) 19 38 [some (mR 0 0 0), some (mI x1), some (mI x2), some (mI x3)] [(mI s1), (mR 0 0 0)] K)) from Iff.rfl).trans (ex_Bk))
  | 1, _ => exact (WP_k 2).trans ((show (∃ n, wp (n + 2) (D + 1) 19 34 [some (mR 0 1 0), some (mI x1), some (mI x2), some (mI x3)] [(mI s1), (mR 0 1 0)] (hp L mi rs) K) ↔ (∃ n, wp n D 112 0 (mEntry 112 [mI x3]) [] (hp L mi rs) (Bkn n (D + 1) 19 38 [some (mR 0 1 0), some (mI x1), some (mI x2), some (mI x3)] [(mI s1), (mR 0 1 0)] K)) from Iff.rfl).trans (ex_Bk))
  | 2, _ => exact (WP_k 2).trans ((show (∃ n, wp (n + 2) (D + 1) 19 34 [some (mR 0 2 0), some (mI x1), some (mI x2), some (mI x3)] [(mI s1), (mR 0 2 0)] (hp L mi rs) K) ↔ (∃ n, wp n D 112 0 (mEntry 112 [mI x3]) [] (hp L mi rs) (Bkn n (D + 1) 19 38 [some (mR 0 2 0), some (mI x1), some (mI x2), some (mI x3)] [(mI s1), (mR 0 2 0)] K)) from Iff.rfl).trans (ex_Bk))
  | k9 + 3, h9 => exact absurd h9 (by omega)
set_option maxRecDepth 20000 in
theorem B19_38 {D L : Nat} {mi : mMi} {rs : mRs} {K : mOut → mH → Prop} {x1 : Int32} {x2 : Int32} {x3 : Int32} {s1 : Int32} {s2 : Int32} {i : Nat} (hi : i < 3) : WP (D + 1) 19 38 [some (mR 0 i 0), some (mI x1), some (mI x2), some (mI x3)] [(mI s2), (mI s1), (mR 0 i 0)] (hp L mi rs) K ↔ WP D 26 0 (mEntry 26 [mR 0 i 0, mI s1, mI s2, mI (N 0), mI (I (-1))]) [] (hp L mi rs) (Bk (D + 1) 19 43 [some (mR 0 i 0), some (mI x1), some (mI x2), some (mI x3)] [] K) := by
  match i, hi with
  | 0, _ => exact (WP_k 3).trans ((show (∃ n, wp (n + 3) (D + 1) 19 38 [some (mR 0 0 0), some (mI x1), some (mI x2), some (mI x3)] [(mI s2), (mI s1), (mR 0 0 0)] (hp L mi rs) K) ↔ (∃ n, wp n D 26 0 (mEntry 26 [mR 0 0 0, mI s1, mI s2, mI (N 0), mI (I (-1))]) [] (hp L mi rs) (Bkn n (D + 1) 19 43 [some (mR 0 0 0), some (mI x1), some (mI x2), some (mI x3)] [] K)) from Iff.rfl).trans (ex_Bk))
  | 1, _ => exact (WP_k 3).trans ((show (∃ n, wp (n + 3) (D + 1) 19 38 [some (mR 0 1 0), some (mI x1), some (mI x2), some (mI x3)] [(mI s2), (mI s1), (mR 0 1 0)] (hp L mi rs) K) ↔ (∃ n, wp n D 26 0 (mEntry 26 [mR 0 1 0, mI s1, mI s2, mI (N 0), mI (I (-1))]) [] (hp L mi rs) (Bkn n (D + 1) 19 43 [some (mR 0 1 0), some (mI x1), some (mI x2), some (mI x3)] [] K)) from Iff.rfl).trans (ex_Bk))
  | 2, _ => exact (WP_k 3).trans ((show (∃ n, wp (n + 3) (D + 1) 19 38 [some (mR 0 2 0), some (mI x1), some (mI x2), some (mI x3)] [(mI s2), (mI s1), (mR 0 2 0)] (hp L mi rs) K) ↔ (∃ n, wp n D 26 0 (mEntry 26 [mR 0 2 0, mI s1, mI s2, mI (N 0), mI (I (-1))]) [] (hp L mi rs) (Bkn n (D + 1) 19 43 [some (mR 0 2 0), some (mI x1), some (mI x2), some (mI x3)] [] K)) from Iff.rfl).trans (ex_Bk))
  | k9 + 3, h9 => exact absurd h9 (by omega)
set_option maxRecDepth 20000 in
theorem B19_43 {D L : Nat} {mi : mMi} {rs : mRs} {K : mOut → mH → Prop} {x1 : Int32} {x2 : Int32} {x3 : Int32} {i : Nat} (hi : i < 3) : WP (D + 1) 19 43 [some (mR 0 i 0), some (mI x1), some (mI x2), some (mI x3)] [] (hp L mi rs) K ↔ WP (D + 1) 19 10 [some (mR 0 i 0), some (mI x1), some (mI (x2 + (N 1))), some (mI x3)] [] (hp L mi rs) K := by
  match i, hi with
  | 0, _ => exact (WP_k 2).trans ((show (∃ n, wp (n + 2) (D + 1) 19 43 [some (mR 0 0 0), some (mI x1), some (mI x2), some (mI x3)] [] (hp L mi rs) K) ↔ (∃ n, wp n (D + 1) 19 10 [some (mR 0 0 0), some (mI x1), some (mI (x2 + (N 1))), some (mI x3)] [] (hp L mi rs) K) from Iff.rfl).trans (Iff.rfl))
  | 1, _ => exact (WP_k 2).trans ((show (∃ n, wp (n + 2) (D + 1) 19 43 [some (mR 0 1 0), some (mI x1), some (mI x2), some (mI x3)] [] (hp L mi rs) K) ↔ (∃ n, wp n (D + 1) 19 10 [some (mR 0 1 0), some (mI x1), some (mI (x2 + (N 1))), some (mI x3)] [] (hp L mi rs) K) from Iff.rfl).trans (Iff.rfl))
  | 2, _ => exact (WP_k 2).trans ((show (∃ n, wp (n + 2) (D + 1) 19 43 [some (mR 0 2 0), some (mI x1), some (mI x2), some (mI x3)] [] (hp L mi rs) K) ↔ (∃ n, wp n (D + 1) 19 10 [some (mR 0 2 0), some (mI x1), some (mI (x2 + (N 1))), some (mI x3)] [] (hp L mi rs) K) from Iff.rfl).trans (Iff.rfl))
  | k9 + 3, h9 => exact absurd h9 (by omega)
set_option maxRecDepth 20000 in
theorem B19_49 {D L : Nat} {mi : mMi} {rs : mRs} {K : mOut → mH → Prop} {x1 : Int32} {x2 : Int32} {l3 : Option mV} {i : Nat} (hi : i < 3) : WP (D + 1) 19 49 [some (mR 0 i 0), some (mI x1), some (mI x2), l3] [] (hp L mi rs) K ↔ K (.inl (some (mI ((mi 0 i 7 2) - x1)))) (hp L mi rs) := by
  match i, hi with
  | 0, _ => exact (WP_k 6).trans ((show (∃ n, wp (n + 6) (D + 1) 19 49 [some (mR 0 0 0), some (mI x1), some (mI x2), l3] [] (hp L mi rs) K) ↔ (∃ n, K (.inl (some (mI ((mi 0 0 7 2) - x1)))) (hp L mi rs)) from Iff.rfl).trans (ex_one))
  | 1, _ => exact (WP_k 6).trans ((show (∃ n, wp (n + 6) (D + 1) 19 49 [some (mR 0 1 0), some (mI x1), some (mI x2), l3] [] (hp L mi rs) K) ↔ (∃ n, K (.inl (some (mI ((mi 0 1 7 2) - x1)))) (hp L mi rs)) from Iff.rfl).trans (ex_one))
  | 2, _ => exact (WP_k 6).trans ((show (∃ n, wp (n + 6) (D + 1) 19 49 [some (mR 0 2 0), some (mI x1), some (mI x2), l3] [] (hp L mi rs) K) ↔ (∃ n, K (.inl (some (mI ((mi 0 2 7 2) - x1)))) (hp L mi rs)) from Iff.rfl).trans (ex_one))
  | k9 + 3, h9 => exact absurd h9 (by omega)
set_option maxRecDepth 20000 in
theorem B20_0 {D L : Nat} {mi : mMi} {rs : mRs} {K : mOut → mH → Prop} {i : Nat} (hi : i < 3) : WP (D + 1) 20 0 [some (mR 0 i 0), none] [] (hp L mi rs) K ↔ WP D 85 0 (mEntry 85 [mR 2 2 0, mR 0 i 0]) [] (hp L mi rs) (Bk (D + 1) 20 8 [some (mR 0 i 0), none] [] K) := by
  match i, hi with
  | 0, _ => exact (WP_k 4).trans ((show (∃ n, wp (n + 4) (D + 1) 20 0 [some (mR 0 0 0), none] [] (hp L mi rs) K) ↔ (∃ n, wp n D 85 0 (mEntry 85 [mR 2 2 0, mR 0 0 0]) [] (hp L mi rs) (Bkn n (D + 1) 20 8 [some (mR 0 0 0), none] [] K)) from Iff.rfl).trans (ex_Bk))
  | 1, _ => exact (WP_k 4).trans ((show (∃ n, wp (n + 4) (D + 1) 20 0 [some (mR 0 1 0), none] [] (hp L mi rs) K) ↔ (∃ n, wp n D 85 0 (mEntry 85 [mR 2 2 0, mR 0 1 0]) [] (hp L mi rs) (Bkn n (D + 1) 20 8 [some (mR 0 1 0), none] [] K)) from Iff.rfl).trans (ex_Bk))
  | 2, _ => exact (WP_k 4).trans ((show (∃ n, wp (n + 4) (D + 1) 20 0 [some (mR 0 2 0), none] [] (hp L mi rs) K) ↔ (∃ n, wp n D 85 0 (mEntry 85 [mR 2 2 0, mR 0 2 0]) [] (hp L mi rs) (Bkn n (D + 1) 20 8 [some (mR 0 2 0), none] [] K)) from Iff.rfl).trans (ex_Bk))
  | k9 + 3, h9 => exact absurd h9 (by omega)
set_option maxRecDepth 20000 in
theorem B20_8 {D L : Nat} {mi : mMi} {rs : mRs} {K : mOut → mH → Prop} {i : Nat} (hi : i < 3) : WP (D + 1) 20 8 [some (mR 0 i 0), none] [] (hp L mi rs) K ↔ WP (D + 1) 20 10 [some (mR 0 i 0), some (mI (N 0))] [] (hp L mi rs) K := by
  match i, hi with
  | 0, _ => exact (WP_k 2).trans ((show (∃ n, wp (n + 2) (D + 1) 20 8 [some (mR 0 0 0), none] [] (hp L mi rs) K) ↔ (∃ n, wp n (D + 1) 20 10 [some (mR 0 0 0), some (mI (N 0))] [] (hp L mi rs) K) from Iff.rfl).trans (Iff.rfl))
  | 1, _ => exact (WP_k 2).trans ((show (∃ n, wp (n + 2) (D + 1) 20 8 [some (mR 0 1 0), none] [] (hp L mi rs) K) ↔ (∃ n, wp n (D + 1) 20 10 [some (mR 0 1 0), some (mI (N 0))] [] (hp L mi rs) K) from Iff.rfl).trans (Iff.rfl))
  | 2, _ => exact (WP_k 2).trans ((show (∃ n, wp (n + 2) (D + 1) 20 8 [some (mR 0 2 0), none] [] (hp L mi rs) K) ↔ (∃ n, wp n (D + 1) 20 10 [some (mR 0 2 0), some (mI (N 0))] [] (hp L mi rs) K) from Iff.rfl).trans (Iff.rfl))
  | k9 + 3, h9 => exact absurd h9 (by omega)
set_option maxRecDepth 20000 in
theorem B20_10 {D L : Nat} {mi : mMi} {rs : mRs} {K : mOut → mH → Prop} {x1 : Int32} {i : Nat} (hi : i < 3) : WP (D + 1) 20 10 [some (mR 0 i 0), some (mI x1)] [] (hp L mi rs) K ↔ mif (decide ((N 96) ≤ x1)) (WP (D + 1) 20 43 [some (mR 0 i 0), some (mI x1)] [] (hp L mi rs) K) (WP (D + 1) 20 16 [some (mR 0 i 0), some (mI x1)] [] (hp L mi rs) K) := by
  match i, hi with
  | 0, _ => exact (WP_k 3).trans ((show (∃ n, wp (n + 3) (D + 1) 20 10 [some (mR 0 0 0), some (mI x1)] [] (hp L mi rs) K) ↔ (∃ n, mif (decide ((N 96) ≤ x1)) (wp n (D + 1) 20 43 [some (mR 0 0 0), some (mI x1)] [] (hp L mi rs) K) (wp n (D + 1) 20 16 [some (mR 0 0 0), some (mI x1)] [] (hp L mi rs) K)) from Iff.rfl).trans (ex_mif))
  | 1, _ => exact (WP_k 3).trans ((show (∃ n, wp (n + 3) (D + 1) 20 10 [some (mR 0 1 0), some (mI x1)] [] (hp L mi rs) K) ↔ (∃ n, mif (decide ((N 96) ≤ x1)) (wp n (D + 1) 20 43 [some (mR 0 1 0), some (mI x1)] [] (hp L mi rs) K) (wp n (D + 1) 20 16 [some (mR 0 1 0), some (mI x1)] [] (hp L mi rs) K)) from Iff.rfl).trans (ex_mif))
  | 2, _ => exact (WP_k 3).trans ((show (∃ n, wp (n + 3) (D + 1) 20 10 [some (mR 0 2 0), some (mI x1)] [] (hp L mi rs) K) ↔ (∃ n, mif (decide ((N 96) ≤ x1)) (wp n (D + 1) 20 43 [some (mR 0 2 0), some (mI x1)] [] (hp L mi rs) K) (wp n (D + 1) 20 16 [some (mR 0 2 0), some (mI x1)] [] (hp L mi rs) K)) from Iff.rfl).trans (ex_mif))
  | k9 + 3, h9 => exact absurd h9 (by omega)
set_option maxRecDepth 20000 in
theorem B20_16 {D L : Nat} {mi : mMi} {rs : mRs} {K : mOut → mH → Prop} {x1 : Int32} {i : Nat} (hi : i < 3) : WP (D + 1) 20 16 [some (mR 0 i 0), some (mI x1)] [] (hp L mi rs) K ↔ WP D 51 0 (mEntry 51 [mR 0 i 1, mI x1]) [] (hp L mi rs) (Bk (D + 1) 20 24 [some (mR 0 i 0), some (mI x1)] [] K) := by
  match i, hi with
  | 0, _ => exact (WP_k 4).trans ((show (∃ n, wp (n + 4) (D + 1) 20 16 [some (mR 0 0 0), some (mI x1)] [] (hp L mi rs) K) ↔ (∃ n, wp n D 51 0 (mEntry 51 [mR 0 0 1, mI x1]) [] (hp L mi rs) (Bkn n (D + 1) 20 24 [some (mR 0 0 0), some (mI x1)] [] K)) from Iff.rfl).trans (ex_Bk))
  | 1, _ => exact (WP_k 4).trans ((show (∃ n, wp (n + 4) (D + 1) 20 16 [some (mR 0 1 0), some (mI x1)] [] (hp L mi rs) K) ↔ (∃ n, wp n D 51 0 (mEntry 51 [mR 0 1 1, mI x1]) [] (hp L mi rs) (Bkn n (D + 1) 20 24 [some (mR 0 1 0), some (mI x1)] [] K)) from Iff.rfl).trans (ex_Bk))
  | 2, _ => exact (WP_k 4).trans ((show (∃ n, wp (n + 4) (D + 1) 20 16 [some (mR 0 2 0), some (mI x1)] [] (hp L mi rs) K) ↔ (∃ n, wp n D 51 0 (mEntry 51 [mR 0 2 1, mI x1]) [] (hp L mi rs) (Bkn n (D + 1) 20 24 [some (mR 0 2 0), some (mI x1)] [] K)) from Iff.rfl).trans (ex_Bk))
  | k9 + 3, h9 => exact absurd h9 (by omega)
set_option maxRecDepth 20000 in
theorem B20_24 {D L : Nat} {mi : mMi} {rs : mRs} {K : mOut → mH → Prop} {x1 : Int32} {s0 : Int32} {i : Nat} (hi : i < 3) : WP (D + 1) 20 24 [some (mR 0 i 0), some (mI x1)] [(mI s0)] (hp L mi rs) K ↔ mif (decide (s0 = (N 0))) (WP (D + 1) 20 37 [some (mR 0 i 0), some (mI x1)] [] (hp L mi rs) K) (WP (D + 1) 20 27 [some (mR 0 i 0), some (mI x1)] [] (hp L mi rs) K) := by
  match i, hi with
  | 0, _ => exact (WP_k 1).trans ((show (∃ n, wp (n + 1) (D + 1) 20 24 [some (mR 0 0 0), some (mI x1)] [(mI s0)] (hp L mi rs) K) ↔ (∃ n, mif (decide (s0 = (N 0))) (wp n (D + 1) 20 37 [some (mR 0 0 0), some (mI x1)] [] (hp L mi rs) K) (wp n (D + 1) 20 27 [some (mR 0 0 0), some (mI x1)] [] (hp L mi rs) K)) from Iff.rfl).trans (ex_mif))
  | 1, _ => exact (WP_k 1).trans ((show (∃ n, wp (n + 1) (D + 1) 20 24 [some (mR 0 1 0), some (mI x1)] [(mI s0)] (hp L mi rs) K) ↔ (∃ n, mif (decide (s0 = (N 0))) (wp n (D + 1) 20 37 [some (mR 0 1 0), some (mI x1)] [] (hp L mi rs) K) (wp n (D + 1) 20 27 [some (mR 0 1 0), some (mI x1)] [] (hp L mi rs) K)) from Iff.rfl).trans (ex_mif))
  | 2, _ => exact (WP_k 1).trans ((show (∃ n, wp (n + 1) (D + 1) 20 24 [some (mR 0 2 0), some (mI x1)] [(mI s0)] (hp L mi rs) K) ↔ (∃ n, mif (decide (s0 = (N 0))) (wp n (D + 1) 20 37 [some (mR 0 2 0), some (mI x1)] [] (hp L mi rs) K) (wp n (D + 1) 20 27 [some (mR 0 2 0), some (mI x1)] [] (hp L mi rs) K)) from Iff.rfl).trans (ex_mif))
  | k9 + 3, h9 => exact absurd h9 (by omega)
set_option maxRecDepth 20000 in
theorem B20_27 {D L : Nat} {mi : mMi} {rs : mRs} {K : mOut → mH → Prop} {x1 : Int32} {i : Nat} (hi : i < 3) : WP (D + 1) 20 27 [some (mR 0 i 0), some (mI x1)] [] (hp L mi rs) K ↔ WP D 23 0 (mEntry 23 [mR 0 i 0, mI x1]) [] (hp L mi rs) (Bk (D + 1) 20 32 [some (mR 0 i 0), some (mI x1)] [] K) := by
  match i, hi with
  | 0, _ => exact (WP_k 3).trans ((show (∃ n, wp (n + 3) (D + 1) 20 27 [some (mR 0 0 0), some (mI x1)] [] (hp L mi rs) K) ↔ (∃ n, wp n D 23 0 (mEntry 23 [mR 0 0 0, mI x1]) [] (hp L mi rs) (Bkn n (D + 1) 20 32 [some (mR 0 0 0), some (mI x1)] [] K)) from Iff.rfl).trans (ex_Bk))
  | 1, _ => exact (WP_k 3).trans ((show (∃ n, wp (n + 3) (D + 1) 20 27 [some (mR 0 1 0), some (mI x1)] [] (hp L mi rs) K) ↔ (∃ n, wp n D 23 0 (mEntry 23 [mR 0 1 0, mI x1]) [] (hp L mi rs) (Bkn n (D + 1) 20 32 [some (mR 0 1 0), some (mI x1)] [] K)) from Iff.rfl).trans (ex_Bk))
  | 2, _ => exact (WP_k 3).trans ((show (∃ n, wp (n + 3) (D + 1) 20 27 [some (mR 0 2 0), some (mI x1)] [] (hp L mi rs) K) ↔ (∃ n, wp n D 23 0 (mEntry 23 [mR 0 2 0, mI x1]) [] (hp L mi rs) (Bkn n (D + 1) 20 32 [some (mR 0 2 0), some (mI x1)] [] K)) from Iff.rfl).trans (ex_Bk))
  | k9 + 3, h9 => exact absurd h9 (by omega)
set_option maxRecDepth 20000 in
theorem B20_32 {D L : Nat} {mi : mMi} {rs : mRs} {K : mOut → mH → Prop} {x1 : Int32} {s0 : Int32} {i : Nat} (hi : i < 3) : WP (D + 1) 20 32 [some (mR 0 i 0), some (mI x1)] [(mI s0)] (hp L mi rs) K ↔ mif (decide ((N 0) ≤ s0)) (WP (D + 1) 20 37 [some (mR 0 i 0), some (mI x1)] [] (hp L mi rs) K) (WP (D + 1) 20 35 [some (mR 0 i 0), some (mI x1)] [] (hp L mi rs) K) := by
  match i, hi with
  | 0, _ => exact (WP_k 1).trans ((show (∃ n, wp (n + 1) (D + 1) 20 32 [some (mR 0 0 0), some (mI x1)] [(mI s0)] (hp L mi rs) K) ↔ (∃ n, mif (decide ((N 0) ≤ s0)) (wp n (D + 1) 20 37 [some (mR 0 0 0), some (mI x1)] [] (hp L mi rs) K) (wp n (D + 1) 20 35 [some (mR 0 0 0), some (mI x1)] [] (hp L mi rs) K)) from Iff.rfl).trans (ex_mif))
  | 1, _ => exact (WP_k 1).trans ((show (∃ n, wp (n + 1) (D + 1) 20 32 [some (mR 0 1 0), some (mI x1)] [(mI s0)] (hp L mi rs) K) ↔ (∃ n, mif (decide ((N 0) ≤ s0)) (wp n (D + 1) 20 37 [some (mR 0 1 0), some (mI x1)] [] (hp L mi rs) K) (wp n (D + 1) 20 35 [some (mR 0 1 0), some (mI x1)] [] (hp L mi rs) K)) from Iff.rfl).trans (ex_mif))
  | 2, _ => exact (WP_k 1).trans ((show (∃ n, wp (n + 1) (D + 1) 20 32 [some (mR 0 2 0), some (mI x1)] [(mI s0)] (hp L mi rs) K) ↔ (∃ n, mif (decide ((N 0) ≤ s0)) (wp n (D + 1) 20 37 [some (mR 0 2 0), some (mI x1)] [] (hp L mi rs) K) (wp n (D + 1) 20 35 [some (mR 0 2 0), some (mI x1)] [] (hp L mi rs) K)) from Iff.rfl).trans (ex_mif))
  | k9 + 3, h9 => exact absurd h9 (by omega)
set_option maxRecDepth 20000 in
theorem B20_35 {D L : Nat} {mi : mMi} {rs : mRs} {K : mOut → mH → Prop} {x1 : Int32} {i : Nat} (hi : i < 3) : WP (D + 1) 20 35 [some (mR 0 i 0), some (mI x1)] [] (hp L mi rs) K ↔ K (.inl (some (mI x1))) (hp L mi rs) := by
  match i, hi with
  | 0, _ => exact (WP_k 2).trans ((show (∃ n, wp (n + 2) (D + 1) 20 35 [some (mR 0 0 0), some (mI x1)] [] (hp L mi rs) K) ↔ (∃ n, K (.inl (some (mI x1))) (hp L mi rs)) from Iff.rfl).trans (ex_one))
  | 1, _ => exact (WP_k 2).trans ((show (∃ n, wp (n + 2) (D + 1) 20 35 [some (mR 0 1 0), some (mI x1)] [] (hp L mi rs) K) ↔ (∃ n, K (.inl (some (mI x1))) (hp L mi rs)) from Iff.rfl).trans (ex_one))
  | 2, _ => exact (WP_k 2).trans ((show (∃ n, wp (n + 2) (D + 1) 20 35 [some (mR 0 2 0), some (mI x1)] [] (hp L mi rs) K) ↔ (∃ n, K (.inl (some (mI x1))) (hp L mi rs)) from Iff.rfl).trans (ex_one))
  | k9 + 3, h9 => exact absurd h9 (by omega)
set_option maxRecDepth 20000 in
theorem B20_37 {D L : Nat} {mi : mMi} {rs : mRs} {K : mOut → mH → Prop} {x1 : Int32} {i : Nat} (hi : i < 3) : WP (D + 1) 20 37 [some (mR 0 i 0), some (mI x1)] [] (hp L mi rs) K ↔ WP (D + 1) 20 10 [some (mR 0 i 0), some (mI (x1 + (N 1)))] [] (hp L mi rs) K := by
  match i, hi with
  | 0, _ => exact (WP_k 2).trans ((show (∃ n, wp (n + 2) (D + 1) 20 37 [some (mR 0 0 0), some (mI x1)] [] (hp L mi rs) K) ↔ (∃ n, wp n (D + 1) 20 10 [some (mR 0 0 0), some (mI (x1 + (N 1)))] [] (hp L mi rs) K) from Iff.rfl).trans (Iff.rfl))
  | 1, _ => exact (WP_k 2).trans ((show (∃ n, wp (n + 2) (D + 1) 20 37 [some (mR 0 1 0), some (mI x1)] [] (hp L mi rs) K) ↔ (∃ n, wp n (D + 1) 20 10 [some (mR 0 1 0), some (mI (x1 + (N 1)))] [] (hp L mi rs) K) from Iff.rfl).trans (Iff.rfl))
  | 2, _ => exact (WP_k 2).trans ((show (∃ n, wp (n + 2) (D + 1) 20 37 [some (mR 0 2 0), some (mI x1)] [] (hp L mi rs) K) ↔ (∃ n, wp n (D + 1) 20 10 [some (mR 0 2 0), some (mI (x1 + (N 1)))] [] (hp L mi rs) K) from Iff.rfl).trans (Iff.rfl))
  | k9 + 3, h9 => exact absurd h9 (by omega)
set_option maxRecDepth 20000 in
theorem B20_43 {D L : Nat} {mi : mMi} {rs : mRs} {K : mOut → mH → Prop} {x1 : Int32} {i : Nat} (hi : i < 3) : WP (D + 1) 20 43 [some (mR 0 i 0), some (mI x1)] [] (hp L mi rs) K ↔ K (.inl (some (mI (I (-1))))) (hp L mi rs) := by
  match i, hi with
  | 0, _ => exact (WP_k 2).trans ((show (∃ n, wp (n + 2) (D + 1) 20 43 [some (mR 0 0 0), some (mI x1)] [] (hp L mi rs) K) ↔ (∃ n, K (.inl (some (mI (I (-1))))) (hp L mi rs)) from Iff.rfl).trans (ex_one))
  | 1, _ => exact (WP_k 2).trans ((show (∃ n, wp (n + 2) (D + 1) 20 43 [some (mR 0 1 0), some (mI x1)] [] (hp L mi rs) K) ↔ (∃ n, K (.inl (some (mI (I (-1))))) (hp L mi rs)) from Iff.rfl).trans (ex_one))
  | 2, _ => exact (WP_k 2).trans ((show (∃ n, wp (n + 2) (D + 1) 20 43 [some (mR 0 2 0), some (mI x1)] [] (hp L mi rs) K) ↔ (∃ n, K (.inl (some (mI (I (-1))))) (hp L mi rs)) from Iff.rfl).trans (ex_one))
  | k9 + 3, h9 => exact absurd h9 (by omega)
set_option maxRecDepth 20000 in
theorem B21_0 {D L : Nat} {mi : mMi} {rs : mRs} {K : mOut → mH → Prop} {x1 : Int32} {i : Nat} (hi : i < 3) : WP (D + 1) 21 0 [some (mR 0 i 0), some (mI x1)] [] (hp L mi rs) K ↔ WP D 52 0 (mEntry 52 [mR 0 i 1, mI x1]) [] (hp L mi rs) (Bk (D + 1) 21 8 [some (mR 0 i 0), some (mI x1)] [] K) := by
  match i, hi with
  | 0, _ => exact (WP_k 4).trans ((show (∃ n, wp (n + 4) (D + 1) 21 0 [some (mR 0 0 0), some (mI x1)] [] (hp L mi rs) K) ↔ (∃ n, wp n D 52 0 (mEntry 52 [mR 0 0 1, mI x1]) [] (hp L mi rs) (Bkn n (D + 1) 21 8 [some (mR 0 0 0), some (mI x1)] [] K)) from Iff.rfl).trans (ex_Bk))
  | 1, _ => exact (WP_k 4).trans ((show (∃ n, wp (n + 4) (D + 1) 21 0 [some (mR 0 1 0), some (mI x1)] [] (hp L mi rs) K) ↔ (∃ n, wp n D 52 0 (mEntry 52 [mR 0 1 1, mI x1]) [] (hp L mi rs) (Bkn n (D + 1) 21 8 [some (mR 0 1 0), some (mI x1)] [] K)) from Iff.rfl).trans (ex_Bk))
  | 2, _ => exact (WP_k 4).trans ((show (∃ n, wp (n + 4) (D + 1) 21 0 [some (mR 0 2 0), some (mI x1)] [] (hp L mi rs) K) ↔ (∃ n, wp n D 52 0 (mEntry 52 [mR 0 2 1, mI x1]) [] (hp L mi rs) (Bkn n (D + 1) 21 8 [some (mR 0 2 0), some (mI x1)] [] K)) from Iff.rfl).trans (ex_Bk))
  | k9 + 3, h9 => exact absurd h9 (by omega)
set_option maxRecDepth 20000 in
theorem B21_8 {D L : Nat} {mi : mMi} {rs : mRs} {K : mOut → mH → Prop} {x1 : Int32} {s0 : Int32} {i : Nat} (hi : i < 3) : WP (D + 1) 21 8 [some (mR 0 i 0), some (mI x1)] [(mI s0)] (hp L mi rs) K ↔ mif (decide (s0 = (N 0))) (WP (D + 1) 21 31 [some (mR 0 i 0), some (mI x1)] [] (hp L mi rs) K) (WP (D + 1) 21 11 [some (mR 0 i 0), some (mI x1)] [] (hp L mi rs) K) := by
  match i, hi with
  | 0, _ => exact (WP_k 1).trans ((show (∃ n, wp (n + 1) (D + 1) 21 8 [some (mR 0 0 0), some (mI x1)] [(mI s0)] (hp L mi rs) K) ↔ (∃ n, mif (decide (s0 = (N 0))) (wp n (D + 1) 21 31 [some (mR 0 0 0), some (mI x1)] [] (hp L mi rs) K) (wp n (D + 1) 21 11 [some (mR 0 0 0), some (mI x1)] [] (hp L mi rs) K)) from Iff.rfl).trans (ex_mif))
  | 1, _ => exact (WP_k 1).trans ((show (∃ n, wp (n + 1) (D + 1) 21 8 [some (mR 0 1 0), some (mI x1)] [(mI s0)] (hp L mi rs) K) ↔ (∃ n, mif (decide (s0 = (N 0))) (wp n (D + 1) 21 31 [some (mR 0 1 0), some (mI x1)] [] (hp L mi rs) K) (wp n (D + 1) 21 11 [some (mR 0 1 0), some (mI x1)] [] (hp L mi rs) K)) from Iff.rfl).trans (ex_mif))
  | 2, _ => exact (WP_k 1).trans ((show (∃ n, wp (n + 1) (D + 1) 21 8 [some (mR 0 2 0), some (mI x1)] [(mI s0)] (hp L mi rs) K) ↔ (∃ n, mif (decide (s0 = (N 0))) (wp n (D + 1) 21 31 [some (mR 0 2 0), some (mI x1)] [] (hp L mi rs) K) (wp n (D + 1) 21 11 [some (mR 0 2 0), some (mI x1)] [] (hp L mi rs) K)) from Iff.rfl).trans (ex_mif))
  | k9 + 3, h9 => exact absurd h9 (by omega)
set_option maxRecDepth 20000 in
theorem B21_11 {D L : Nat} {mi : mMi} {rs : mRs} {K : mOut → mH → Prop} {x1 : Int32} {i : Nat} (hi : i < 3) : WP (D + 1) 21 11 [some (mR 0 i 0), some (mI x1)] [] (hp L mi rs) K ↔ mck (mIn x1 96) (mck (mIn (mi 0 i 6 (mix x1)) 40) (WP (D + 1) 21 32 [some (mR 0 i 0), some (mI x1)] [(mI (mi 1 (RO i) 4 (mix (mi 0 i 6 (mix x1)))))] (hp L mi rs) K)) := by
  match i, hi with
  | 0, _ => exact (WP_k 10).trans ((show (∃ n, wp (n + 10) (D + 1) 21 11 [some (mR 0 0 0), some (mI x1)] [] (hp L mi rs) K) ↔ (∃ n, mck (mIn x1 96) (mck (mIn (mi 0 0 6 (mix x1)) 40) (wp n (D + 1) 21 32 [some (mR 0 0 0), some (mI x1)] [(mI (mi 1 (RO 0) 4 (mix (mi 0 0 6 (mix x1)))))] (hp L mi rs) K))) from Iff.rfl).trans (ex_mck.trans (mck_c (ex_mck.trans (mck_c (Iff.rfl))))))
  | 1, _ => exact (WP_k 10).trans ((show (∃ n, wp (n + 10) (D + 1) 21 11 [some (mR 0 1 0), some (mI x1)] [] (hp L mi rs) K) ↔ (∃ n, mck (mIn x1 96) (mck (mIn (mi 0 1 6 (mix x1)) 40) (wp n (D + 1) 21 32 [some (mR 0 1 0), some (mI x1)] [(mI (mi 1 (RO 1) 4 (mix (mi 0 1 6 (mix x1)))))] (hp L mi rs) K))) from Iff.rfl).trans (ex_mck.trans (mck_c (ex_mck.trans (mck_c (Iff.rfl))))))
  | 2, _ => exact (WP_k 10).trans ((show (∃ n, wp (n + 10) (D + 1) 21 11 [some (mR 0 2 0), some (mI x1)] [] (hp L mi rs) K) ↔ (∃ n, mck (mIn x1 96) (mck (mIn (mi 0 2 6 (mix x1)) 40) (wp n (D + 1) 21 32 [some (mR 0 2 0), some (mI x1)] [(mI (mi 1 (RO 2) 4 (mix (mi 0 2 6 (mix x1)))))] (hp L mi rs) K))) from Iff.rfl).trans (ex_mck.trans (mck_c (ex_mck.trans (mck_c (Iff.rfl))))))
  | k9 + 3, h9 => exact absurd h9 (by omega)
set_option maxRecDepth 20000 in
theorem B21_31 {D L : Nat} {mi : mMi} {rs : mRs} {K : mOut → mH → Prop} {x1 : Int32} {i : Nat} (hi : i < 3) : WP (D + 1) 21 31 [some (mR 0 i 0), some (mI x1)] [] (hp L mi rs) K ↔ WP (D + 1) 21 32 [some (mR 0 i 0), some (mI x1)] [(mI (N 0))] (hp L mi rs) K := by
  match i, hi with
  | 0, _ => exact (WP_k 1).trans ((show (∃ n, wp (n + 1) (D + 1) 21 31 [some (mR 0 0 0), some (mI x1)] [] (hp L mi rs) K) ↔ (∃ n, wp n (D + 1) 21 32 [some (mR 0 0 0), some (mI x1)] [(mI (N 0))] (hp L mi rs) K) from Iff.rfl).trans (Iff.rfl))
  | 1, _ => exact (WP_k 1).trans ((show (∃ n, wp (n + 1) (D + 1) 21 31 [some (mR 0 1 0), some (mI x1)] [] (hp L mi rs) K) ↔ (∃ n, wp n (D + 1) 21 32 [some (mR 0 1 0), some (mI x1)] [(mI (N 0))] (hp L mi rs) K) from Iff.rfl).trans (Iff.rfl))
  | 2, _ => exact (WP_k 1).trans ((show (∃ n, wp (n + 1) (D + 1) 21 31 [some (mR 0 2 0), some (mI x1)] [] (hp L mi rs) K) ↔ (∃ n, wp n (D + 1) 21 32 [some (mR 0 2 0), some (mI x1)] [(mI (N 0))] (hp L mi rs) K) from Iff.rfl).trans (Iff.rfl))
  | k9 + 3, h9 => exact absurd h9 (by omega)
set_option maxRecDepth 20000 in
theorem B21_32 {D L : Nat} {mi : mMi} {rs : mRs} {K : mOut → mH → Prop} {x1 : Int32} {s0 : Int32} {i : Nat} (hi : i < 3) : WP (D + 1) 21 32 [some (mR 0 i 0), some (mI x1)] [(mI s0)] (hp L mi rs) K ↔ K (.inl (some (mI s0))) (hp L mi rs) := by
  match i, hi with
  | 0, _ => exact (WP_k 1).trans ((show (∃ n, wp (n + 1) (D + 1) 21 32 [some (mR 0 0 0), some (mI x1)] [(mI s0)] (hp L mi rs) K) ↔ (∃ n, K (.inl (some (mI s0))) (hp L mi rs)) from Iff.rfl).trans (ex_one))
  | 1, _ => exact (WP_k 1).trans ((show (∃ n, wp (n + 1) (D + 1) 21 32 [some (mR 0 1 0), some (mI x1)] [(mI s0)] (hp L mi rs) K) ↔ (∃ n, K (.inl (some (mI s0))) (hp L mi rs)) from Iff.rfl).trans (ex_one))
  | 2, _ => exact (WP_k 1).trans ((show (∃ n, wp (n + 1) (D + 1) 21 32 [some (mR 0 2 0), some (mI x1)] [(mI s0)] (hp L mi rs) K) ↔ (∃ n, K (.inl (some (mI s0))) (hp L mi rs)) from Iff.rfl).trans (ex_one))
  | k9 + 3, h9 => exact absurd h9 (by omega)
set_option maxRecDepth 20000 in
theorem B22_0 {D L : Nat} {mi : mMi} {rs : mRs} {K : mOut → mH → Prop} {x1 : Int32} {i : Nat} (hi : i < 3) : WP (D + 1) 22 0 [some (mR 0 i 0), some (mI x1)] [] (hp L mi rs) K ↔ WP D 51 0 (mEntry 51 [mR 0 i 1, mI x1]) [] (hp L mi rs) (Bk (D + 1) 22 8 [some (mR 0 i 0), some (mI x1)] [] K) := by
  match i, hi with
  | 0, _ => exact (WP_k 4).trans ((show (∃ n, wp (n + 4) (D + 1) 22 0 [some (mR 0 0 0), some (mI x1)] [] (hp L mi rs) K) ↔ (∃ n, wp n D 51 0 (mEntry 51 [mR 0 0 1, mI x1]) [] (hp L mi rs) (Bkn n (D + 1) 22 8 [some (mR 0 0 0), some (mI x1)] [] K)) from Iff.rfl).trans (ex_Bk))
  | 1, _ => exact (WP_k 4).trans ((show (∃ n, wp (n + 4) (D + 1) 22 0 [some (mR 0 1 0), some (mI x1)] [] (hp L mi rs) K) ↔ (∃ n, wp n D 51 0 (mEntry 51 [mR 0 1 1, mI x1]) [] (hp L mi rs) (Bkn n (D + 1) 22 8 [some (mR 0 1 0), some (mI x1)] [] K)) from Iff.rfl).trans (ex_Bk))
  | 2, _ => exact (WP_k 4).trans ((show (∃ n, wp (n + 4) (D + 1) 22 0 [some (mR 0 2 0), some (mI x1)] [] (hp L mi rs) K) ↔ (∃ n, wp n D 51 0 (mEntry 51 [mR 0 2 1, mI x1]) [] (hp L mi rs) (Bkn n (D + 1) 22 8 [some (mR 0 2 0), some (mI x1)] [] K)) from Iff.rfl).trans (ex_Bk))
  | k9 + 3, h9 => exact absurd h9 (by omega)
set_option maxRecDepth 20000 in
theorem B22_8 {D L : Nat} {mi : mMi} {rs : mRs} {K : mOut → mH → Prop} {x1 : Int32} {s0 : Int32} {i : Nat} (hi : i < 3) : WP (D + 1) 22 8 [some (mR 0 i 0), some (mI x1)] [(mI s0)] (hp L mi rs) K ↔ mif (decide (s0 = (N 0))) (WP (D + 1) 22 49 [some (mR 0 i 0), some (mI x1)] [] (hp L mi rs) K) (WP (D + 1) 22 11 [some (mR 0 i 0), some (mI x1)] [] (hp L mi rs) K) := by
  match i, hi with
  | 0, _ => exact (WP_k 1).trans ((show (∃ n, wp (n + 1) (D + 1) 22 8 [some (mR 0 0 0), some (mI x1)] [(mI s0)] (hp L mi rs) K) ↔ (∃ n, mif (decide (s0 = (N 0))) (wp n (D + 1) 22 49 [some (mR 0 0 0), some (mI x1)] [] (hp L mi rs) K) (wp n (D + 1) 22 11 [some (mR 0 0 0), some (mI x1)] [] (hp L mi rs) K)) from Iff.rfl).trans (ex_mif))
  | 1, _ => exact (WP_k 1).trans ((show (∃ n, wp (n + 1) (D + 1) 22 8 [some (mR 0 1 0), some (mI x1)] [(mI s0)] (hp L mi rs) K) ↔ (∃ n, mif (decide (s0 = (N 0))) (wp n (D + 1) 22 49 [some (mR 0 1 0), some (mI x1)] [] (hp L mi rs) K) (wp n (D + 1) 22 11 [some (mR 0 1 0), some (mI x1)] [] (hp L mi rs) K)) from Iff.rfl).trans (ex_mif))
  | 2, _ => exact (WP_k 1).trans ((show (∃ n, wp (n + 1) (D + 1) 22 8 [some (mR 0 2 0), some (mI x1)] [(mI s0)] (hp L mi rs) K) ↔ (∃ n, mif (decide (s0 = (N 0))) (wp n (D + 1) 22 49 [some (mR 0 2 0), some (mI x1)] [] (hp L mi rs) K) (wp n (D + 1) 22 11 [some (mR 0 2 0), some (mI x1)] [] (hp L mi rs) K)) from Iff.rfl).trans (ex_mif))
  | k9 + 3, h9 => exact absurd h9 (by omega)
set_option maxRecDepth 20000 in
theorem B22_11 {D L : Nat} {mi : mMi} {rs : mRs} {K : mOut → mH → Prop} {x1 : Int32} {i : Nat} (hi : i < 3) : WP (D + 1) 22 11 [some (mR 0 i 0), some (mI x1)] [] (hp L mi rs) K ↔ mck (mIn x1 96) (mck (mIn (mi 0 i 2 (mix x1)) 40) (mck (mIn x1 96) (mck (mIn (mi 0 i 3 (mix x1)) 40) (WP (D + 1) 22 50 [some (mR 0 i 0), some (mI x1)] [(mI ((mi 1 (RO i) 4 (mix (mi 0 i 2 (mix x1)))) + (mi 1 (RO i) 4 (mix (mi 0 i 3 (mix x1))))))] (hp L mi rs) K)))) := by
  match i, hi with
  | 0, _ => exact (WP_k 20).trans ((show (∃ n, wp (n + 20) (D + 1) 22 11 [some (mR 0 0 0), some (mI x1)] [] (hp L mi rs) K) ↔ (∃ n, mck (mIn x1 96) (mck (mIn (mi 0 0 2 (mix x1)) 40) (mck (mIn x1 96) (mck (mIn (mi 0 0 3 (mix x1)) 40) (wp n (D + 1) 22 50 [some (mR 0 0 0), some (mI x1)] [(mI ((mi 1 (RO 0) 4 (mix (mi 0 0 2 (mix x1)))) + (mi 1 (RO 0) 4 (mix (mi 0 0 3 (mix x1))))))] (hp L mi rs) K))))) from Iff.rfl).trans (ex_mck.trans (mck_c (ex_mck.trans (mck_c (ex_mck.trans (mck_c (ex_mck.trans (mck_c (Iff.rfl))))))))))
  | 1, _ => exact (WP_k 20).trans ((show (∃ n, wp (n + 20) (D + 1) 22 11 [some (mR 0 1 0), some (mI x1)] [] (hp L mi rs) K) ↔ (∃ n, mck (mIn x1 96) (mck (mIn (mi 0 1 2 (mix x1)) 40) (mck (mIn x1 96) (mck (mIn (mi 0 1 3 (mix x1)) 40) (wp n (D + 1) 22 50 [some (mR 0 1 0), some (mI x1)] [(mI ((mi 1 (RO 1) 4 (mix (mi 0 1 2 (mix x1)))) + (mi 1 (RO 1) 4 (mix (mi 0 1 3 (mix x1))))))] (hp L mi rs) K))))) from Iff.rfl).trans (ex_mck.trans (mck_c (ex_mck.trans (mck_c (ex_mck.trans (mck_c (ex_mck.trans (mck_c (Iff.rfl))))))))))
  | 2, _ => exact (WP_k 20).trans ((show (∃ n, wp (n + 20) (D + 1) 22 11 [some (mR 0 2 0), some (mI x1)] [] (hp L mi rs) K) ↔ (∃ n, mck (mIn x1 96) (mck (mIn (mi 0 2 2 (mix x1)) 40) (mck (mIn x1 96) (mck (mIn (mi 0 2 3 (mix x1)) 40) (wp n (D + 1) 22 50 [some (mR 0 2 0), some (mI x1)] [(mI ((mi 1 (RO 2) 4 (mix (mi 0 2 2 (mix x1)))) + (mi 1 (RO 2) 4 (mix (mi 0 2 3 (mix x1))))))] (hp L mi rs) K))))) from Iff.rfl).trans (ex_mck.trans (mck_c (ex_mck.trans (mck_c (ex_mck.trans (mck_c (ex_mck.trans (mck_c (Iff.rfl))))))))))
  | k9 + 3, h9 => exact absurd h9 (by omega)
set_option maxRecDepth 20000 in
theorem B22_49 {D L : Nat} {mi : mMi} {rs : mRs} {K : mOut → mH → Prop} {x1 : Int32} {i : Nat} (hi : i < 3) : WP (D + 1) 22 49 [some (mR 0 i 0), some (mI x1)] [] (hp L mi rs) K ↔ WP (D + 1) 22 50 [some (mR 0 i 0), some (mI x1)] [(mI (N 0))] (hp L mi rs) K := by
  match i, hi with
  | 0, _ => exact (WP_k 1).trans ((show (∃ n, wp (n + 1) (D + 1) 22 49 [some (mR 0 0 0), some (mI x1)] [] (hp L mi rs) K) ↔ (∃ n, wp n (D + 1) 22 50 [some (mR 0 0 0), some (mI x1)] [(mI (N 0))] (hp L mi rs) K) from Iff.rfl).trans (Iff.rfl))
  | 1, _ => exact (WP_k 1).trans ((show (∃ n, wp (n + 1) (D + 1) 22 49 [some (mR 0 1 0), some (mI x1)] [] (hp L mi rs) K) ↔ (∃ n, wp n (D + 1) 22 50 [some (mR 0 1 0), some (mI x1)] [(mI (N 0))] (hp L mi rs) K) from Iff.rfl).trans (Iff.rfl))
  | 2, _ => exact (WP_k 1).trans ((show (∃ n, wp (n + 1) (D + 1) 22 49 [some (mR 0 2 0), some (mI x1)] [] (hp L mi rs) K) ↔ (∃ n, wp n (D + 1) 22 50 [some (mR 0 2 0), some (mI x1)] [(mI (N 0))] (hp L mi rs) K) from Iff.rfl).trans (Iff.rfl))
  | k9 + 3, h9 => exact absurd h9 (by omega)
set_option maxRecDepth 20000 in
theorem B22_50 {D L : Nat} {mi : mMi} {rs : mRs} {K : mOut → mH → Prop} {x1 : Int32} {s0 : Int32} {i : Nat} (hi : i < 3) : WP (D + 1) 22 50 [some (mR 0 i 0), some (mI x1)] [(mI s0)] (hp L mi rs) K ↔ K (.inl (some (mI s0))) (hp L mi rs) := by
  match i, hi with
  | 0, _ => exact (WP_k 1).trans ((show (∃ n, wp (n + 1) (D + 1) 22 50 [some (mR 0 0 0), some (mI x1)] [(mI s0)] (hp L mi rs) K) ↔ (∃ n, K (.inl (some (mI s0))) (hp L mi rs)) from Iff.rfl).trans (ex_one))
  | 1, _ => exact (WP_k 1).trans ((show (∃ n, wp (n + 1) (D + 1) 22 50 [some (mR 0 1 0), some (mI x1)] [(mI s0)] (hp L mi rs) K) ↔ (∃ n, K (.inl (some (mI s0))) (hp L mi rs)) from Iff.rfl).trans (ex_one))
  | 2, _ => exact (WP_k 1).trans ((show (∃ n, wp (n + 1) (D + 1) 22 50 [some (mR 0 2 0), some (mI x1)] [(mI s0)] (hp L mi rs) K) ↔ (∃ n, K (.inl (some (mI s0))) (hp L mi rs)) from Iff.rfl).trans (ex_one))
  | k9 + 3, h9 => exact absurd h9 (by omega)
set_option maxRecDepth 20000 in
theorem B23_0 {D L : Nat} {mi : mMi} {rs : mRs} {K : mOut → mH → Prop} {x1 : Int32} {i : Nat} (hi : i < 3) : WP (D + 1) 23 0 [some (mR 0 i 0), some (mI x1)] [] (hp L mi rs) K ↔ WP D 24 0 (mEntry 24 [mR 0 i 0, mI x1]) [] (hp L mi rs) (Bk (D + 1) 23 5 [some (mR 0 i 0), some (mI x1)] [] K) := by
  match i, hi with
  | 0, _ => exact (WP_k 3).trans ((show (∃ n, wp (n + 3) (D + 1) 23 0 [some (mR 0 0 0), some (mI x1)] [] (hp L mi rs) K) ↔ (∃ n, wp n D 24 0 (mEntry 24 [mR 0 0 0, mI x1]) [] (hp L mi rs) (Bkn n (D + 1) 23 5 [some (mR 0 0 0), some (mI x1)] [] K)) from Iff.rfl).trans (ex_Bk))
  | 1, _ => exact (WP_k 3).trans ((show (∃ n, wp (n + 3) (D + 1) 23 0 [some (mR 0 1 0), some (mI x1)] [] (hp L mi rs) K) ↔ (∃ n, wp n D 24 0 (mEntry 24 [mR 0 1 0, mI x1]) [] (hp L mi rs) (Bkn n (D + 1) 23 5 [some (mR 0 1 0), some (mI x1)] [] K)) from Iff.rfl).trans (ex_Bk))
  | 2, _ => exact (WP_k 3).trans ((show (∃ n, wp (n + 3) (D + 1) 23 0 [some (mR 0 2 0), some (mI x1)] [] (hp L mi rs) K) ↔ (∃ n, wp n D 24 0 (mEntry 24 [mR 0 2 0, mI x1]) [] (hp L mi rs) (Bkn n (D + 1) 23 5 [some (mR 0 2 0), some (mI x1)] [] K)) from Iff.rfl).trans (ex_Bk))
  | k9 + 3, h9 => exact absurd h9 (by omega)
set_option maxRecDepth 20000 in
theorem B23_5 {D L : Nat} {mi : mMi} {rs : mRs} {K : mOut → mH → Prop} {x1 : Int32} {s0 : Int32} {i : Nat} (hi : i < 3) : WP (D + 1) 23 5 [some (mR 0 i 0), some (mI x1)] [(mI s0)] (hp L mi rs) K ↔ mck (mIn x1 96) (K (.inl (some (mI (s0 - (mi 2 2 1 (mix x1)))))) (hp L mi rs)) := by
  match i, hi with
  | 0, _ => exact (WP_k 7).trans ((show (∃ n, wp (n + 7) (D + 1) 23 5 [some (mR 0 0 0), some (mI x1)] [(mI s0)] (hp L mi rs) K) ↔ (∃ n, mck (mIn x1 96) (K (.inl (some (mI (s0 - (mi 2 2 1 (mix x1)))))) (hp L mi rs))) from Iff.rfl).trans (ex_mck.trans (mck_c (ex_one))))
  | 1, _ => exact (WP_k 7).trans ((show (∃ n, wp (n + 7) (D + 1) 23 5 [some (mR 0 1 0), some (mI x1)] [(mI s0)] (hp L mi rs) K) ↔ (∃ n, mck (mIn x1 96) (K (.inl (some (mI (s0 - (mi 2 2 1 (mix x1)))))) (hp L mi rs))) from Iff.rfl).trans (ex_mck.trans (mck_c (ex_one))))
  | 2, _ => exact (WP_k 7).trans ((show (∃ n, wp (n + 7) (D + 1) 23 5 [some (mR 0 2 0), some (mI x1)] [(mI s0)] (hp L mi rs) K) ↔ (∃ n, mck (mIn x1 96) (K (.inl (some (mI (s0 - (mi 2 2 1 (mix x1)))))) (hp L mi rs))) from Iff.rfl).trans (ex_mck.trans (mck_c (ex_one))))
  | k9 + 3, h9 => exact absurd h9 (by omega)
set_option maxRecDepth 20000 in
theorem B24_0 {D L : Nat} {mi : mMi} {rs : mRs} {K : mOut → mH → Prop} {x1 : Int32} {i : Nat} (hi : i < 3) : WP (D + 1) 24 0 [some (mR 0 i 0), some (mI x1)] [] (hp L mi rs) K ↔ WP D 51 0 (mEntry 51 [mR 0 i 1, mI x1]) [] (hp L mi rs) (Bk (D + 1) 24 8 [some (mR 0 i 0), some (mI x1)] [] K) := by
  match i, hi with
  | 0, _ => exact (WP_k 4).trans ((show (∃ n, wp (n + 4) (D + 1) 24 0 [some (mR 0 0 0), some (mI x1)] [] (hp L mi rs) K) ↔ (∃ n, wp n D 51 0 (mEntry 51 [mR 0 0 1, mI x1]) [] (hp L mi rs) (Bkn n (D + 1) 24 8 [some (mR 0 0 0), some (mI x1)] [] K)) from Iff.rfl).trans (ex_Bk))
  | 1, _ => exact (WP_k 4).trans ((show (∃ n, wp (n + 4) (D + 1) 24 0 [some (mR 0 1 0), some (mI x1)] [] (hp L mi rs) K) ↔ (∃ n, wp n D 51 0 (mEntry 51 [mR 0 1 1, mI x1]) [] (hp L mi rs) (Bkn n (D + 1) 24 8 [some (mR 0 1 0), some (mI x1)] [] K)) from Iff.rfl).trans (ex_Bk))
  | 2, _ => exact (WP_k 4).trans ((show (∃ n, wp (n + 4) (D + 1) 24 0 [some (mR 0 2 0), some (mI x1)] [] (hp L mi rs) K) ↔ (∃ n, wp n D 51 0 (mEntry 51 [mR 0 2 1, mI x1]) [] (hp L mi rs) (Bkn n (D + 1) 24 8 [some (mR 0 2 0), some (mI x1)] [] K)) from Iff.rfl).trans (ex_Bk))
  | k9 + 3, h9 => exact absurd h9 (by omega)
set_option maxRecDepth 20000 in
theorem B24_8 {D L : Nat} {mi : mMi} {rs : mRs} {K : mOut → mH → Prop} {x1 : Int32} {s0 : Int32} {i : Nat} (hi : i < 3) : WP (D + 1) 24 8 [some (mR 0 i 0), some (mI x1)] [(mI s0)] (hp L mi rs) K ↔ mif (decide (s0 = (N 0))) (WP (D + 1) 24 31 [some (mR 0 i 0), some (mI x1)] [] (hp L mi rs) K) (WP (D + 1) 24 11 [some (mR 0 i 0), some (mI x1)] [] (hp L mi rs) K) := by
  match i, hi with
  | 0, _ => exact (WP_k 1).trans ((show (∃ n, wp (n + 1) (D + 1) 24 8 [some (mR 0 0 0), some (mI x1)] [(mI s0)] (hp L mi rs) K) ↔ (∃ n, mif (decide (s0 = (N 0))) (wp n (D + 1) 24 31 [some (mR 0 0 0), some (mI x1)] [] (hp L mi rs) K) (wp n (D + 1) 24 11 [some (mR 0 0 0), some (mI x1)] [] (hp L mi rs) K)) from Iff.rfl).trans (ex_mif))
  | 1, _ => exact (WP_k 1).trans ((show (∃ n, wp (n + 1) (D + 1) 24 8 [some (mR 0 1 0), some (mI x1)] [(mI s0)] (hp L mi rs) K) ↔ (∃ n, mif (decide (s0 = (N 0))) (wp n (D + 1) 24 31 [some (mR 0 1 0), some (mI x1)] [] (hp L mi rs) K) (wp n (D + 1) 24 11 [some (mR 0 1 0), some (mI x1)] [] (hp L mi rs) K)) from Iff.rfl).trans (ex_mif))
  | 2, _ => exact (WP_k 1).trans ((show (∃ n, wp (n + 1) (D + 1) 24 8 [some (mR 0 2 0), some (mI x1)] [(mI s0)] (hp L mi rs) K) ↔ (∃ n, mif (decide (s0 = (N 0))) (wp n (D + 1) 24 31 [some (mR 0 2 0), some (mI x1)] [] (hp L mi rs) K) (wp n (D + 1) 24 11 [some (mR 0 2 0), some (mI x1)] [] (hp L mi rs) K)) from Iff.rfl).trans (ex_mif))
  | k9 + 3, h9 => exact absurd h9 (by omega)
set_option maxRecDepth 20000 in
theorem B24_11 {D L : Nat} {mi : mMi} {rs : mRs} {K : mOut → mH → Prop} {x1 : Int32} {i : Nat} (hi : i < 3) : WP (D + 1) 24 11 [some (mR 0 i 0), some (mI x1)] [] (hp L mi rs) K ↔ WP D 25 0 (mEntry 25 [mR 0 i 0, mI x1]) [] (hp L mi rs) (Bk (D + 1) 24 16 [some (mR 0 i 0), some (mI x1)] [] K) := by
  match i, hi with
  | 0, _ => exact (WP_k 3).trans ((show (∃ n, wp (n + 3) (D + 1) 24 11 [some (mR 0 0 0), some (mI x1)] [] (hp L mi rs) K) ↔ (∃ n, wp n D 25 0 (mEntry 25 [mR 0 0 0, mI x1]) [] (hp L mi rs) (Bkn n (D + 1) 24 16 [some (mR 0 0 0), some (mI x1)] [] K)) from Iff.rfl).trans (ex_Bk))
  | 1, _ => exact (WP_k 3).trans ((show (∃ n, wp (n + 3) (D + 1) 24 11 [some (mR 0 1 0), some (mI x1)] [] (hp L mi rs) K) ↔ (∃ n, wp n D 25 0 (mEntry 25 [mR 0 1 0, mI x1]) [] (hp L mi rs) (Bkn n (D + 1) 24 16 [some (mR 0 1 0), some (mI x1)] [] K)) from Iff.rfl).trans (ex_Bk))
  | 2, _ => exact (WP_k 3).trans ((show (∃ n, wp (n + 3) (D + 1) 24 11 [some (mR 0 2 0), some (mI x1)] [] (hp L mi rs) K) ↔ (∃ n, wp n D 25 0 (mEntry 25 [mR 0 2 0, mI x1]) [] (hp L mi rs) (Bkn n (D + 1) 24 16 [some (mR 0 2 0), some (mI x1)] [] K)) from Iff.rfl).trans (ex_Bk))
  | k9 + 3, h9 => exact absurd h9 (by omega)
set_option maxRecDepth 20000 in
theorem B24_16 {D L : Nat} {mi : mMi} {rs : mRs} {K : mOut → mH → Prop} {x1 : Int32} {s0 : Int32} {i : Nat} (hi : i < 3) : WP (D + 1) 24 16 [some (mR 0 i 0), some (mI x1)] [(mI s0)] (hp L mi rs) K ↔ mck (mIn x1 96) (WP D 110 0 (mEntry 110 [mI s0, mI (mi 0 i 4 (mix x1))]) [] (hp L mi rs) (Bk (D + 1) 24 28 [some (mR 0 i 0), some (mI x1)] [] K)) := by
  match i, hi with
  | 0, _ => exact (WP_k 6).trans ((show (∃ n, wp (n + 6) (D + 1) 24 16 [some (mR 0 0 0), some (mI x1)] [(mI s0)] (hp L mi rs) K) ↔ (∃ n, mck (mIn x1 96) (wp n D 110 0 (mEntry 110 [mI s0, mI (mi 0 0 4 (mix x1))]) [] (hp L mi rs) (Bkn n (D + 1) 24 28 [some (mR 0 0 0), some (mI x1)] [] K))) from Iff.rfl).trans (ex_mck.trans (mck_c (ex_Bk))))
  | 1, _ => exact (WP_k 6).trans ((show (∃ n, wp (n + 6) (D + 1) 24 16 [some (mR 0 1 0), some (mI x1)] [(mI s0)] (hp L mi rs) K) ↔ (∃ n, mck (mIn x1 96) (wp n D 110 0 (mEntry 110 [mI s0, mI (mi 0 1 4 (mix x1))]) [] (hp L mi rs) (Bkn n (D + 1) 24 28 [some (mR 0 1 0), some (mI x1)] [] K))) from Iff.rfl).trans (ex_mck.trans (mck_c (ex_Bk))))
  | 2, _ => exact (WP_k 6).trans ((show (∃ n, wp (n + 6) (D + 1) 24 16 [some (mR 0 2 0), some (mI x1)] [(mI s0)] (hp L mi rs) K) ↔ (∃ n, mck (mIn x1 96) (wp n D 110 0 (mEntry 110 [mI s0, mI (mi 0 2 4 (mix x1))]) [] (hp L mi rs) (Bkn n (D + 1) 24 28 [some (mR 0 2 0), some (mI x1)] [] K))) from Iff.rfl).trans (ex_mck.trans (mck_c (ex_Bk))))
  | k9 + 3, h9 => exact absurd h9 (by omega)
set_option maxRecDepth 20000 in
theorem B24_28 {D L : Nat} {mi : mMi} {rs : mRs} {K : mOut → mH → Prop} {x1 : Int32} {s0 : Int32} {i : Nat} (hi : i < 3) : WP (D + 1) 24 28 [some (mR 0 i 0), some (mI x1)] [(mI s0)] (hp L mi rs) K ↔ WP (D + 1) 24 32 [some (mR 0 i 0), some (mI x1)] [(mI s0)] (hp L mi rs) K := by
  match i, hi with
  | 0, _ => exact (WP_k 1).trans ((show (∃ n, wp (n + 1) (D + 1) 24 28 [some (mR 0 0 0), some (mI x1)] [(mI s0)] (hp L mi rs) K) ↔ (∃ n, wp n (D + 1) 24 32 [some (mR 0 0 0), some (mI x1)] [(mI s0)] (hp L mi rs) K) from Iff.rfl).trans (Iff.rfl))
  | 1, _ => exact (WP_k 1).trans ((show (∃ n, wp (n + 1) (D + 1) 24 28 [some (mR 0 1 0), some (mI x1)] [(mI s0)] (hp L mi rs) K) ↔ (∃ n, wp n (D + 1) 24 32 [some (mR 0 1 0), some (mI x1)] [(mI s0)] (hp L mi rs) K) from Iff.rfl).trans (Iff.rfl))
  | 2, _ => exact (WP_k 1).trans ((show (∃ n, wp (n + 1) (D + 1) 24 28 [some (mR 0 2 0), some (mI x1)] [(mI s0)] (hp L mi rs) K) ↔ (∃ n, wp n (D + 1) 24 32 [some (mR 0 2 0), some (mI x1)] [(mI s0)] (hp L mi rs) K) from Iff.rfl).trans (Iff.rfl))
  | k9 + 3, h9 => exact absurd h9 (by omega)
set_option maxRecDepth 20000 in
theorem B24_31 {D L : Nat} {mi : mMi} {rs : mRs} {K : mOut → mH → Prop} {x1 : Int32} {i : Nat} (hi : i < 3) : WP (D + 1) 24 31 [some (mR 0 i 0), some (mI x1)] [] (hp L mi rs) K ↔ WP (D + 1) 24 32 [some (mR 0 i 0), some (mI x1)] [(mI (N 0))] (hp L mi rs) K := by
  match i, hi with
  | 0, _ => exact (WP_k 1).trans ((show (∃ n, wp (n + 1) (D + 1) 24 31 [some (mR 0 0 0), some (mI x1)] [] (hp L mi rs) K) ↔ (∃ n, wp n (D + 1) 24 32 [some (mR 0 0 0), some (mI x1)] [(mI (N 0))] (hp L mi rs) K) from Iff.rfl).trans (Iff.rfl))
  | 1, _ => exact (WP_k 1).trans ((show (∃ n, wp (n + 1) (D + 1) 24 31 [some (mR 0 1 0), some (mI x1)] [] (hp L mi rs) K) ↔ (∃ n, wp n (D + 1) 24 32 [some (mR 0 1 0), some (mI x1)] [(mI (N 0))] (hp L mi rs) K) from Iff.rfl).trans (Iff.rfl))
  | 2, _ => exact (WP_k 1).trans ((show (∃ n, wp (n + 1) (D + 1) 24 31 [some (mR 0 2 0), some (mI x1)] [] (hp L mi rs) K) ↔ (∃ n, wp n (D + 1) 24 32 [some (mR 0 2 0), some (mI x1)] [(mI (N 0))] (hp L mi rs) K) from Iff.rfl).trans (Iff.rfl))
  | k9 + 3, h9 => exact absurd h9 (by omega)
set_option maxRecDepth 20000 in
theorem B24_32 {D L : Nat} {mi : mMi} {rs : mRs} {K : mOut → mH → Prop} {x1 : Int32} {s0 : Int32} {i : Nat} (hi : i < 3) : WP (D + 1) 24 32 [some (mR 0 i 0), some (mI x1)] [(mI s0)] (hp L mi rs) K ↔ K (.inl (some (mI s0))) (hp L mi rs) := by
  match i, hi with
  | 0, _ => exact (WP_k 1).trans ((show (∃ n, wp (n + 1) (D + 1) 24 32 [some (mR 0 0 0), some (mI x1)] [(mI s0)] (hp L mi rs) K) ↔ (∃ n, K (.inl (some (mI s0))) (hp L mi rs)) from Iff.rfl).trans (ex_one))
  | 1, _ => exact (WP_k 1).trans ((show (∃ n, wp (n + 1) (D + 1) 24 32 [some (mR 0 1 0), some (mI x1)] [(mI s0)] (hp L mi rs) K) ↔ (∃ n, K (.inl (some (mI s0))) (hp L mi rs)) from Iff.rfl).trans (ex_one))
  | 2, _ => exact (WP_k 1).trans ((show (∃ n, wp (n + 1) (D + 1) 24 32 [some (mR 0 2 0), some (mI x1)] [(mI s0)] (hp L mi rs) K) ↔ (∃ n, K (.inl (some (mI s0))) (hp L mi rs)) from Iff.rfl).trans (ex_one))
  | k9 + 3, h9 => exact absurd h9 (by omega)
