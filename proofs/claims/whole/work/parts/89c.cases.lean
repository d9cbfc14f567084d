/-! more cases of the law: printed by wip/whole/gen_89.py -/
set_option maxHeartbeats 4000000 in
theorem lc_37 {E : ev_} {G : lx_} {H : Heap} {s t : st_} {f : Nat → Option Nat} {i k n : Nat} {Q : po_} (hX : exo_ E) (hg : ge_ E G) (hb : LB_ E G H s t f) (hi : i + 4 ≤ lL G) (hc : CL_ E G H mX7_windowRegret [.ref (lA G), .int (pq_ G i 1), .int (pq_ G i 2)] vi_ g1_ t (fX8_windowRegret t ((pq_ G i 1)) ((pq_ G i 2))) (fun _ => True)) (hk : k + 80 ≤ 601024) (hn : n + 9000 ≤ 7293033) (kk : LN_ E G Q i (k + 80) (n + 9000)) : aw E mL_law Q 2103 (lvL G i) [] H k n := by
  obtain ⟨s', v, t', y, PP, hs, eB, hoa, hF, hZ, hP⟩ := hc
  have hfB : ev_fr E (lB G) := Nat.le_trans hg.1 (by have := hg.2.1; omega)
  have hfO : ev_fr E (lO G) := Nat.le_trans hg.1 (by have := hg; unfold ge_ at this; omega)
  refine aw_b (pc' := 2109) (lv' := lvL G i) (st' := [.int (nI i + nI 1), .ref (lb G), .ref (lA G)]) [(2103, .aload_n 1, 1, .null), (2104, .aload_n 0, 1, .null), (2105, .iload 5, 2, .null), (2107, .iconst 1, 1, .int (nI 1)), (2108, .iadd, 1, .null)] (by decide +kernel) rfl ?_
  refine aw_sld hb.1 (ib_in (sc_j hi hg.2.2.2.2.2 (by decide))) (by decide +kernel) ?_
  refine aw_b (pc' := 2115) (lv' := lvL G i) (st' := [.int (nI i + nI 2), .ref (lb G), .int (pq_ G i 1), .ref (lA G)]) [(2110, .aload_n 0, 1, .null), (2111, .iload 5, 2, .null), (2113, .iconst 2, 1, .int (nI 2)), (2114, .iadd, 1, .null)] (by decide +kernel) rfl ?_
  refine aw_sld hb.1 (ib_in (sc_j hi hg.2.2.2.2.2 (by decide))) (by decide +kernel) ?_
  refine aw_b (pc' := 2117) (lv' := lvL G i) (st' := [.ref (lO G), .int (pq_ G i 2), .int (pq_ G i 1), .ref (lA G)]) [(2116, .aload_n 3, 1, .null)] (by decide +kernel) rfl ?_
  refine aw_csw (rest := []) (u := 2) (u6 := 12) (wL_windowRegret hX hs (hA_ hb) hfO (fun H1 q => by obtain ⟨f', q1, -⟩ := hP H1 q; exact q1.2.2.2.2.1) (fun c e => by subst e; exact hoa.2)) rfl ckL_windowRegret inL_ nmL_ lw_s_windowRegret lw_l279 lw_n_windowRegret rfl (by decide +kernel) rfl rfl rfl (Nat.le_of_ble_eq_true rfl) (by show _ ≤ 601024; omega) (by show _ ≤ 7293033; omega) (by decide +kernel) wq_r (fun r H1 _ hq => ?_)
  obtain ⟨kx, f', rfl, h1, n1, e6, hw⟩ := wq0 out_lo hg hoa hP hq
  show aw E mL_law Q 2120 (lvL G i) [.int kx] H1 (k + 2) (n + 12)
  refine aw_b (pc' := 2128) (lv' := (6, .int kx) :: lvL G i) (st' := [.int (nI i + nI 1), .ref (lb G), .ref (lB G)]) [(2120, .istore 6, 2, .null), (2122, .aload_n 2, 1, .null), (2123, .aload_n 0, 1, .null), (2124, .iload 5, 2, .null), (2126, .iconst 1, 1, .int (nI 1)), (2127, .iadd, 1, .null)] (by decide +kernel) rfl ?_
  refine aw_sld h1.1 (ib_in (sc_j hi hg.2.2.2.2.2 (by decide))) (by decide +kernel) ?_
  refine aw_b (pc' := 2134) (lv' := (6, .int kx) :: lvL G i) (st' := [.int (nI i + nI 2), .ref (lb G), .int (pq_ G i 1), .ref (lB G)]) [(2129, .aload_n 0, 1, .null), (2130, .iload 5, 2, .null), (2132, .iconst 2, 1, .int (nI 2)), (2133, .iadd, 1, .null)] (by decide +kernel) rfl ?_
  refine aw_sld h1.1 (ib_in (sc_j hi hg.2.2.2.2.2 (by decide))) (by decide +kernel) ?_
  refine aw_cv (rest := []) (st1 := [.int y]) (lB G) 0 (kX8_windowRegret eB h1.2.2.2.1 hfB) rfl rfl ckX8_windowRegret lw_l281 h1.2.2.2.1 eo_O_0 ⟨_, _, rfl⟩ nkX8_windowRegret rfl (by decide +kernel) rfl (Nat.le_of_ble_eq_true rfl) (by show _ ≤ 601024; omega) (by show _ ≤ 7293033; omega) (by decide +kernel) (fun H2 z => ?_)
  obtain ⟨z, hn2⟩ := z
  have h2 := h1.mod hg z hn2
  have n2 := n1.kept z (by have := hg; unfold ge_ at this; omega)
  have hw := hw.kept z (Or.inr (by have := hg; unfold ge_ at this; omega))
  refine aw_b (pc' := 2141) (lv' := (7, .int y) :: (6, .int kx) :: lvL G i) (st' := [.ref (lB G)]) [(2138, .istore 7, 2, .null), (2140, .aload_n 2, 1, .null)] (by decide +kernel) rfl ?_
  refine aw_cv (rest := []) (st1 := [.int (t' 0 6)]) (lB G) 0 (kX8_thrown rfl h2.2.2.2.1) rfl rfl ckX8_thrown lw_l167 h2.2.2.2.1 eo_O_0 ⟨_, _, rfl⟩ nkX8_thrown rfl (by decide +kernel) rfl (Nat.le_of_ble_eq_true rfl) (by show _ ≤ 601024; omega) (by show _ ≤ 7293033; omega) (by decide +kernel) (fun H3 z => ?_)
  have h3 := h2.z z
  have n3 := n2.kept z (Nat.zero_le _)
  have hw := hw.kept z (Or.inr (Nat.zero_le _))
  refine aw_b (pc' := 2146) (lv' := (7, .int y) :: (6, .int kx) :: lvL G i) (st' := [.int kx, .int (t' 0 6)]) [(2144, .iload 6, 2, .null)] (by decide +kernel) rfl ?_
  refine aw_ic_eq (off := 5) 2151 (by decide) (by decide +kernel) (fun _ => ?_) (fun hne => absurd e6 hne)
  refine aw_b (pc' := 2153) (lv' := (7, .int y) :: (6, .int kx) :: lvL G i) (st' := [.int kx]) [(2151, .iload 6, 2, .null)] (by decide +kernel) rfl ?_
  have fin : aw E mL_law Q 2168 ((7, .int y) :: (6, .int kx) :: lvL G i) [] H3 (k + 2) (n + 12) := by
    refine aw_b (pc' := 3097) (lv' := (7, .int y) :: (6, .int kx) :: lvL G i) (st' := []) [(2168, .goto 929, 3, .null)] (by decide +kernel) rfl ?_
    refine aw_lv (lv' := lvL G i) [2, 3, 4, 5, 6, 7] rfl ?_
    exact aw_widen (by omega) (by omega) (kk H3 s' t' f' h3 n3 hF)
  refine aw_if_ne (off := 15) 2168 (by decide) (by decide +kernel) (fun _ => fin) (fun h0 => ?_)
  obtain ⟨e, q1, f0, rfl, q2⟩ := hw h0
  refine aw_b (pc' := 2158) (lv' := (7, .int y) :: (6, .int kx) :: lvL G i) (st' := [.int (nI 0), .ref (lO G)]) [(2156, .aload_n 3, 1, .null), (2157, .iconst 0, 1, .int (nI 0))] (by decide +kernel) rfl ?_
  refine aw_lald q1 (ib_in (by decide)) (by decide +kernel) ?_
  refine aw_b (pc' := 2163) (lv' := (7, .int y) :: (6, .int kx) :: lvL G i) (st' := [.int (lg_cmp (f0 (Int32.toNatClampNeg (nI 0))) ((y).toInt64))]) [(2159, .iload 7, 2, .null), (2161, .i2l, 1, .null), (2162, .lcmp, 1, .null)] (by decide +kernel) rfl ?_
  refine aw_if_eq (off := 5) 2168 (by decide) (by decide +kernel) (fun _ => fin) (fun hne => absurd ?_ hne)
  rw [lg_cmp_eq]
  exact q2
theorem lw_s_windowBest : Cond.static mL_windowBest.1 ∈ uw_ := (uw_mem 1280 (by decide +kernel) (by decide +kernel))
theorem lw_n_windowBest : nok_ mL_windowBest 4 := by decide +kernel
theorem lw_l282 : Cond.methodLink RL 282 yL_windowBest ∈ uw_ := (uw_mem 1279 (by decide +kernel) (by decide +kernel))
theorem lw_l284 : Cond.methodLink RL 284 yX8_windowBest ∈ uw_ := (uw_mem 1896 (by decide +kernel) (by decide +kernel))
set_option maxHeartbeats 4000000 in
theorem lc_38 {E : ev_} {G : lx_} {H : Heap} {s t : st_} {f : Nat → Option Nat} {i k n : Nat} {Q : po_} (hX : exo_ E) (hg : ge_ E G) (hb : LB_ E G H s t f) (hi : i + 4 ≤ lL G) (hc : CL_ E G H mX7_windowBest [.ref (lA G), .int (pq_ G i 1), .int (pq_ G i 2)] vi_ g1_ t (fX8_windowBest t ((pq_ G i 1)) ((pq_ G i 2))) (fun _ => True)) (hk : k + 80 ≤ 601024) (hn : n + 9000 ≤ 7293033) (kk : LN_ E G Q i (k + 80) (n + 9000)) : aw E mL_law Q 2171 (lvL G i) [] H k n := by
  obtain ⟨s', v, t', y, PP, hs, eB, hoa, hF, hZ, hP⟩ := hc
  have hfB : ev_fr E (lB G) := Nat.le_trans hg.1 (by have := hg.2.1; omega)
  have hfO : ev_fr E (lO G) := Nat.le_trans hg.1 (by have := hg; unfold ge_ at this; omega)
  refine aw_b (pc' := 2177) (lv' := lvL G i) (st' := [.int (nI i + nI 1), .ref (lb G), .ref (lA G)]) [(2171, .aload_n 1, 1, .null), (2172, .aload_n 0, 1, .null), (2173, .iload 5, 2, .null), (2175, .iconst 1, 1, .int (nI 1)), (2176, .iadd, 1, .null)] (by decide +kernel) rfl ?_
  refine aw_sld hb.1 (ib_in (sc_j hi hg.2.2.2.2.2 (by decide))) (by decide +kernel) ?_
  refine aw_b (pc' := 2183) (lv' := lvL G i) (st' := [.int (nI i + nI 2), .ref (lb G), .int (pq_ G i 1), .ref (lA G)]) [(2178, .aload_n 0, 1, .null), (2179, .iload 5, 2, .null), (2181, .iconst 2, 1, .int (nI 2)), (2182, .iadd, 1, .null)] (by decide +kernel) rfl ?_
  refine aw_sld hb.1 (ib_in (sc_j hi hg.2.2.2.2.2 (by decide))) (by decide +kernel) ?_
  refine aw_b (pc' := 2185) (lv' := lvL G i) (st' := [.ref (lO G), .int (pq_ G i 2), .int (pq_ G i 1), .ref (lA G)]) [(2184, .aload_n 3, 1, .null)] (by decide +kernel) rfl ?_
  refine aw_csw (rest := []) (u := 2) (u6 := 12) (wL_windowBest hX hs (hA_ hb) hfO (fun H1 q => by obtain ⟨f', q1, -⟩ := hP H1 q; exact q1.2.2.2.2.1) (fun c e => by subst e; exact hoa.2)) rfl ckL_windowBest inL_ nmL_ lw_s_windowBest lw_l282 lw_n_windowBest rfl (by decide +kernel) rfl rfl rfl (Nat.le_of_ble_eq_true rfl) (by show _ ≤ 601024; omega) (by show _ ≤ 7293033; omega) (by decide +kernel) wq_r (fun r H1 _ hq => ?_)
  obtain ⟨kx, f', rfl, h1, n1, e6, hw⟩ := wq0 out_lo hg hoa hP hq
  show aw E mL_law Q 2188 (lvL G i) [.int kx] H1 (k + 2) (n + 12)
  refine aw_b (pc' := 2196) (lv' := (6, .int kx) :: lvL G i) (st' := [.int (nI i + nI 1), .ref (lb G), .ref (lB G)]) [(2188, .istore 6, 2, .null), (2190, .aload_n 2, 1, .null), (2191, .aload_n 0, 1, .null), (2192, .iload 5, 2, .null), (2194, .iconst 1, 1, .int (nI 1)), (2195, .iadd, 1, .null)] (by decide +kernel) rfl ?_
  refine aw_sld h1.1 (ib_in (sc_j hi hg.2.2.2.2.2 (by decide))) (by decide +kernel) ?_
  refine aw_b (pc' := 2202) (lv' := (6, .int kx) :: lvL G i) (st' := [.int (nI i + nI 2), .ref (lb G), .int (pq_ G i 1), .ref (lB G)]) [(2197, .aload_n 0, 1, .null), (2198, .iload 5, 2, .null), (2200, .iconst 2, 1, .int (nI 2)), (2201, .iadd, 1, .null)] (by decide +kernel) rfl ?_
  refine aw_sld h1.1 (ib_in (sc_j hi hg.2.2.2.2.2 (by decide))) (by decide +kernel) ?_
  refine aw_cv (rest := []) (st1 := [.int y]) (lB G) 0 (kX8_windowBest eB h1.2.2.2.1 hfB) rfl rfl ckX8_windowBest lw_l284 h1.2.2.2.1 eo_O_0 ⟨_, _, rfl⟩ nkX8_windowBest rfl (by decide +kernel) rfl (Nat.le_of_ble_eq_true rfl) (by show _ ≤ 601024; omega) (by show _ ≤ 7293033; omega) (by decide +kernel) (fun H2 z => ?_)
  obtain ⟨z, hn2⟩ := z
  have h2 := h1.mod hg z hn2
  have n2 := n1.kept z (by have := hg; unfold ge_ at this; omega)
  have hw := hw.kept z (Or.inr (by have := hg; unfold ge_ at this; omega))
  refine aw_b (pc' := 2209) (lv' := (7, .int y) :: (6, .int kx) :: lvL G i) (st' := [.ref (lB G)]) [(2206, .istore 7, 2, .null), (2208, .aload_n 2, 1, .null)] (by decide +kernel) rfl ?_
  refine aw_cv (rest := []) (st1 := [.int (t' 0 6)]) (lB G) 0 (kX8_thrown rfl h2.2.2.2.1) rfl rfl ckX8_thrown lw_l167 h2.2.2.2.1 eo_O_0 ⟨_, _, rfl⟩ nkX8_thrown rfl (by decide +kernel) rfl (Nat.le_of_ble_eq_true rfl) (by show _ ≤ 601024; omega) (by show _ ≤ 7293033; omega) (by decide +kernel) (fun H3 z => ?_)
  have h3 := h2.z z
  have n3 := n2.kept z (Nat.zero_le _)
  have hw := hw.kept z (Or.inr (Nat.zero_le _))
  refine aw_b (pc' := 2214) (lv' := (7, .int y) :: (6, .int kx) :: lvL G i) (st' := [.int kx, .int (t' 0 6)]) [(2212, .iload 6, 2, .null)] (by decide +kernel) rfl ?_
  refine aw_ic_eq (off := 5) 2219 (by decide) (by decide +kernel) (fun _ => ?_) (fun hne => absurd e6 hne)
  refine aw_b (pc' := 2221) (lv' := (7, .int y) :: (6, .int kx) :: lvL G i) (st' := [.int kx]) [(2219, .iload 6, 2, .null)] (by decide +kernel) rfl ?_
  have fin : aw E mL_law Q 2236 ((7, .int y) :: (6, .int kx) :: lvL G i) [] H3 (k + 2) (n + 12) := by
    refine aw_b (pc' := 3097) (lv' := (7, .int y) :: (6, .int kx) :: lvL G i) (st' := []) [(2236, .goto 861, 3, .null)] (by decide +kernel) rfl ?_
    refine aw_lv (lv' := lvL G i) [2, 3, 4, 5, 6, 7] rfl ?_
    exact aw_widen (by omega) (by omega) (kk H3 s' t' f' h3 n3 hF)
  refine aw_if_ne (off := 15) 2236 (by decide) (by decide +kernel) (fun _ => fin) (fun h0 => ?_)
  obtain ⟨e, q1, f0, rfl, q2⟩ := hw h0
  refine aw_b (pc' := 2226) (lv' := (7, .int y) :: (6, .int kx) :: lvL G i) (st' := [.int (nI 0), .ref (lO G)]) [(2224, .aload_n 3, 1, .null), (2225, .iconst 0, 1, .int (nI 0))] (by decide +kernel) rfl ?_
  refine aw_lald q1 (ib_in (by decide)) (by decide +kernel) ?_
  refine aw_b (pc' := 2231) (lv' := (7, .int y) :: (6, .int kx) :: lvL G i) (st' := [.int (lg_cmp (f0 (Int32.toNatClampNeg (nI 0))) ((y).toInt64))]) [(2227, .iload 7, 2, .null), (2229, .i2l, 1, .null), (2230, .lcmp, 1, .null)] (by decide +kernel) rfl ?_
  refine aw_if_eq (off := 5) 2236 (by decide) (by decide +kernel) (fun _ => fin) (fun hne => absurd ?_ hne)
  rw [lg_cmp_eq]
  exact q2
theorem lw_s_worstWindow : Cond.static mL_worstWindow.1 ∈ uw_ := (uw_mem 1287 (by decide +kernel) (by decide +kernel))
theorem lw_n_worstWindow : nok_ mL_worstWindow 3 := by decide +kernel
theorem lw_l285 : Cond.methodLink RL 285 yL_worstWindow ∈ uw_ := (uw_mem 1286 (by decide +kernel) (by decide +kernel))
theorem lw_l287 : Cond.methodLink RL 287 yX8_worstWindow ∈ uw_ := (uw_mem 1900 (by decide +kernel) (by decide +kernel))
set_option maxHeartbeats 4000000 in
theorem lc_39 {E : ev_} {G : lx_} {H : Heap} {s t : st_} {f : Nat → Option Nat} {i k n : Nat} {Q : po_} (hX : exo_ E) (hg : ge_ E G) (hb : LB_ E G H s t f) (hi : i + 4 ≤ lL G) (hc : CL_ E G H mX7_worstWindow [.ref (lA G), .int (pq_ G i 1)] vi_ g1_ t (fX8_worstWindow t ((pq_ G i 1))) (fun _ => True)) (hk : k + 80 ≤ 601024) (hn : n + 9000 ≤ 7293033) (kk : LN_ E G Q i (k + 80) (n + 9000)) : aw E mL_law Q 2239 (lvL G i) [] H k n := by
  obtain ⟨s', v, t', y, PP, hs, eB, hoa, hF, hZ, hP⟩ := hc
  have hfB : ev_fr E (lB G) := Nat.le_trans hg.1 (by have := hg.2.1; omega)
  have hfO : ev_fr E (lO G) := Nat.le_trans hg.1 (by have := hg; unfold ge_ at this; omega)
  refine aw_b (pc' := 2245) (lv' := lvL G i) (st' := [.int (nI i + nI 1), .ref (lb G), .ref (lA G)]) [(2239, .aload_n 1, 1, .null), (2240, .aload_n 0, 1, .null), (2241, .iload 5, 2, .null), (2243, .iconst 1, 1, .int (nI 1)), (2244, .iadd, 1, .null)] (by decide +kernel) rfl ?_
  refine aw_sld hb.1 (ib_in (sc_j hi hg.2.2.2.2.2 (by decide))) (by decide +kernel) ?_
  refine aw_b (pc' := 2247) (lv' := lvL G i) (st' := [.ref (lO G), .int (pq_ G i 1), .ref (lA G)]) [(2246, .aload_n 3, 1, .null)] (by decide +kernel) rfl ?_
  refine aw_csw (rest := []) (u := 1) (u6 := 6) (wL_worstWindow hX hs (hA_ hb) hfO (fun H1 q => by obtain ⟨f', q1, -⟩ := hP H1 q; exact q1.2.2.2.2.1) (fun c e => by subst e; exact hoa.2)) rfl ckL_worstWindow inL_ nmL_ lw_s_worstWindow lw_l285 lw_n_worstWindow rfl (by decide +kernel) rfl rfl rfl (Nat.le_of_ble_eq_true rfl) (by show _ ≤ 601024; omega) (by show _ ≤ 7293033; omega) (by decide +kernel) wq_r (fun r H1 _ hq => ?_)
  obtain ⟨kx, f', rfl, h1, n1, e6, hw⟩ := wq0 out_lo hg hoa hP hq
  show aw E mL_law Q 2250 (lvL G i) [.int kx] H1 (k + 1) (n + 6)
  refine aw_b (pc' := 2258) (lv' := (6, .int kx) :: lvL G i) (st' := [.int (nI i + nI 1), .ref (lb G), .ref (lB G)]) [(2250, .istore 6, 2, .null), (2252, .aload_n 2, 1, .null), (2253, .aload_n 0, 1, .null), (2254, .iload 5, 2, .null), (2256, .iconst 1, 1, .int (nI 1)), (2257, .iadd, 1, .null)] (by decide +kernel) rfl ?_
  refine aw_sld h1.1 (ib_in (sc_j hi hg.2.2.2.2.2 (by decide))) (by decide +kernel) ?_
  refine aw_cv (rest := []) (st1 := [.int y]) (lB G) 0 (kX8_worstWindow eB h1.2.2.2.1 hfB) rfl rfl ckX8_worstWindow lw_l287 h1.2.2.2.1 eo_O_0 ⟨_, _, rfl⟩ nkX8_worstWindow rfl (by decide +kernel) rfl (Nat.le_of_ble_eq_true rfl) (by show _ ≤ 601024; omega) (by show _ ≤ 7293033; omega) (by decide +kernel) (fun H2 z => ?_)
  obtain ⟨z, hn2⟩ := z
  have h2 := h1.mod hg z hn2
  have n2 := n1.kept z (by have := hg; unfold ge_ at this; omega)
  have hw := hw.kept z (Or.inr (by have := hg; unfold ge_ at this; omega))
  refine aw_b (pc' := 2265) (lv' := (7, .int y) :: (6, .int kx) :: lvL G i) (st' := [.ref (lB G)]) [(2262, .istore 7, 2, .null), (2264, .aload_n 2, 1, .null)] (by decide +kernel) rfl ?_
  refine aw_cv (rest := []) (st1 := [.int (t' 0 6)]) (lB G) 0 (kX8_thrown rfl h2.2.2.2.1) rfl rfl ckX8_thrown lw_l167 h2.2.2.2.1 eo_O_0 ⟨_, _, rfl⟩ nkX8_thrown rfl (by decide +kernel) rfl (Nat.le_of_ble_eq_true rfl) (by show _ ≤ 601024; omega) (by show _ ≤ 7293033; omega) (by decide +kernel) (fun H3 z => ?_)
  have h3 := h2.z z
  have n3 := n2.kept z (Nat.zero_le _)
  have hw := hw.kept z (Or.inr (Nat.zero_le _))
  refine aw_b (pc' := 2270) (lv' := (7, .int y) :: (6, .int kx) :: lvL G i) (st' := [.int kx, .int (t' 0 6)]) [(2268, .iload 6, 2, .null)] (by decide +kernel) rfl ?_
  refine aw_ic_eq (off := 5) 2275 (by decide) (by decide +kernel) (fun _ => ?_) (fun hne => absurd e6 hne)
  refine aw_b (pc' := 2277) (lv' := (7, .int y) :: (6, .int kx) :: lvL G i) (st' := [.int kx]) [(2275, .iload 6, 2, .null)] (by decide +kernel) rfl ?_
  have fin : aw E mL_law Q 2292 ((7, .int y) :: (6, .int kx) :: lvL G i) [] H3 (k + 1) (n + 6) := by
    refine aw_b (pc' := 3097) (lv' := (7, .int y) :: (6, .int kx) :: lvL G i) (st' := []) [(2292, .goto 805, 3, .null)] (by decide +kernel) rfl ?_
    refine aw_lv (lv' := lvL G i) [2, 3, 4, 5, 6, 7] rfl ?_
    exact aw_widen (by omega) (by omega) (kk H3 s' t' f' h3 n3 hF)
  refine aw_if_ne (off := 15) 2292 (by decide) (by decide +kernel) (fun _ => fin) (fun h0 => ?_)
  obtain ⟨e, q1, f0, rfl, q2⟩ := hw h0
  refine aw_b (pc' := 2282) (lv' := (7, .int y) :: (6, .int kx) :: lvL G i) (st' := [.int (nI 0), .ref (lO G)]) [(2280, .aload_n 3, 1, .null), (2281, .iconst 0, 1, .int (nI 0))] (by decide +kernel) rfl ?_
  refine aw_lald q1 (ib_in (by decide)) (by decide +kernel) ?_
  refine aw_b (pc' := 2287) (lv' := (7, .int y) :: (6, .int kx) :: lvL G i) (st' := [.int (lg_cmp (f0 (Int32.toNatClampNeg (nI 0))) ((y).toInt64))]) [(2283, .iload 7, 2, .null), (2285, .i2l, 1, .null), (2286, .lcmp, 1, .null)] (by decide +kernel) rfl ?_
  refine aw_if_eq (off := 5) 2292 (by decide) (by decide +kernel) (fun _ => fin) (fun hne => absurd ?_ hne)
  rw [lg_cmp_eq]
  exact q2
theorem lw_s_meanCost : Cond.static mL_meanCost.1 ∈ uw_ := (uw_mem 1294 (by decide +kernel) (by decide +kernel))
theorem lw_n_meanCost : nok_ mL_meanCost 3 := by decide +kernel
theorem lw_l288 : Cond.methodLink RL 288 yL_meanCost ∈ uw_ := (uw_mem 1293 (by decide +kernel) (by decide +kernel))
theorem lw_l291 : Cond.methodLink RL 291 yX8_meanCost ∈ uw_ := (uw_mem 1904 (by decide +kernel) (by decide +kernel))
set_option maxHeartbeats 4000000 in
theorem lc_40 {E : ev_} {G : lx_} {H : Heap} {s t : st_} {f : Nat → Option Nat} {i k n : Nat} {Q : po_} (hX : exo_ E) (hg : ge_ E G) (hb : LB_ E G H s t f) (hi : i + 4 ≤ lL G) (hc : CL_ E G H mX7_meanCost [.ref (lA G), .int (pq_ G i 1)] (fun y => some (.double y)) g1i_ t (fX8_meanCost t ((pq_ G i 1))) (fun y => FP.Core.dIsNaN y = false)) (hk : k + 80 ≤ 601024) (hn : n + 9000 ≤ 7293033) (kk : LN_ E G Q i (k + 80) (n + 9000)) : aw E mL_law Q 2295 (lvL G i) [] H k n := by
  obtain ⟨s', v, t', y, PP, hs, eB, hoa, hF, hZ, hP⟩ := hc
  have hfB : ev_fr E (lB G) := Nat.le_trans hg.1 (by have := hg.2.1; omega)
  have hfO : ev_fr E (lP G) := Nat.le_trans hg.1 (by have := hg; unfold ge_ at this; omega)
  refine aw_b (pc' := 2301) (lv' := lvL G i) (st' := [.int (nI i + nI 1), .ref (lb G), .ref (lA G)]) [(2295, .aload_n 1, 1, .null), (2296, .aload_n 0, 1, .null), (2297, .iload 5, 2, .null), (2299, .iconst 1, 1, .int (nI 1)), (2300, .iadd, 1, .null)] (by decide +kernel) rfl ?_
  refine aw_sld hb.1 (ib_in (sc_j hi hg.2.2.2.2.2 (by decide))) (by decide +kernel) ?_
  refine aw_b (pc' := 2304) (lv' := lvL G i) (st' := [.ref (lP G), .int (pq_ G i 1), .ref (lA G)]) [(2302, .aload 4, 2, .null)] (by decide +kernel) rfl ?_
  refine aw_csw (rest := []) (u := 1) (u6 := 6) (wL_meanCost hX hs (hA_ hb) hfO (fun H1 q => by obtain ⟨f', q1, -⟩ := hP H1 q; exact q1.2.2.2.2.2) (fun c e => by subst e; exact hoa.2)) rfl ckL_meanCost inL_ nmL_ lw_s_meanCost lw_l288 lw_n_meanCost rfl (by decide +kernel) rfl rfl rfl (Nat.le_of_ble_eq_true rfl) (by show _ ≤ 601024; omega) (by show _ ≤ 7293033; omega) (by decide +kernel) wq_r (fun r H1 _ hq => ?_)
  obtain ⟨kx, f', rfl, h1, n1, e6, hw, hv0⟩ := wqD out_d hg hoa hP hq
  show aw E mL_law Q 2307 (lvL G i) [.int kx] H1 (k + 1) (n + 6)
  refine aw_b (pc' := 2315) (lv' := (6, .int kx) :: lvL G i) (st' := [.int (nI i + nI 1), .ref (lb G), .ref (lB G)]) [(2307, .istore 6, 2, .null), (2309, .aload_n 2, 1, .null), (2310, .aload_n 0, 1, .null), (2311, .iload 5, 2, .null), (2313, .iconst 1, 1, .int (nI 1)), (2314, .iadd, 1, .null)] (by decide +kernel) rfl ?_
  refine aw_sld h1.1 (ib_in (sc_j hi hg.2.2.2.2.2 (by decide))) (by decide +kernel) ?_
  refine aw_cv (rest := []) (st1 := [.double y]) (lB G) 0 (kX8_meanCost eB h1.2.2.2.1 hfB) rfl rfl ckX8_meanCost lw_l291 h1.2.2.2.1 eo_O_0 ⟨_, _, rfl⟩ nkX8_meanCost rfl (by decide +kernel) rfl (Nat.le_of_ble_eq_true rfl) (by show _ ≤ 601024; omega) (by show _ ≤ 7293033; omega) (by decide +kernel) (fun H2 z => ?_)
  obtain ⟨z, hn2⟩ := z
  have h2 := h1.mod hg z hn2
  have n2 := n1.kept z (by have := hg; unfold ge_ at this; omega)
  have hw := hw.kept z (Or.inr (by have := hg; unfold ge_ at this; omega))
  refine aw_b (pc' := 2322) (lv' := (7, .double y) :: (6, .int kx) :: lvL G i) (st' := [.ref (lB G)]) [(2319, .dstore 7, 2, .null), (2321, .aload_n 2, 1, .null)] (by decide +kernel) rfl ?_
  refine aw_cv (rest := []) (st1 := [.int (t' 0 6)]) (lB G) 0 (kX8_thrown rfl h2.2.2.2.1) rfl rfl ckX8_thrown lw_l167 h2.2.2.2.1 eo_O_0 ⟨_, _, rfl⟩ nkX8_thrown rfl (by decide +kernel) rfl (Nat.le_of_ble_eq_true rfl) (by show _ ≤ 601024; omega) (by show _ ≤ 7293033; omega) (by decide +kernel) (fun H3 z => ?_)
  have h3 := h2.z z
  have n3 := n2.kept z (Nat.zero_le _)
  have hw := hw.kept z (Or.inr (Nat.zero_le _))
  refine aw_b (pc' := 2327) (lv' := (7, .double y) :: (6, .int kx) :: lvL G i) (st' := [.int kx, .int (t' 0 6)]) [(2325, .iload 6, 2, .null)] (by decide +kernel) rfl ?_
  refine aw_ic_eq (off := 5) 2332 (by decide) (by decide +kernel) (fun _ => ?_) (fun hne => absurd e6 hne)
  refine aw_b (pc' := 2334) (lv' := (7, .double y) :: (6, .int kx) :: lvL G i) (st' := [.int kx]) [(2332, .iload 6, 2, .null)] (by decide +kernel) rfl ?_
  have fin : aw E mL_law Q 2369 ((7, .double y) :: (6, .int kx) :: lvL G i) [] H3 (k + 1) (n + 6) := by
    refine aw_b (pc' := 3097) (lv' := (7, .double y) :: (6, .int kx) :: lvL G i) (st' := []) [(2369, .goto 728, 3, .null)] (by decide +kernel) rfl ?_
    refine aw_lv (lv' := lvL G i) [2, 3, 4, 5, 6, 7] rfl ?_
    exact aw_widen (by omega) (by omega) (kk H3 s' t' f' h3 n3 hF)
  refine aw_if_ne (off := 35) 2369 (by decide) (by decide +kernel) (fun _ => fin) (fun h0 => ?_)
  obtain ⟨e, q1, f0, rfl, q2⟩ := hw h0
  refine aw_b (pc' := 2340) (lv' := (7, .double y) :: (6, .int kx) :: lvL G i) (st' := [.int (nI 0), .ref (lP G)]) [(2337, .aload 4, 2, .null), (2339, .iconst 0, 1, .int (nI 0))] (by decide +kernel) rfl ?_
  refine aw_dald q1 (ib_in (by decide)) (by decide +kernel) ?_
  refine aw_b (pc' := 2344) (lv' := (7, .double y) :: (6, .int kx) :: lvL G i) (st' := [.int (Op.cmpValue (FP.dcmp (f0 (Int32.toNatClampNeg (nI 0))) y) .l)]) [(2341, .dload 7, 2, .null), (2343, .dcmp .l, 1, .null)] (by decide +kernel) rfl ?_
  refine aw_if_eq (off := 25) 2369 (by decide) (by decide +kernel) (fun _ => fin) (fun hne => absurd ?_ hne)
  obtain ⟨x, hvx, hyx⟩ := hv0 h0
  rw [show f0 (Int32.toNatClampNeg (nI 0)) = y from q2]
  exact d_self (by rw [hyx]; exact hZ x hvx)
theorem lw_s_share : Cond.static mL_share.1 ∈ uw_ := (uw_mem 1301 (by decide +kernel) (by decide +kernel))
theorem lw_n_share : nok_ mL_share 3 := by decide +kernel
theorem lw_l292 : Cond.methodLink RL 292 yL_share ∈ uw_ := (uw_mem 1300 (by decide +kernel) (by decide +kernel))
theorem lw_l294 : Cond.methodLink RL 294 yX8_share ∈ uw_ := (uw_mem 1908 (by decide +kernel) (by decide +kernel))
set_option maxHeartbeats 4000000 in
theorem lc_41 {E : ev_} {G : lx_} {H : Heap} {s t : st_} {f : Nat → Option Nat} {i k n : Nat} {Q : po_} (hX : exo_ E) (hg : ge_ E G) (hb : LB_ E G H s t f) (hi : i + 4 ≤ lL G) (hc : CL_ E G H mX7_share [.ref (lA G), .int (pq_ G i 1)] (fun y => some (.float y)) g1i_ t (fX8_share t ((pq_ G i 1))) (fun y => FP.Core.fIsNaN y = false)) (hk : k + 80 ≤ 601024) (hn : n + 9000 ≤ 7293033) (kk : LN_ E G Q i (k + 80) (n + 9000)) : aw E mL_law Q 2372 (lvL G i) [] H k n := by
  obtain ⟨s', v, t', y, PP, hs, eB, hoa, hF, hZ, hP⟩ := hc
  have hfB : ev_fr E (lB G) := Nat.le_trans hg.1 (by have := hg.2.1; omega)
  have hfO : ev_fr E (lP G) := Nat.le_trans hg.1 (by have := hg; unfold ge_ at this; omega)
  refine aw_b (pc' := 2378) (lv' := lvL G i) (st' := [.int (nI i + nI 1), .ref (lb G), .ref (lA G)]) [(2372, .aload_n 1, 1, .null), (2373, .aload_n 0, 1, .null), (2374, .iload 5, 2, .null), (2376, .iconst 1, 1, .int (nI 1)), (2377, .iadd, 1, .null)] (by decide +kernel) rfl ?_
  refine aw_sld hb.1 (ib_in (sc_j hi hg.2.2.2.2.2 (by decide))) (by decide +kernel) ?_
  refine aw_b (pc' := 2381) (lv' := lvL G i) (st' := [.ref (lP G), .int (pq_ G i 1), .ref (lA G)]) [(2379, .aload 4, 2, .null)] (by decide +kernel) rfl ?_
  refine aw_csw (rest := []) (u := 1) (u6 := 6) (wL_share hX hs (hA_ hb) hfO (fun H1 q => by obtain ⟨f', q1, -⟩ := hP H1 q; exact q1.2.2.2.2.2) (fun c e => by subst e; exact hoa.2) (fun w e => f_n64 (hZ w e))) rfl ckL_share inL_ nmL_ lw_s_share lw_l292 lw_n_share rfl (by decide +kernel) rfl rfl rfl (Nat.le_of_ble_eq_true rfl) (by show _ ≤ 601024; omega) (by show _ ≤ 7293033; omega) (by decide +kernel) wq_r (fun r H1 _ hq => ?_)
  obtain ⟨kx, f', rfl, h1, n1, e6, hw, hv0⟩ := wqD out_f hg hoa hP hq
  show aw E mL_law Q 2384 (lvL G i) [.int kx] H1 (k + 1) (n + 6)
  refine aw_b (pc' := 2392) (lv' := (6, .int kx) :: lvL G i) (st' := [.int (nI i + nI 1), .ref (lb G), .ref (lB G)]) [(2384, .istore 6, 2, .null), (2386, .aload_n 2, 1, .null), (2387, .aload_n 0, 1, .null), (2388, .iload 5, 2, .null), (2390, .iconst 1, 1, .int (nI 1)), (2391, .iadd, 1, .null)] (by decide +kernel) rfl ?_
  refine aw_sld h1.1 (ib_in (sc_j hi hg.2.2.2.2.2 (by decide))) (by decide +kernel) ?_
  refine aw_cv (rest := []) (st1 := [.float y]) (lB G) 0 (kX8_share eB h1.2.2.2.1 hfB) rfl rfl ckX8_share lw_l294 h1.2.2.2.1 eo_O_0 ⟨_, _, rfl⟩ nkX8_share rfl (by decide +kernel) rfl (Nat.le_of_ble_eq_true rfl) (by show _ ≤ 601024; omega) (by show _ ≤ 7293033; omega) (by decide +kernel) (fun H2 z => ?_)
  obtain ⟨z, hn2⟩ := z
  have h2 := h1.mod hg z hn2
  have n2 := n1.kept z (by have := hg; unfold ge_ at this; omega)
  have hw := hw.kept z (Or.inr (by have := hg; unfold ge_ at this; omega))
  refine aw_b (pc' := 2399) (lv' := (7, .float y) :: (6, .int kx) :: lvL G i) (st' := [.ref (lB G)]) [(2396, .fstore 7, 2, .null), (2398, .aload_n 2, 1, .null)] (by decide +kernel) rfl ?_
  refine aw_cv (rest := []) (st1 := [.int (t' 0 6)]) (lB G) 0 (kX8_thrown rfl h2.2.2.2.1) rfl rfl ckX8_thrown lw_l167 h2.2.2.2.1 eo_O_0 ⟨_, _, rfl⟩ nkX8_thrown rfl (by decide +kernel) rfl (Nat.le_of_ble_eq_true rfl) (by show _ ≤ 601024; omega) (by show _ ≤ 7293033; omega) (by decide +kernel) (fun H3 z => ?_)
  have h3 := h2.z z
  have n3 := n2.kept z (Nat.zero_le _)
  have hw := hw.kept z (Or.inr (Nat.zero_le _))
  refine aw_b (pc' := 2404) (lv' := (7, .float y) :: (6, .int kx) :: lvL G i) (st' := [.int kx, .int (t' 0 6)]) [(2402, .iload 6, 2, .null)] (by decide +kernel) rfl ?_
  refine aw_ic_eq (off := 5) 2409 (by decide) (by decide +kernel) (fun _ => ?_) (fun hne => absurd e6 hne)
  refine aw_b (pc' := 2411) (lv' := (7, .float y) :: (6, .int kx) :: lvL G i) (st' := [.int kx]) [(2409, .iload 6, 2, .null)] (by decide +kernel) rfl ?_
  have fin : aw E mL_law Q 2447 ((7, .float y) :: (6, .int kx) :: lvL G i) [] H3 (k + 1) (n + 6) := by
    refine aw_b (pc' := 3097) (lv' := (7, .float y) :: (6, .int kx) :: lvL G i) (st' := []) [(2447, .goto 650, 3, .null)] (by decide +kernel) rfl ?_
    refine aw_lv (lv' := lvL G i) [2, 3, 4, 5, 6, 7] rfl ?_
    exact aw_widen (by omega) (by omega) (kk H3 s' t' f' h3 n3 hF)
  refine aw_if_ne (off := 36) 2447 (by decide) (by decide +kernel) (fun _ => fin) (fun h0 => ?_)
  obtain ⟨e, q1, f0, rfl, q2⟩ := hw h0
  refine aw_b (pc' := 2417) (lv' := (7, .float y) :: (6, .int kx) :: lvL G i) (st' := [.int (nI 0), .ref (lP G)]) [(2414, .aload 4, 2, .null), (2416, .iconst 0, 1, .int (nI 0))] (by decide +kernel) rfl ?_
  refine aw_dald q1 (ib_in (by decide)) (by decide +kernel) ?_
  refine aw_b (pc' := 2420) (lv' := (7, .float y) :: (6, .int kx) :: lvL G i) (st' := [.float y, .double (f0 (Int32.toNatClampNeg (nI 0)))]) [(2418, .fload 7, 2, .null)] (by decide +kernel) rfl ?_
  obtain ⟨x, hvx, hyx⟩ := hv0 h0
  have hzy : FP.Core.fIsNaN y = false := by rw [hyx]; exact hZ x hvx
  refine aw_f2d (f_n64 hzy) (by decide +kernel) ?_
  refine aw_b (pc' := 2422) (lv' := (7, .float y) :: (6, .int kx) :: lvL G i) (st' := [.int (Op.cmpValue (FP.dcmp (f0 (Int32.toNatClampNeg (nI 0))) (FP.f2d y)) .l)]) [(2421, .dcmp .l, 1, .null)] (by decide +kernel) rfl ?_
  refine aw_if_eq (off := 25) 2447 (by decide) (by decide +kernel) (fun _ => fin) (fun hne => absurd ?_ hne)
  rw [show f0 (Int32.toNatClampNeg (nI 0)) = FP.f2d y from q2]
  exact f_self hzy
theorem lw_s_run : Cond.static mL_run.1 ∈ uw_ := (uw_mem 1309 (by decide +kernel) (by decide +kernel))
theorem lw_n_run : nok_ mL_run 3 := by decide +kernel
theorem lw_l295 : Cond.methodLink RL 295 yL_run ∈ uw_ := (uw_mem 1308 (by decide +kernel) (by decide +kernel))
theorem lw_l297 : Cond.methodLink RL 297 yX8_run ∈ uw_ := (uw_mem 2051 (by decide +kernel) (by decide +kernel))
set_option maxHeartbeats 4000000 in
theorem lc_42 {E : ev_} {G : lx_} {H : Heap} {s t : st_} {f : Nat → Option Nat} {i k n : Nat} {Q : po_} (hX : exo_ E) (hg : ge_ E G) (hb : LB_ E G H s t f) (hi : i + 4 ≤ lL G) (hc : CL_ E G H mX7_run [.ref (lA G), .int (pq_ G i 1)] vi_ g1_ t (fX8_run t ((pq_ G i 1))) (fun _ => True)) (hk : k + 80 ≤ 601024) (hn : n + 9000 ≤ 7293033) (kk : LN_ E G Q i (k + 80) (n + 9000)) : aw E mL_law Q 2450 (lvL G i) [] H k n := by
  obtain ⟨s', v, t', y, PP, hs, eB, hoa, hF, hZ, hP⟩ := hc
  have hfB : ev_fr E (lB G) := Nat.le_trans hg.1 (by have := hg.2.1; omega)
  have hfO : ev_fr E (lO G) := Nat.le_trans hg.1 (by have := hg; unfold ge_ at this; omega)
  refine aw_b (pc' := 2456) (lv' := lvL G i) (st' := [.int (nI i + nI 1), .ref (lb G), .ref (lA G)]) [(2450, .aload_n 1, 1, .null), (2451, .aload_n 0, 1, .null), (2452, .iload 5, 2, .null), (2454, .iconst 1, 1, .int (nI 1)), (2455, .iadd, 1, .null)] (by decide +kernel) rfl ?_
  refine aw_sld hb.1 (ib_in (sc_j hi hg.2.2.2.2.2 (by decide))) (by decide +kernel) ?_
  refine aw_b (pc' := 2458) (lv' := lvL G i) (st' := [.ref (lO G), .int (pq_ G i 1), .ref (lA G)]) [(2457, .aload_n 3, 1, .null)] (by decide +kernel) rfl ?_
  refine aw_csw (rest := []) (u := 1) (u6 := 6) (wL_run hX hs (hA_ hb) hfO (fun H1 q => by obtain ⟨f', q1, -⟩ := hP H1 q; exact q1.2.2.2.2.1) (fun c e => by subst e; exact hoa.2)) rfl ckL_run inL_ nmL_ lw_s_run lw_l295 lw_n_run rfl (by decide +kernel) rfl rfl rfl (Nat.le_of_ble_eq_true rfl) (by show _ ≤ 601024; omega) (by show _ ≤ 7293033; omega) (by decide +kernel) wq_r (fun r H1 _ hq => ?_)
  obtain ⟨kx, f', rfl, h1, n1, e6, hw⟩ := wq0 out_lo hg hoa hP hq
  show aw E mL_law Q 2461 (lvL G i) [.int kx] H1 (k + 1) (n + 6)
  refine aw_b (pc' := 2469) (lv' := (6, .int kx) :: lvL G i) (st' := [.int (nI i + nI 1), .ref (lb G), .ref (lB G)]) [(2461, .istore 6, 2, .null), (2463, .aload_n 2, 1, .null), (2464, .aload_n 0, 1, .null), (2465, .iload 5, 2, .null), (2467, .iconst 1, 1, .int (nI 1)), (2468, .iadd, 1, .null)] (by decide +kernel) rfl ?_
  refine aw_sld h1.1 (ib_in (sc_j hi hg.2.2.2.2.2 (by decide))) (by decide +kernel) ?_
  refine aw_cv (rest := []) (st1 := [.int y]) (lB G) 0 (kX8_run eB h1.2.2.2.1 hfB) rfl rfl ckX8_run lw_l297 h1.2.2.2.1 eo_O_0 ⟨_, _, rfl⟩ nkX8_run rfl (by decide +kernel) rfl (Nat.le_of_ble_eq_true rfl) (by show _ ≤ 601024; omega) (by show _ ≤ 7293033; omega) (by decide +kernel) (fun H2 z => ?_)
  obtain ⟨z, hn2⟩ := z
  have h2 := h1.mod hg z hn2
  have n2 := n1.kept z (by have := hg; unfold ge_ at this; omega)
  have hw := hw.kept z (Or.inr (by have := hg; unfold ge_ at this; omega))
  refine aw_b (pc' := 2476) (lv' := (7, .int y) :: (6, .int kx) :: lvL G i) (st' := [.ref (lB G)]) [(2473, .istore 7, 2, .null), (2475, .aload_n 2, 1, .null)] (by decide +kernel) rfl ?_
  refine aw_cv (rest := []) (st1 := [.int (t' 0 6)]) (lB G) 0 (kX8_thrown rfl h2.2.2.2.1) rfl rfl ckX8_thrown lw_l167 h2.2.2.2.1 eo_O_0 ⟨_, _, rfl⟩ nkX8_thrown rfl (by decide +kernel) rfl (Nat.le_of_ble_eq_true rfl) (by show _ ≤ 601024; omega) (by show _ ≤ 7293033; omega) (by decide +kernel) (fun H3 z => ?_)
  have h3 := h2.z z
  have n3 := n2.kept z (Nat.zero_le _)
  have hw := hw.kept z (Or.inr (Nat.zero_le _))
  refine aw_b (pc' := 2481) (lv' := (7, .int y) :: (6, .int kx) :: lvL G i) (st' := [.int kx, .int (t' 0 6)]) [(2479, .iload 6, 2, .null)] (by decide +kernel) rfl ?_
  refine aw_ic_eq (off := 5) 2486 (by decide) (by decide +kernel) (fun _ => ?_) (fun hne => absurd e6 hne)
  refine aw_b (pc' := 2488) (lv' := (7, .int y) :: (6, .int kx) :: lvL G i) (st' := [.int kx]) [(2486, .iload 6, 2, .null)] (by decide +kernel) rfl ?_
  have fin : aw E mL_law Q 2503 ((7, .int y) :: (6, .int kx) :: lvL G i) [] H3 (k + 1) (n + 6) := by
    refine aw_b (pc' := 3097) (lv' := (7, .int y) :: (6, .int kx) :: lvL G i) (st' := []) [(2503, .goto 594, 3, .null)] (by decide +kernel) rfl ?_
    refine aw_lv (lv' := lvL G i) [2, 3, 4, 5, 6, 7] rfl ?_
    exact aw_widen (by omega) (by omega) (kk H3 s' t' f' h3 n3 hF)
  refine aw_if_ne (off := 15) 2503 (by decide) (by decide +kernel) (fun _ => fin) (fun h0 => ?_)
  obtain ⟨e, q1, f0, rfl, q2⟩ := hw h0
  refine aw_b (pc' := 2493) (lv' := (7, .int y) :: (6, .int kx) :: lvL G i) (st' := [.int (nI 0), .ref (lO G)]) [(2491, .aload_n 3, 1, .null), (2492, .iconst 0, 1, .int (nI 0))] (by decide +kernel) rfl ?_
  refine aw_lald q1 (ib_in (by decide)) (by decide +kernel) ?_
  refine aw_b (pc' := 2498) (lv' := (7, .int y) :: (6, .int kx) :: lvL G i) (st' := [.int (lg_cmp (f0 (Int32.toNatClampNeg (nI 0))) ((y).toInt64))]) [(2494, .iload 7, 2, .null), (2496, .i2l, 1, .null), (2497, .lcmp, 1, .null)] (by decide +kernel) rfl ?_
  refine aw_if_eq (off := 5) 2503 (by decide) (by decide +kernel) (fun _ => fin) (fun hne => absurd ?_ hne)
  rw [lg_cmp_eq]
  exact q2
theorem lw_s_runToBreach : Cond.static mL_runToBreach.1 ∈ uw_ := (uw_mem 1350 (by decide +kernel) (by decide +kernel))
theorem lw_n_runToBreach : nok_ mL_runToBreach 3 := by decide +kernel
theorem lw_l298 : Cond.methodLink RL 298 yL_runToBreach ∈ uw_ := (uw_mem 1349 (by decide +kernel) (by decide +kernel))
theorem lw_l300 : Cond.methodLink RL 300 yX8_runToBreach ∈ uw_ := (uw_mem 2055 (by decide +kernel) (by decide +kernel))
set_option maxHeartbeats 4000000 in
theorem lc_43 {E : ev_} {G : lx_} {H : Heap} {s t : st_} {f : Nat → Option Nat} {i k n : Nat} {Q : po_} (hX : exo_ E) (hg : ge_ E G) (hb : LB_ E G H s t f) (hi : i + 4 ≤ lL G) (hc : CL_ E G H mX7_runToBreach [.ref (lA G), .int (pq_ G i 1)] vi_ g1_ t (fX8_runToBreach t ((pq_ G i 1))) (fun _ => True)) (hk : k + 80 ≤ 601024) (hn : n + 9000 ≤ 7293033) (kk : LN_ E G Q i (k + 80) (n + 9000)) : aw E mL_law Q 2506 (lvL G i) [] H k n := by
  obtain ⟨s', v, t', y, PP, hs, eB, hoa, hF, hZ, hP⟩ := hc
  have hfB : ev_fr E (lB G) := Nat.le_trans hg.1 (by have := hg.2.1; omega)
  have hfO : ev_fr E (lO G) := Nat.le_trans hg.1 (by have := hg; unfold ge_ at this; omega)
  refine aw_b (pc' := 2512) (lv' := lvL G i) (st' := [.int (nI i + nI 1), .ref (lb G), .ref (lA G)]) [(2506, .aload_n 1, 1, .null), (2507, .aload_n 0, 1, .null), (2508, .iload 5, 2, .null), (2510, .iconst 1, 1, .int (nI 1)), (2511, .iadd, 1, .null)] (by decide +kernel) rfl ?_
  refine aw_sld hb.1 (ib_in (sc_j hi hg.2.2.2.2.2 (by decide))) (by decide +kernel) ?_
  refine aw_b (pc' := 2514) (lv' := lvL G i) (st' := [.ref (lO G), .int (pq_ G i 1), .ref (lA G)]) [(2513, .aload_n 3, 1, .null)] (by decide +kernel) rfl ?_
  refine aw_csw (rest := []) (u := 1) (u6 := 6) (wL_runToBreach hX hs (hA_ hb) hfO (fun H1 q => by obtain ⟨f', q1, -⟩ := hP H1 q; exact q1.2.2.2.2.1) (fun c e => by subst e; exact hoa.2)) rfl ckL_runToBreach inL_ nmL_ lw_s_runToBreach lw_l298 lw_n_runToBreach rfl (by decide +kernel) rfl rfl rfl (Nat.le_of_ble_eq_true rfl) (by show _ ≤ 601024; omega) (by show _ ≤ 7293033; omega) (by decide +kernel) wq_r (fun r H1 _ hq => ?_)
  obtain ⟨kx, f', rfl, h1, n1, e6, hw⟩ := wq0 out_lo hg hoa hP hq
  show aw E mL_law Q 2517 (lvL G i) [.int kx] H1 (k + 1) (n + 6)
  refine aw_b (pc' := 2525) (lv' := (6, .int kx) :: lvL G i) (st' := [.int (nI i + nI 1), .ref (lb G), .ref (lB G)]) [(2517, .istore 6, 2, .null), (2519, .aload_n 2, 1, .null), (2520, .aload_n 0, 1, .null), (2521, .iload 5, 2, .null), (2523, .iconst 1, 1, .int (nI 1)), (2524, .iadd, 1, .null)] (by decide +kernel) rfl ?_
  refine aw_sld h1.1 (ib_in (sc_j hi hg.2.2.2.2.2 (by decide))) (by decide +kernel) ?_
  refine aw_cv (rest := []) (st1 := [.int y]) (lB G) 0 (kX8_runToBreach eB h1.2.2.2.1 hfB) rfl rfl ckX8_runToBreach lw_l300 h1.2.2.2.1 eo_O_0 ⟨_, _, rfl⟩ nkX8_runToBreach rfl (by decide +kernel) rfl (Nat.le_of_ble_eq_true rfl) (by show _ ≤ 601024; omega) (by show _ ≤ 7293033; omega) (by decide +kernel) (fun H2 z => ?_)
  obtain ⟨z, hn2⟩ := z
  have h2 := h1.mod hg z hn2
  have n2 := n1.kept z (by have := hg; unfold ge_ at this; omega)
  have hw := hw.kept z (Or.inr (by have := hg; unfold ge_ at this; omega))
  refine aw_b (pc' := 2532) (lv' := (7, .int y) :: (6, .int kx) :: lvL G i) (st' := [.ref (lB G)]) [(2529, .istore 7, 2, .null), (2531, .aload_n 2, 1, .null)] (by decide +kernel) rfl ?_
  refine aw_cv (rest := []) (st1 := [.int (t' 0 6)]) (lB G) 0 (kX8_thrown rfl h2.2.2.2.1) rfl rfl ckX8_thrown lw_l167 h2.2.2.2.1 eo_O_0 ⟨_, _, rfl⟩ nkX8_thrown rfl (by decide +kernel) rfl (Nat.le_of_ble_eq_true rfl) (by show _ ≤ 601024; omega) (by show _ ≤ 7293033; omega) (by decide +kernel) (fun H3 z => ?_)
  have h3 := h2.z z
  have n3 := n2.kept z (Nat.zero_le _)
  have hw := hw.kept z (Or.inr (Nat.zero_le _))
  refine aw_b (pc' := 2537) (lv' := (7, .int y) :: (6, .int kx) :: lvL G i) (st' := [.int kx, .int (t' 0 6)]) [(2535, .iload 6, 2, .null)] (by decide +kernel) rfl ?_
  refine aw_ic_eq (off := 5) 2542 (by decide) (by decide +kernel) (fun _ => ?_) (fun hne => absurd e6 hne)
  refine aw_b (pc' := 2544) (lv' := (7, .int y) :: (6, .int kx) :: lvL G i) (st' := [.int kx]) [(2542, .iload 6, 2, .null)] (by decide +kernel) rfl ?_
  have fin : aw E mL_law Q 2559 ((7, .int y) :: (6, .int kx) :: lvL G i) [] H3 (k + 1) (n + 6) := by
    refine aw_b (pc' := 3097) (lv' := (7, .int y) :: (6, .int kx) :: lvL G i) (st' := []) [(2559, .goto 538, 3, .null)] (by decide +kernel) rfl ?_
    refine aw_lv (lv' := lvL G i) [2, 3, 4, 5, 6, 7] rfl ?_
    exact aw_widen (by omega) (by omega) (kk H3 s' t' f' h3 n3 hF)
  refine aw_if_ne (off := 15) 2559 (by decide) (by decide +kernel) (fun _ => fin) (fun h0 => ?_)
  obtain ⟨e, q1, f0, rfl, q2⟩ := hw h0
  refine aw_b (pc' := 2549) (lv' := (7, .int y) :: (6, .int kx) :: lvL G i) (st' := [.int (nI 0), .ref (lO G)]) [(2547, .aload_n 3, 1, .null), (2548, .iconst 0, 1, .int (nI 0))] (by decide +kernel) rfl ?_
  refine aw_lald q1 (ib_in (by decide)) (by decide +kernel) ?_
  refine aw_b (pc' := 2554) (lv' := (7, .int y) :: (6, .int kx) :: lvL G i) (st' := [.int (lg_cmp (f0 (Int32.toNatClampNeg (nI 0))) ((y).toInt64))]) [(2550, .iload 7, 2, .null), (2552, .i2l, 1, .null), (2553, .lcmp, 1, .null)] (by decide +kernel) rfl ?_
  refine aw_if_eq (off := 5) 2559 (by decide) (by decide +kernel) (fun _ => fin) (fun hne => absurd ?_ hne)
  rw [lg_cmp_eq]
  exact q2
theorem lw_s_hurtOf : Cond.static mL_hurtOf.1 ∈ uw_ := (uw_mem 1357 (by decide +kernel) (by decide +kernel))
theorem lw_n_hurtOf : nok_ mL_hurtOf 3 := by decide +kernel
theorem lw_l301 : Cond.methodLink RL 301 yL_hurtOf ∈ uw_ := (uw_mem 1356 (by decide +kernel) (by decide +kernel))
theorem lw_l303 : Cond.methodLink RL 303 yX8_hurtOf ∈ uw_ := (uw_mem 2059 (by decide +kernel) (by decide +kernel))
set_option maxHeartbeats 4000000 in
theorem lc_44 {E : ev_} {G : lx_} {H : Heap} {s t : st_} {f : Nat → Option Nat} {i k n : Nat} {Q : po_} (hX : exo_ E) (hg : ge_ E G) (hb : LB_ E G H s t f) (hi : i + 4 ≤ lL G) (hc : CL_ E G H mX7_hurtOf [.ref (lA G), .int (pq_ G i 1)] vi_ g1_ t (fX8_hurtOf t ((pq_ G i 1))) (fun _ => True)) (hk : k + 80 ≤ 601024) (hn : n + 9000 ≤ 7293033) (kk : LN_ E G Q i (k + 80) (n + 9000)) : aw E mL_law Q 2562 (lvL G i) [] H k n := by
  obtain ⟨s', v, t', y, PP, hs, eB, hoa, hF, hZ, hP⟩ := hc
  have hfB : ev_fr E (lB G) := Nat.le_trans hg.1 (by have := hg.2.1; omega)
  have hfO : ev_fr E (lO G) := Nat.le_trans hg.1 (by have := hg; unfold ge_ at this; omega)
  refine aw_b (pc' := 2568) (lv' := lvL G i) (st' := [.int (nI i + nI 1), .ref (lb G), .ref (lA G)]) [(2562, .aload_n 1, 1, .null), (2563, .aload_n 0, 1, .null), (2564, .iload 5, 2, .null), (2566, .iconst 1, 1, .int (nI 1)), (2567, .iadd, 1, .null)] (by decide +kernel) rfl ?_
  refine aw_sld hb.1 (ib_in (sc_j hi hg.2.2.2.2.2 (by decide))) (by decide +kernel) ?_
  refine aw_b (pc' := 2570) (lv' := lvL G i) (st' := [.ref (lO G), .int (pq_ G i 1), .ref (lA G)]) [(2569, .aload_n 3, 1, .null)] (by decide +kernel) rfl ?_
  refine aw_csw (rest := []) (u := 1) (u6 := 6) (wL_hurtOf hX hs (hA_ hb) hfO (fun H1 q => by obtain ⟨f', q1, -⟩ := hP H1 q; exact q1.2.2.2.2.1) (fun c e => by subst e; exact hoa.2)) rfl ckL_hurtOf inL_ nmL_ lw_s_hurtOf lw_l301 lw_n_hurtOf rfl (by decide +kernel) rfl rfl rfl (Nat.le_of_ble_eq_true rfl) (by show _ ≤ 601024; omega) (by show _ ≤ 7293033; omega) (by decide +kernel) wq_r (fun r H1 _ hq => ?_)
  obtain ⟨kx, f', rfl, h1, n1, e6, hw⟩ := wq0 out_lo hg hoa hP hq
  show aw E mL_law Q 2573 (lvL G i) [.int kx] H1 (k + 1) (n + 6)
  refine aw_b (pc' := 2581) (lv' := (6, .int kx) :: lvL G i) (st' := [.int (nI i + nI 1), .ref (lb G), .ref (lB G)]) [(2573, .istore 6, 2, .null), (2575, .aload_n 2, 1, .null), (2576, .aload_n 0, 1, .null), (2577, .iload 5, 2, .null), (2579, .iconst 1, 1, .int (nI 1)), (2580, .iadd, 1, .null)] (by decide +kernel) rfl ?_
  refine aw_sld h1.1 (ib_in (sc_j hi hg.2.2.2.2.2 (by decide))) (by decide +kernel) ?_
  refine aw_cv (rest := []) (st1 := [.int y]) (lB G) 0 (kX8_hurtOf eB h1.2.2.2.1 hfB) rfl rfl ckX8_hurtOf lw_l303 h1.2.2.2.1 eo_O_0 ⟨_, _, rfl⟩ nkX8_hurtOf rfl (by decide +kernel) rfl (Nat.le_of_ble_eq_true rfl) (by show _ ≤ 601024; omega) (by show _ ≤ 7293033; omega) (by decide +kernel) (fun H2 z => ?_)
  obtain ⟨z, hn2⟩ := z
  have h2 := h1.mod hg z hn2
  have n2 := n1.kept z (by have := hg; unfold ge_ at this; omega)
  have hw := hw.kept z (Or.inr (by have := hg; unfold ge_ at this; omega))
  refine aw_b (pc' := 2588) (lv' := (7, .int y) :: (6, .int kx) :: lvL G i) (st' := [.ref (lB G)]) [(2585, .istore 7, 2, .null), (2587, .aload_n 2, 1, .null)] (by decide +kernel) rfl ?_
  refine aw_cv (rest := []) (st1 := [.int (t' 0 6)]) (lB G) 0 (kX8_thrown rfl h2.2.2.2.1) rfl rfl ckX8_thrown lw_l167 h2.2.2.2.1 eo_O_0 ⟨_, _, rfl⟩ nkX8_thrown rfl (by decide +kernel) rfl (Nat.le_of_ble_eq_true rfl) (by show _ ≤ 601024; omega) (by show _ ≤ 7293033; omega) (by decide +kernel) (fun H3 z => ?_)
  have h3 := h2.z z
  have n3 := n2.kept z (Nat.zero_le _)
  have hw := hw.kept z (Or.inr (Nat.zero_le _))
  refine aw_b (pc' := 2593) (lv' := (7, .int y) :: (6, .int kx) :: lvL G i) (st' := [.int kx, .int (t' 0 6)]) [(2591, .iload 6, 2, .null)] (by decide +kernel) rfl ?_
  refine aw_ic_eq (off := 5) 2598 (by decide) (by decide +kernel) (fun _ => ?_) (fun hne => absurd e6 hne)
  refine aw_b (pc' := 2600) (lv' := (7, .int y) :: (6, .int kx) :: lvL G i) (st' := [.int kx]) [(2598, .iload 6, 2, .null)] (by decide +kernel) rfl ?_
  have fin : aw E mL_law Q 2615 ((7, .int y) :: (6, .int kx) :: lvL G i) [] H3 (k + 1) (n + 6) := by
    refine aw_b (pc' := 3097) (lv' := (7, .int y) :: (6, .int kx) :: lvL G i) (st' := []) [(2615, .goto 482, 3, .null)] (by decide +kernel) rfl ?_
    refine aw_lv (lv' := lvL G i) [2, 3, 4, 5, 6, 7] rfl ?_
    exact aw_widen (by omega) (by omega) (kk H3 s' t' f' h3 n3 hF)
  refine aw_if_ne (off := 15) 2615 (by decide) (by decide +kernel) (fun _ => fin) (fun h0 => ?_)
  obtain ⟨e, q1, f0, rfl, q2⟩ := hw h0
  refine aw_b (pc' := 2605) (lv' := (7, .int y) :: (6, .int kx) :: lvL G i) (st' := [.int (nI 0), .ref (lO G)]) [(2603, .aload_n 3, 1, .null), (2604, .iconst 0, 1, .int (nI 0))] (by decide +kernel) rfl ?_
  refine aw_lald q1 (ib_in (by decide)) (by decide +kernel) ?_
  refine aw_b (pc' := 2610) (lv' := (7, .int y) :: (6, .int kx) :: lvL G i) (st' := [.int (lg_cmp (f0 (Int32.toNatClampNeg (nI 0))) ((y).toInt64))]) [(2606, .iload 7, 2, .null), (2608, .i2l, 1, .null), (2609, .lcmp, 1, .null)] (by decide +kernel) rfl ?_
  refine aw_if_eq (off := 5) 2615 (by decide) (by decide +kernel) (fun _ => fin) (fun hne => absurd ?_ hne)
  rw [lg_cmp_eq]
  exact q2
theorem lw_l304 : Cond.methodLink RL 304 yX7_worst ∈ uw_ := (uw_mem 771 (by decide +kernel) (by decide +kernel))
theorem lw_l307 : Cond.methodLink RL 307 yX8_worst ∈ uw_ := (uw_mem 2063 (by decide +kernel) (by decide +kernel))
set_option maxHeartbeats 4000000 in
theorem lc_45 {E : ev_} {G : lx_} {H : Heap} {s t : st_} {f : Nat → Option Nat} {i k n : Nat} {Q : po_} (hg : ge_ E G) (hb : LB_ E G H s t f) (hs0 : SN_ E H (lP G + 1) f t) (hi : i + 4 ≤ lL G) (hc : CV_ E H (lA G) mX7_worst [.ref (lA G)] t (fX8_worst t)) (hk : k + 80 ≤ 601024) (hn : n + 9000 ≤ 7293033) (kk : LN_ E G Q i (k + 80) (n + 9000)) : aw E mL_law Q 2618 (lvL G i) [] H k n := by
  obtain ⟨s', v, t', hs, eB, hF, he⟩ := hc
  have hfB : ev_fr E (lB G) := Nat.le_trans hg.1 (by have := hg.2.1; omega)
  refine aw_b (pc' := 2619) (lv' := lvL G i) (st' := [.ref (lA G)]) [(2618, .aload_n 1, 1, .null)] (by decide +kernel) rfl ?_
  refine aw_cv (rest := []) (st1 := [.int v]) (lA G) 0 hs rfl rfl ckX7_worst lw_l304 hb.2.1 eo_M_0 ⟨_, _, rfl⟩ nkX7_worst rfl (by decide +kernel) rfl (Nat.le_of_ble_eq_true rfl) (by show _ ≤ 601024; omega) (by show _ ≤ 7293033; omega) (by decide +kernel) (fun H1 z => ?_)
  have h1 := hb.cls hg z.1 z.2
  have n1 := (hs0.kept z.1 (by have := hg; unfold ge_ at this; omega)).md he
  refine aw_b (pc' := 2623) (lv' := lvL G i) (st' := [.ref (lB G), .int v]) [(2622, .aload_n 2, 1, .null)] (by decide +kernel) rfl ?_
  refine aw_cv (rest := [.int v]) (st1 := [.int v, .int v]) (lB G) 0 (kX8_worst eB h1.2.2.2.1 hfB) rfl rfl ckX8_worst lw_l307 h1.2.2.2.1 eo_O_0 ⟨_, _, rfl⟩ nkX8_worst rfl (by decide +kernel) rfl (Nat.le_of_ble_eq_true rfl) (by show _ ≤ 601024; omega) (by show _ ≤ 7293033; omega) (by decide +kernel) (fun H2 z => ?_)
  obtain ⟨z, hn2⟩ := z
  have h2 := h1.mod hg z hn2
  have n2 := n1.kept z (by have := hg; unfold ge_ at this; omega)
  refine aw_ic_eq (off := 471) 3097 (by decide) (by decide +kernel) (fun _ => ?_) (fun hne => absurd rfl hne)
  exact aw_widen (by omega) (by omega) (kk H2 s' t' f h2 n2 hF)
theorem lw_s_regretIn : Cond.static mL_regretIn.1 ∈ uw_ := (uw_mem 1364 (by decide +kernel) (by decide +kernel))
theorem lw_n_regretIn : nok_ mL_regretIn 3 := by decide +kernel
theorem lw_l308 : Cond.methodLink RL 308 yL_regretIn ∈ uw_ := (uw_mem 1363 (by decide +kernel) (by decide +kernel))
theorem lw_l310 : Cond.methodLink RL 310 yX8_regretIn ∈ uw_ := (uw_mem 2067 (by decide +kernel) (by decide +kernel))
set_option maxHeartbeats 4000000 in
theorem lc_46 {E : ev_} {G : lx_} {H : Heap} {s t : st_} {f : Nat → Option Nat} {i k n : Nat} {Q : po_} (hX : exo_ E) (hg : ge_ E G) (hb : LB_ E G H s t f) (hi : i + 4 ≤ lL G) (hc : CL_ E G H mX7_regretIn [.ref (lA G), .int (pq_ G i 1)] vi_ g1_ t (fX8_regretIn t ((pq_ G i 1))) (fun _ => True)) (hk : k + 80 ≤ 601024) (hn : n + 9000 ≤ 7293033) (kk : LN_ E G Q i (k + 80) (n + 9000)) : aw E mL_law Q 2631 (lvL G i) [] H k n := by
  obtain ⟨s', v, t', y, PP, hs, eB, hoa, hF, hZ, hP⟩ := hc
  have hfB : ev_fr E (lB G) := Nat.le_trans hg.1 (by have := hg.2.1; omega)
  have hfO : ev_fr E (lO G) := Nat.le_trans hg.1 (by have := hg; unfold ge_ at this; omega)
  refine aw_b (pc' := 2637) (lv' := lvL G i) (st' := [.int (nI i + nI 1), .ref (lb G), .ref (lA G)]) [(2631, .aload_n 1, 1, .null), (2632, .aload_n 0, 1, .null), (2633, .iload 5, 2, .null), (2635, .iconst 1, 1, .int (nI 1)), (2636, .iadd, 1, .null)] (by decide +kernel) rfl ?_
  refine aw_sld hb.1 (ib_in (sc_j hi hg.2.2.2.2.2 (by decide))) (by decide +kernel) ?_
  refine aw_b (pc' := 2639) (lv' := lvL G i) (st' := [.ref (lO G), .int (pq_ G i 1), .ref (lA G)]) [(2638, .aload_n 3, 1, .null)] (by decide +kernel) rfl ?_
  refine aw_csw (rest := []) (u := 1) (u6 := 6) (wL_regretIn hX hs (hA_ hb) hfO (fun H1 q => by obtain ⟨f', q1, -⟩ := hP H1 q; exact q1.2.2.2.2.1) (fun c e => by subst e; exact hoa.2)) rfl ckL_regretIn inL_ nmL_ lw_s_regretIn lw_l308 lw_n_regretIn rfl (by decide +kernel) rfl rfl rfl (Nat.le_of_ble_eq_true rfl) (by show _ ≤ 601024; omega) (by show _ ≤ 7293033; omega) (by decide +kernel) wq_r (fun r H1 _ hq => ?_)
  obtain ⟨kx, f', rfl, h1, n1, e6, hw⟩ := wq0 out_lo hg hoa hP hq
  show aw E mL_law Q 2642 (lvL G i) [.int kx] H1 (k + 1) (n + 6)
  refine aw_b (pc' := 2650) (lv' := (6, .int kx) :: lvL G i) (st' := [.int (nI i + nI 1), .ref (lb G), .ref (lB G)]) [(2642, .istore 6, 2, .null), (2644, .aload_n 2, 1, .null), (2645, .aload_n 0, 1, .null), (2646, .iload 5, 2, .null), (2648, .iconst 1, 1, .int (nI 1)), (2649, .iadd, 1, .null)] (by decide +kernel) rfl ?_
  refine aw_sld h1.1 (ib_in (sc_j hi hg.2.2.2.2.2 (by decide))) (by decide +kernel) ?_
  refine aw_cv (rest := []) (st1 := [.int y]) (lB G) 0 (kX8_regretIn eB h1.2.2.2.1 hfB) rfl rfl ckX8_regretIn lw_l310 h1.2.2.2.1 eo_O_0 ⟨_, _, rfl⟩ nkX8_regretIn rfl (by decide +kernel) rfl (Nat.le_of_ble_eq_true rfl) (by show _ ≤ 601024; omega) (by show _ ≤ 7293033; omega) (by decide +kernel) (fun H2 z => ?_)
  obtain ⟨z, hn2⟩ := z
  have h2 := h1.mod hg z hn2
  have n2 := n1.kept z (by have := hg; unfold ge_ at this; omega)
  have hw := hw.kept z (Or.inr (by have := hg; unfold ge_ at this; omega))
  refine aw_b (pc' := 2657) (lv' := (7, .int y) :: (6, .int kx) :: lvL G i) (st' := [.ref (lB G)]) [(2654, .istore 7, 2, .null), (2656, .aload_n 2, 1, .null)] (by decide +kernel) rfl ?_
  refine aw_cv (rest := []) (st1 := [.int (t' 0 6)]) (lB G) 0 (kX8_thrown rfl h2.2.2.2.1) rfl rfl ckX8_thrown lw_l167 h2.2.2.2.1 eo_O_0 ⟨_, _, rfl⟩ nkX8_thrown rfl (by decide +kernel) rfl (Nat.le_of_ble_eq_true rfl) (by show _ ≤ 601024; omega) (by show _ ≤ 7293033; omega) (by decide +kernel) (fun H3 z => ?_)
  have h3 := h2.z z
  have n3 := n2.kept z (Nat.zero_le _)
  have hw := hw.kept z (Or.inr (Nat.zero_le _))
  refine aw_b (pc' := 2662) (lv' := (7, .int y) :: (6, .int kx) :: lvL G i) (st' := [.int kx, .int (t' 0 6)]) [(2660, .iload 6, 2, .null)] (by decide +kernel) rfl ?_
  refine aw_ic_eq (off := 5) 2667 (by decide) (by decide +kernel) (fun _ => ?_) (fun hne => absurd e6 hne)
  refine aw_b (pc' := 2669) (lv' := (7, .int y) :: (6, .int kx) :: lvL G i) (st' := [.int kx]) [(2667, .iload 6, 2, .null)] (by decide +kernel) rfl ?_
  have fin : aw E mL_law Q 2684 ((7, .int y) :: (6, .int kx) :: lvL G i) [] H3 (k + 1) (n + 6) := by
    refine aw_b (pc' := 3097) (lv' := (7, .int y) :: (6, .int kx) :: lvL G i) (st' := []) [(2684, .goto 413, 3, .null)] (by decide +kernel) rfl ?_
    refine aw_lv (lv' := lvL G i) [2, 3, 4, 5, 6, 7] rfl ?_
    exact aw_widen (by omega) (by omega) (kk H3 s' t' f' h3 n3 hF)
  refine aw_if_ne (off := 15) 2684 (by decide) (by decide +kernel) (fun _ => fin) (fun h0 => ?_)
  obtain ⟨e, q1, f0, rfl, q2⟩ := hw h0
  refine aw_b (pc' := 2674) (lv' := (7, .int y) :: (6, .int kx) :: lvL G i) (st' := [.int (nI 0), .ref (lO G)]) [(2672, .aload_n 3, 1, .null), (2673, .iconst 0, 1, .int (nI 0))] (by decide +kernel) rfl ?_
  refine aw_lald q1 (ib_in (by decide)) (by decide +kernel) ?_
  refine aw_b (pc' := 2679) (lv' := (7, .int y) :: (6, .int kx) :: lvL G i) (st' := [.int (lg_cmp (f0 (Int32.toNatClampNeg (nI 0))) ((y).toInt64))]) [(2675, .iload 7, 2, .null), (2677, .i2l, 1, .null), (2678, .lcmp, 1, .null)] (by decide +kernel) rfl ?_
  refine aw_if_eq (off := 5) 2684 (by decide) (by decide +kernel) (fun _ => fin) (fun hne => absurd ?_ hne)
  rw [lg_cmp_eq]
  exact q2
theorem lw_s_costIn : Cond.static mL_costIn.1 ∈ uw_ := (uw_mem 1371 (by decide +kernel) (by decide +kernel))
theorem lw_n_costIn : nok_ mL_costIn 4 := by decide +kernel
theorem lw_l311 : Cond.methodLink RL 311 yL_costIn ∈ uw_ := (uw_mem 1370 (by decide +kernel) (by decide +kernel))
theorem lw_l313 : Cond.methodLink RL 313 yX8_costIn ∈ uw_ := (uw_mem 2071 (by decide +kernel) (by decide +kernel))
set_option maxHeartbeats 4000000 in
theorem lc_47 {E : ev_} {G : lx_} {H : Heap} {s t : st_} {f : Nat → Option Nat} {i k n : Nat} {Q : po_} (hX : exo_ E) (hg : ge_ E G) (hb : LB_ E G H s t f) (hi : i + 4 ≤ lL G) (hc : CL_ E G H mX7_costIn [.ref (lA G), .int (pq_ G i 1), .int (pq_ G i 2)] vi_ g2_ t (fX8_costIn t ((pq_ G i 1)) ((pq_ G i 2))) (fun _ => True)) (hk : k + 80 ≤ 601024) (hn : n + 9000 ≤ 7293033) (kk : LN_ E G Q i (k + 80) (n + 9000)) : aw E mL_law Q 2687 (lvL G i) [] H k n := by
  obtain ⟨s', v, t', y, PP, hs, eB, hoa, hF, hZ, hP⟩ := hc
  have hfB : ev_fr E (lB G) := Nat.le_trans hg.1 (by have := hg.2.1; omega)
  have hfO : ev_fr E (lO G) := Nat.le_trans hg.1 (by have := hg; unfold ge_ at this; omega)
  refine aw_b (pc' := 2693) (lv' := lvL G i) (st' := [.int (nI i + nI 1), .ref (lb G), .ref (lA G)]) [(2687, .aload_n 1, 1, .null), (2688, .aload_n 0, 1, .null), (2689, .iload 5, 2, .null), (2691, .iconst 1, 1, .int (nI 1)), (2692, .iadd, 1, .null)] (by decide +kernel) rfl ?_
  refine aw_sld hb.1 (ib_in (sc_j hi hg.2.2.2.2.2 (by decide))) (by decide +kernel) ?_
  refine aw_b (pc' := 2699) (lv' := lvL G i) (st' := [.int (nI i + nI 2), .ref (lb G), .int (pq_ G i 1), .ref (lA G)]) [(2694, .aload_n 0, 1, .null), (2695, .iload 5, 2, .null), (2697, .iconst 2, 1, .int (nI 2)), (2698, .iadd, 1, .null)] (by decide +kernel) rfl ?_
  refine aw_sld hb.1 (ib_in (sc_j hi hg.2.2.2.2.2 (by decide))) (by decide +kernel) ?_
  refine aw_b (pc' := 2701) (lv' := lvL G i) (st' := [.ref (lO G), .int (pq_ G i 2), .int (pq_ G i 1), .ref (lA G)]) [(2700, .aload_n 3, 1, .null)] (by decide +kernel) rfl ?_
  refine aw_csw (rest := []) (u := 2) (u6 := 12) (wL_costIn hX hs (hA_ hb) hfO (fun H1 q => by obtain ⟨f', q1, -⟩ := hP H1 q; exact q1.2.2.2.2.1) (fun c e => by subst e; exact hoa.2)) rfl ckL_costIn inL_ nmL_ lw_s_costIn lw_l311 lw_n_costIn rfl (by decide +kernel) rfl rfl rfl (Nat.le_of_ble_eq_true rfl) (by show _ ≤ 601024; omega) (by show _ ≤ 7293033; omega) (by decide +kernel) wq_r (fun r H1 _ hq => ?_)
  obtain ⟨kx, f', rfl, h1, n1, e6, hw⟩ := wq0 out_lo hg hoa hP hq
  show aw E mL_law Q 2704 (lvL G i) [.int kx] H1 (k + 2) (n + 12)
  refine aw_b (pc' := 2712) (lv' := (6, .int kx) :: lvL G i) (st' := [.int (nI i + nI 1), .ref (lb G), .ref (lB G)]) [(2704, .istore 6, 2, .null), (2706, .aload_n 2, 1, .null), (2707, .aload_n 0, 1, .null), (2708, .iload 5, 2, .null), (2710, .iconst 1, 1, .int (nI 1)), (2711, .iadd, 1, .null)] (by decide +kernel) rfl ?_
  refine aw_sld h1.1 (ib_in (sc_j hi hg.2.2.2.2.2 (by decide))) (by decide +kernel) ?_
  refine aw_b (pc' := 2718) (lv' := (6, .int kx) :: lvL G i) (st' := [.int (nI i + nI 2), .ref (lb G), .int (pq_ G i 1), .ref (lB G)]) [(2713, .aload_n 0, 1, .null), (2714, .iload 5, 2, .null), (2716, .iconst 2, 1, .int (nI 2)), (2717, .iadd, 1, .null)] (by decide +kernel) rfl ?_
  refine aw_sld h1.1 (ib_in (sc_j hi hg.2.2.2.2.2 (by decide))) (by decide +kernel) ?_
  refine aw_cv (rest := []) (st1 := [.int y]) (lB G) 0 (kX8_costIn eB h1.2.2.2.1 hfB) rfl rfl ckX8_costIn lw_l313 h1.2.2.2.1 eo_O_0 ⟨_, _, rfl⟩ nkX8_costIn rfl (by decide +kernel) rfl (Nat.le_of_ble_eq_true rfl) (by show _ ≤ 601024; omega) (by show _ ≤ 7293033; omega) (by decide +kernel) (fun H2 z => ?_)
  obtain ⟨z, hn2⟩ := z
  have h2 := h1.mod hg z hn2
  have n2 := n1.kept z (by have := hg; unfold ge_ at this; omega)
  have hw := hw.kept z (Or.inr (by have := hg; unfold ge_ at this; omega))
  refine aw_b (pc' := 2725) (lv' := (7, .int y) :: (6, .int kx) :: lvL G i) (st' := [.ref (lB G)]) [(2722, .istore 7, 2, .null), (2724, .aload_n 2, 1, .null)] (by decide +kernel) rfl ?_
  refine aw_cv (rest := []) (st1 := [.int (t' 0 6)]) (lB G) 0 (kX8_thrown rfl h2.2.2.2.1) rfl rfl ckX8_thrown lw_l167 h2.2.2.2.1 eo_O_0 ⟨_, _, rfl⟩ nkX8_thrown rfl (by decide +kernel) rfl (Nat.le_of_ble_eq_true rfl) (by show _ ≤ 601024; omega) (by show _ ≤ 7293033; omega) (by decide +kernel) (fun H3 z => ?_)
  have h3 := h2.z z
  have n3 := n2.kept z (Nat.zero_le _)
  have hw := hw.kept z (Or.inr (Nat.zero_le _))
  refine aw_b (pc' := 2730) (lv' := (7, .int y) :: (6, .int kx) :: lvL G i) (st' := [.int kx, .int (t' 0 6)]) [(2728, .iload 6, 2, .null)] (by decide +kernel) rfl ?_
  refine aw_ic_eq (off := 5) 2735 (by decide) (by decide +kernel) (fun _ => ?_) (fun hne => absurd e6 hne)
  refine aw_b (pc' := 2737) (lv' := (7, .int y) :: (6, .int kx) :: lvL G i) (st' := [.int kx]) [(2735, .iload 6, 2, .null)] (by decide +kernel) rfl ?_
  have fin : aw E mL_law Q 2752 ((7, .int y) :: (6, .int kx) :: lvL G i) [] H3 (k + 2) (n + 12) := by
    refine aw_b (pc' := 3097) (lv' := (7, .int y) :: (6, .int kx) :: lvL G i) (st' := []) [(2752, .goto 345, 3, .null)] (by decide +kernel) rfl ?_
    refine aw_lv (lv' := lvL G i) [2, 3, 4, 5, 6, 7] rfl ?_
    exact aw_widen (by omega) (by omega) (kk H3 s' t' f' h3 n3 hF)
  refine aw_if_ne (off := 15) 2752 (by decide) (by decide +kernel) (fun _ => fin) (fun h0 => ?_)
  obtain ⟨e, q1, f0, rfl, q2⟩ := hw h0
  refine aw_b (pc' := 2742) (lv' := (7, .int y) :: (6, .int kx) :: lvL G i) (st' := [.int (nI 0), .ref (lO G)]) [(2740, .aload_n 3, 1, .null), (2741, .iconst 0, 1, .int (nI 0))] (by decide +kernel) rfl ?_
  refine aw_lald q1 (ib_in (by decide)) (by decide +kernel) ?_
  refine aw_b (pc' := 2747) (lv' := (7, .int y) :: (6, .int kx) :: lvL G i) (st' := [.int (lg_cmp (f0 (Int32.toNatClampNeg (nI 0))) ((y).toInt64))]) [(2743, .iload 7, 2, .null), (2745, .i2l, 1, .null), (2746, .lcmp, 1, .null)] (by decide +kernel) rfl ?_
  refine aw_if_eq (off := 5) 2752 (by decide) (by decide +kernel) (fun _ => fin) (fun hne => absurd ?_ hne)
  rw [lg_cmp_eq]
  exact q2
theorem lw_l314 : Cond.methodLink RL 314 yX7_breachIn ∈ uw_ := (uw_mem 813 (by decide +kernel) (by decide +kernel))
theorem lw_l317 : Cond.methodLink RL 317 yX8_breachIn ∈ uw_ := (uw_mem 2075 (by decide +kernel) (by decide +kernel))
set_option maxHeartbeats 4000000 in
theorem lc_48 {E : ev_} {G : lx_} {H : Heap} {s t : st_} {f : Nat → Option Nat} {i k n : Nat} {Q : po_} (hg : ge_ E G) (hb : LB_ E G H s t f) (hs0 : SN_ E H (lP G + 1) f t) (hi : i + 4 ≤ lL G) (hc : CV_ E H (lA G) mX7_breachIn [.ref (lA G)] t (fX8_breachIn t)) (hk : k + 80 ≤ 601024) (hn : n + 9000 ≤ 7293033) (kk : LN_ E G Q i (k + 80) (n + 9000)) : aw E mL_law Q 2755 (lvL G i) [] H k n := by
  obtain ⟨s', v, t', hs, eB, hF, he⟩ := hc
  have hfB : ev_fr E (lB G) := Nat.le_trans hg.1 (by have := hg.2.1; omega)
  refine aw_b (pc' := 2756) (lv' := lvL G i) (st' := [.ref (lA G)]) [(2755, .aload_n 1, 1, .null)] (by decide +kernel) rfl ?_
  refine aw_cv (rest := []) (st1 := [.int v]) (lA G) 0 hs rfl rfl ckX7_breachIn lw_l314 hb.2.1 eo_M_0 ⟨_, _, rfl⟩ nkX7_breachIn rfl (by decide +kernel) rfl (Nat.le_of_ble_eq_true rfl) (by show _ ≤ 601024; omega) (by show _ ≤ 7293033; omega) (by decide +kernel) (fun H1 z => ?_)
  have h1 := hb.cls hg z.1 z.2
  have n1 := (hs0.kept z.1 (by have := hg; unfold ge_ at this; omega)).md he
  refine aw_b (pc' := 2760) (lv' := lvL G i) (st' := [.ref (lB G), .int v]) [(2759, .aload_n 2, 1, .null)] (by decide +kernel) rfl ?_
  refine aw_cv (rest := [.int v]) (st1 := [.int v, .int v]) (lB G) 0 (kX8_breachIn eB h1.2.2.2.1 hfB) rfl rfl ckX8_breachIn lw_l317 h1.2.2.2.1 eo_O_0 ⟨_, _, rfl⟩ nkX8_breachIn rfl (by decide +kernel) rfl (Nat.le_of_ble_eq_true rfl) (by show _ ≤ 601024; omega) (by show _ ≤ 7293033; omega) (by decide +kernel) (fun H2 z => ?_)
  obtain ⟨z, hn2⟩ := z
  have h2 := h1.mod hg z hn2
  have n2 := n1.kept z (by have := hg; unfold ge_ at this; omega)
  refine aw_ic_eq (off := 334) 3097 (by decide) (by decide +kernel) (fun _ => ?_) (fun hne => absurd rfl hne)
  exact aw_widen (by omega) (by omega) (kk H2 s' t' f h2 n2 hF)
theorem lw_s_regretKeeping : Cond.static mL_regretKeeping.1 ∈ uw_ := (uw_mem 1378 (by decide +kernel) (by decide +kernel))
theorem lw_n_regretKeeping : nok_ mL_regretKeeping 4 := by decide +kernel
theorem lw_l318 : Cond.methodLink RL 318 yL_regretKeeping ∈ uw_ := (uw_mem 1377 (by decide +kernel) (by decide +kernel))
theorem lw_l320 : Cond.methodLink RL 320 yX8_regretKeeping ∈ uw_ := (uw_mem 2079 (by decide +kernel) (by decide +kernel))
set_option maxHeartbeats 4000000 in
theorem lc_49 {E : ev_} {G : lx_} {H : Heap} {s t : st_} {f : Nat → Option Nat} {i k n : Nat} {Q : po_} (hX : exo_ E) (hg : ge_ E G) (hb : LB_ E G H s t f) (hi : i + 4 ≤ lL G) (hc : CL_ E G H mX7_regretKeeping [.ref (lA G), .int (pq_ G i 1), .int (pq_ G i 2)] vi_ g2_ t (fX8_regretKeeping t ((pq_ G i 1)) ((pq_ G i 2))) (fun _ => True)) (hk : k + 80 ≤ 601024) (hn : n + 9000 ≤ 7293033) (kk : LN_ E G Q i (k + 80) (n + 9000)) : aw E mL_law Q 2768 (lvL G i) [] H k n := by
  obtain ⟨s', v, t', y, PP, hs, eB, hoa, hF, hZ, hP⟩ := hc
  have hfB : ev_fr E (lB G) := Nat.le_trans hg.1 (by have := hg.2.1; omega)
  have hfO : ev_fr E (lO G) := Nat.le_trans hg.1 (by have := hg; unfold ge_ at this; omega)
  refine aw_b (pc' := 2774) (lv' := lvL G i) (st' := [.int (nI i + nI 1), .ref (lb G), .ref (lA G)]) [(2768, .aload_n 1, 1, .null), (2769, .aload_n 0, 1, .null), (2770, .iload 5, 2, .null), (2772, .iconst 1, 1, .int (nI 1)), (2773, .iadd, 1, .null)] (by decide +kernel) rfl ?_
  refine aw_sld hb.1 (ib_in (sc_j hi hg.2.2.2.2.2 (by decide))) (by decide +kernel) ?_
  refine aw_b (pc' := 2780) (lv' := lvL G i) (st' := [.int (nI i + nI 2), .ref (lb G), .int (pq_ G i 1), .ref (lA G)]) [(2775, .aload_n 0, 1, .null), (2776, .iload 5, 2, .null), (2778, .iconst 2, 1, .int (nI 2)), (2779, .iadd, 1, .null)] (by decide +kernel) rfl ?_
  refine aw_sld hb.1 (ib_in (sc_j hi hg.2.2.2.2.2 (by decide))) (by decide +kernel) ?_
  refine aw_b (pc' := 2782) (lv' := lvL G i) (st' := [.ref (lO G), .int (pq_ G i 2), .int (pq_ G i 1), .ref (lA G)]) [(2781, .aload_n 3, 1, .null)] (by decide +kernel) rfl ?_
  refine aw_csw (rest := []) (u := 2) (u6 := 12) (wL_regretKeeping hX hs (hA_ hb) hfO (fun H1 q => by obtain ⟨f', q1, -⟩ := hP H1 q; exact q1.2.2.2.2.1) (fun c e => by subst e; exact hoa.2)) rfl ckL_regretKeeping inL_ nmL_ lw_s_regretKeeping lw_l318 lw_n_regretKeeping rfl (by decide +kernel) rfl rfl rfl (Nat.le_of_ble_eq_true rfl) (by show _ ≤ 601024; omega) (by show _ ≤ 7293033; omega) (by decide +kernel) wq_r (fun r H1 _ hq => ?_)
  obtain ⟨kx, f', rfl, h1, n1, e6, hw⟩ := wq0 out_lo hg hoa hP hq
  show aw E mL_law Q 2785 (lvL G i) [.int kx] H1 (k + 2) (n + 12)
  refine aw_b (pc' := 2793) (lv' := (6, .int kx) :: lvL G i) (st' := [.int (nI i + nI 1), .ref (lb G), .ref (lB G)]) [(2785, .istore 6, 2, .null), (2787, .aload_n 2, 1, .null), (2788, .aload_n 0, 1, .null), (2789, .iload 5, 2, .null), (2791, .iconst 1, 1, .int (nI 1)), (2792, .iadd, 1, .null)] (by decide +kernel) rfl ?_
  refine aw_sld h1.1 (ib_in (sc_j hi hg.2.2.2.2.2 (by decide))) (by decide +kernel) ?_
  refine aw_b (pc' := 2799) (lv' := (6, .int kx) :: lvL G i) (st' := [.int (nI i + nI 2), .ref (lb G), .int (pq_ G i 1), .ref (lB G)]) [(2794, .aload_n 0, 1, .null), (2795, .iload 5, 2, .null), (2797, .iconst 2, 1, .int (nI 2)), (2798, .iadd, 1, .null)] (by decide +kernel) rfl ?_
  refine aw_sld h1.1 (ib_in (sc_j hi hg.2.2.2.2.2 (by decide))) (by decide +kernel) ?_
  refine aw_cv (rest := []) (st1 := [.int y]) (lB G) 0 (kX8_regretKeeping eB h1.2.2.2.1 hfB) rfl rfl ckX8_regretKeeping lw_l320 h1.2.2.2.1 eo_O_0 ⟨_, _, rfl⟩ nkX8_regretKeeping rfl (by decide +kernel) rfl (Nat.le_of_ble_eq_true rfl) (by show _ ≤ 601024; omega) (by show _ ≤ 7293033; omega) (by decide +kernel) (fun H2 z => ?_)
  obtain ⟨z, hn2⟩ := z
  have h2 := h1.mod hg z hn2
  have n2 := n1.kept z (by have := hg; unfold ge_ at this; omega)
  have hw := hw.kept z (Or.inr (by have := hg; unfold ge_ at this; omega))
  refine aw_b (pc' := 2806) (lv' := (7, .int y) :: (6, .int kx) :: lvL G i) (st' := [.ref (lB G)]) [(2803, .istore 7, 2, .null), (2805, .aload_n 2, 1, .null)] (by decide +kernel) rfl ?_
  refine aw_cv (rest := []) (st1 := [.int (t' 0 6)]) (lB G) 0 (kX8_thrown rfl h2.2.2.2.1) rfl rfl ckX8_thrown lw_l167 h2.2.2.2.1 eo_O_0 ⟨_, _, rfl⟩ nkX8_thrown rfl (by decide +kernel) rfl (Nat.le_of_ble_eq_true rfl) (by show _ ≤ 601024; omega) (by show _ ≤ 7293033; omega) (by decide +kernel) (fun H3 z => ?_)
  have h3 := h2.z z
  have n3 := n2.kept z (Nat.zero_le _)
  have hw := hw.kept z (Or.inr (Nat.zero_le _))
  refine aw_b (pc' := 2811) (lv' := (7, .int y) :: (6, .int kx) :: lvL G i) (st' := [.int kx, .int (t' 0 6)]) [(2809, .iload 6, 2, .null)] (by decide +kernel) rfl ?_
  refine aw_ic_eq (off := 5) 2816 (by decide) (by decide +kernel) (fun _ => ?_) (fun hne => absurd e6 hne)
  refine aw_b (pc' := 2818) (lv' := (7, .int y) :: (6, .int kx) :: lvL G i) (st' := [.int kx]) [(2816, .iload 6, 2, .null)] (by decide +kernel) rfl ?_
  have fin : aw E mL_law Q 2833 ((7, .int y) :: (6, .int kx) :: lvL G i) [] H3 (k + 2) (n + 12) := by
    refine aw_b (pc' := 3097) (lv' := (7, .int y) :: (6, .int kx) :: lvL G i) (st' := []) [(2833, .goto 264, 3, .null)] (by decide +kernel) rfl ?_
    refine aw_lv (lv' := lvL G i) [2, 3, 4, 5, 6, 7] rfl ?_
    exact aw_widen (by omega) (by omega) (kk H3 s' t' f' h3 n3 hF)
  refine aw_if_ne (off := 15) 2833 (by decide) (by decide +kernel) (fun _ => fin) (fun h0 => ?_)
  obtain ⟨e, q1, f0, rfl, q2⟩ := hw h0
  refine aw_b (pc' := 2823) (lv' := (7, .int y) :: (6, .int kx) :: lvL G i) (st' := [.int (nI 0), .ref (lO G)]) [(2821, .aload_n 3, 1, .null), (2822, .iconst 0, 1, .int (nI 0))] (by decide +kernel) rfl ?_
  refine aw_lald q1 (ib_in (by decide)) (by decide +kernel) ?_
  refine aw_b (pc' := 2828) (lv' := (7, .int y) :: (6, .int kx) :: lvL G i) (st' := [.int (lg_cmp (f0 (Int32.toNatClampNeg (nI 0))) ((y).toInt64))]) [(2824, .iload 7, 2, .null), (2826, .i2l, 1, .null), (2827, .lcmp, 1, .null)] (by decide +kernel) rfl ?_
  refine aw_if_eq (off := 5) 2833 (by decide) (by decide +kernel) (fun _ => fin) (fun hne => absurd ?_ hne)
  rw [lg_cmp_eq]
  exact q2
theorem lw_s_regretAgainst : Cond.static mL_regretAgainst.1 ∈ uw_ := (uw_mem 1385 (by decide +kernel) (by decide +kernel))
theorem lw_n_regretAgainst : nok_ mL_regretAgainst 4 := by decide +kernel
theorem lw_l321 : Cond.methodLink RL 321 yL_regretAgainst ∈ uw_ := (uw_mem 1384 (by decide +kernel) (by decide +kernel))
theorem lw_l323 : Cond.methodLink RL 323 yX8_regretAgainst ∈ uw_ := (uw_mem 2083 (by decide +kernel) (by decide +kernel))
set_option maxHeartbeats 4000000 in
theorem lc_50 {E : ev_} {G : lx_} {H : Heap} {s t : st_} {f : Nat → Option Nat} {i k n : Nat} {Q : po_} (hX : exo_ E) (hg : ge_ E G) (hb : LB_ E G H s t f) (hi : i + 4 ≤ lL G) (hc : CL_ E G H mX7_regretAgainst [.ref (lA G), .int (pq_ G i 1), .int (pq_ G i 2)] vi_ g1_ t (fX8_regretAgainst t ((pq_ G i 1)) ((pq_ G i 2))) (fun _ => True)) (hk : k + 80 ≤ 601024) (hn : n + 9000 ≤ 7293033) (kk : LN_ E G Q i (k + 80) (n + 9000)) : aw E mL_law Q 2836 (lvL G i) [] H k n := by
  obtain ⟨s', v, t', y, PP, hs, eB, hoa, hF, hZ, hP⟩ := hc
  have hfB : ev_fr E (lB G) := Nat.le_trans hg.1 (by have := hg.2.1; omega)
  have hfO : ev_fr E (lO G) := Nat.le_trans hg.1 (by have := hg; unfold ge_ at this; omega)
  refine aw_b (pc' := 2842) (lv' := lvL G i) (st' := [.int (nI i + nI 1), .ref (lb G), .ref (lA G)]) [(2836, .aload_n 1, 1, .null), (2837, .aload_n 0, 1, .null), (2838, .iload 5, 2, .null), (2840, .iconst 1, 1, .int (nI 1)), (2841, .iadd, 1, .null)] (by decide +kernel) rfl ?_
  refine aw_sld hb.1 (ib_in (sc_j hi hg.2.2.2.2.2 (by decide))) (by decide +kernel) ?_
  refine aw_b (pc' := 2848) (lv' := lvL G i) (st' := [.int (nI i + nI 2), .ref (lb G), .int (pq_ G i 1), .ref (lA G)]) [(2843, .aload_n 0, 1, .null), (2844, .iload 5, 2, .null), (2846, .iconst 2, 1, .int (nI 2)), (2847, .iadd, 1, .null)] (by decide +kernel) rfl ?_
  refine aw_sld hb.1 (ib_in (sc_j hi hg.2.2.2.2.2 (by decide))) (by decide +kernel) ?_
  refine aw_b (pc' := 2850) (lv' := lvL G i) (st' := [.ref (lO G), .int (pq_ G i 2), .int (pq_ G i 1), .ref (lA G)]) [(2849, .aload_n 3, 1, .null)] (by decide +kernel) rfl ?_
  refine aw_csw (rest := []) (u := 2) (u6 := 12) (wL_regretAgainst hX hs (hA_ hb) hfO (fun H1 q => by obtain ⟨f', q1, -⟩ := hP H1 q; exact q1.2.2.2.2.1) (fun c e => by subst e; exact hoa.2)) rfl ckL_regretAgainst inL_ nmL_ lw_s_regretAgainst lw_l321 lw_n_regretAgainst rfl (by decide +kernel) rfl rfl rfl (Nat.le_of_ble_eq_true rfl) (by show _ ≤ 601024; omega) (by show _ ≤ 7293033; omega) (by decide +kernel) wq_r (fun r H1 _ hq => ?_)
  obtain ⟨kx, f', rfl, h1, n1, e6, hw⟩ := wq0 out_lo hg hoa hP hq
  show aw E mL_law Q 2853 (lvL G i) [.int kx] H1 (k + 2) (n + 12)
  refine aw_b (pc' := 2861) (lv' := (6, .int kx) :: lvL G i) (st' := [.int (nI i + nI 1), .ref (lb G), .ref (lB G)]) [(2853, .istore 6, 2, .null), (2855, .aload_n 2, 1, .null), (2856, .aload_n 0, 1, .null), (2857, .iload 5, 2, .null), (2859, .iconst 1, 1, .int (nI 1)), (2860, .iadd, 1, .null)] (by decide +kernel) rfl ?_
  refine aw_sld h1.1 (ib_in (sc_j hi hg.2.2.2.2.2 (by decide))) (by decide +kernel) ?_
  refine aw_b (pc' := 2867) (lv' := (6, .int kx) :: lvL G i) (st' := [.int (nI i + nI 2), .ref (lb G), .int (pq_ G i 1), .ref (lB G)]) [(2862, .aload_n 0, 1, .null), (2863, .iload 5, 2, .null), (2865, .iconst 2, 1, .int (nI 2)), (2866, .iadd, 1, .null)] (by decide +kernel) rfl ?_
  refine aw_sld h1.1 (ib_in (sc_j hi hg.2.2.2.2.2 (by decide))) (by decide +kernel) ?_
  refine aw_cv (rest := []) (st1 := [.int y]) (lB G) 0 (kX8_regretAgainst eB h1.2.2.2.1 hfB) rfl rfl ckX8_regretAgainst lw_l323 h1.2.2.2.1 eo_O_0 ⟨_, _, rfl⟩ nkX8_regretAgainst rfl (by decide +kernel) rfl (Nat.le_of_ble_eq_true rfl) (by show _ ≤ 601024; omega) (by show _ ≤ 7293033; omega) (by decide +kernel) (fun H2 z => ?_)
  obtain ⟨z, hn2⟩ := z
  have h2 := h1.mod hg z hn2
  have n2 := n1.kept z (by have := hg; unfold ge_ at this; omega)
  have hw := hw.kept z (Or.inr (by have := hg; unfold ge_ at this; omega))
  refine aw_b (pc' := 2874) (lv' := (7, .int y) :: (6, .int kx) :: lvL G i) (st' := [.ref (lB G)]) [(2871, .istore 7, 2, .null), (2873, .aload_n 2, 1, .null)] (by decide +kernel) rfl ?_
  refine aw_cv (rest := []) (st1 := [.int (t' 0 6)]) (lB G) 0 (kX8_thrown rfl h2.2.2.2.1) rfl rfl ckX8_thrown lw_l167 h2.2.2.2.1 eo_O_0 ⟨_, _, rfl⟩ nkX8_thrown rfl (by decide +kernel) rfl (Nat.le_of_ble_eq_true rfl) (by show _ ≤ 601024; omega) (by show _ ≤ 7293033; omega) (by decide +kernel) (fun H3 z => ?_)
  have h3 := h2.z z
  have n3 := n2.kept z (Nat.zero_le _)
  have hw := hw.kept z (Or.inr (Nat.zero_le _))
  refine aw_b (pc' := 2879) (lv' := (7, .int y) :: (6, .int kx) :: lvL G i) (st' := [.int kx, .int (t' 0 6)]) [(2877, .iload 6, 2, .null)] (by decide +kernel) rfl ?_
  refine aw_ic_eq (off := 5) 2884 (by decide) (by decide +kernel) (fun _ => ?_) (fun hne => absurd e6 hne)
  refine aw_b (pc' := 2886) (lv' := (7, .int y) :: (6, .int kx) :: lvL G i) (st' := [.int kx]) [(2884, .iload 6, 2, .null)] (by decide +kernel) rfl ?_
  have fin : aw E mL_law Q 2901 ((7, .int y) :: (6, .int kx) :: lvL G i) [] H3 (k + 2) (n + 12) := by
    refine aw_b (pc' := 3097) (lv' := (7, .int y) :: (6, .int kx) :: lvL G i) (st' := []) [(2901, .goto 196, 3, .null)] (by decide +kernel) rfl ?_
    refine aw_lv (lv' := lvL G i) [2, 3, 4, 5, 6, 7] rfl ?_
    exact aw_widen (by omega) (by omega) (kk H3 s' t' f' h3 n3 hF)
  refine aw_if_ne (off := 15) 2901 (by decide) (by decide +kernel) (fun _ => fin) (fun h0 => ?_)
  obtain ⟨e, q1, f0, rfl, q2⟩ := hw h0
  refine aw_b (pc' := 2891) (lv' := (7, .int y) :: (6, .int kx) :: lvL G i) (st' := [.int (nI 0), .ref (lO G)]) [(2889, .aload_n 3, 1, .null), (2890, .iconst 0, 1, .int (nI 0))] (by decide +kernel) rfl ?_
  refine aw_lald q1 (ib_in (by decide)) (by decide +kernel) ?_
  refine aw_b (pc' := 2896) (lv' := (7, .int y) :: (6, .int kx) :: lvL G i) (st' := [.int (lg_cmp (f0 (Int32.toNatClampNeg (nI 0))) ((y).toInt64))]) [(2892, .iload 7, 2, .null), (2894, .i2l, 1, .null), (2895, .lcmp, 1, .null)] (by decide +kernel) rfl ?_
  refine aw_if_eq (off := 5) 2901 (by decide) (by decide +kernel) (fun _ => fin) (fun hne => absurd ?_ hne)
  rw [lg_cmp_eq]
  exact q2
theorem lw_s_rivalIn : Cond.static mL_rivalIn.1 ∈ uw_ := (uw_mem 1392 (by decide +kernel) (by decide +kernel))
theorem lw_n_rivalIn : nok_ mL_rivalIn 3 := by decide +kernel
theorem lw_l324 : Cond.methodLink RL 324 yL_rivalIn ∈ uw_ := (uw_mem 1391 (by decide +kernel) (by decide +kernel))
theorem lw_l326 : Cond.methodLink RL 326 yX8_rivalIn ∈ uw_ := (uw_mem 1965 (by decide +kernel) (by decide +kernel))
set_option maxHeartbeats 4000000 in
theorem lc_51 {E : ev_} {G : lx_} {H : Heap} {s t : st_} {f : Nat → Option Nat} {i k n : Nat} {Q : po_} (hX : exo_ E) (hg : ge_ E G) (hb : LB_ E G H s t f) (hi : i + 4 ≤ lL G) (hc : CL_ E G H mX7_rivalIn [.ref (lA G), .int (pq_ G i 1)] vi_ g1_ t (fX8_rivalIn t ((pq_ G i 1))) (fun _ => True)) (hk : k + 80 ≤ 601024) (hn : n + 9000 ≤ 7293033) (kk : LN_ E G Q i (k + 80) (n + 9000)) : aw E mL_law Q 2904 (lvL G i) [] H k n := by
  obtain ⟨s', v, t', y, PP, hs, eB, hoa, hF, hZ, hP⟩ := hc
  have hfB : ev_fr E (lB G) := Nat.le_trans hg.1 (by have := hg.2.1; omega)
  have hfO : ev_fr E (lO G) := Nat.le_trans hg.1 (by have := hg; unfold ge_ at this; omega)
  refine aw_b (pc' := 2910) (lv' := lvL G i) (st' := [.int (nI i + nI 1), .ref (lb G), .ref (lA G)]) [(2904, .aload_n 1, 1, .null), (2905, .aload_n 0, 1, .null), (2906, .iload 5, 2, .null), (2908, .iconst 1, 1, .int (nI 1)), (2909, .iadd, 1, .null)] (by decide +kernel) rfl ?_
  refine aw_sld hb.1 (ib_in (sc_j hi hg.2.2.2.2.2 (by decide))) (by decide +kernel) ?_
  refine aw_b (pc' := 2912) (lv' := lvL G i) (st' := [.ref (lO G), .int (pq_ G i 1), .ref (lA G)]) [(2911, .aload_n 3, 1, .null)] (by decide +kernel) rfl ?_
  refine aw_csw (rest := []) (u := 1) (u6 := 6) (wL_rivalIn hX hs (hA_ hb) hfO (fun H1 q => by obtain ⟨f', q1, -⟩ := hP H1 q; exact q1.2.2.2.2.1) (fun c e => by subst e; exact hoa.2)) rfl ckL_rivalIn inL_ nmL_ lw_s_rivalIn lw_l324 lw_n_rivalIn rfl (by decide +kernel) rfl rfl rfl (Nat.le_of_ble_eq_true rfl) (by show _ ≤ 601024; omega) (by show _ ≤ 7293033; omega) (by decide +kernel) wq_r (fun r H1 _ hq => ?_)
  obtain ⟨kx, f', rfl, h1, n1, e6, hw⟩ := wq0 out_lo hg hoa hP hq
  show aw E mL_law Q 2915 (lvL G i) [.int kx] H1 (k + 1) (n + 6)
  refine aw_b (pc' := 2923) (lv' := (6, .int kx) :: lvL G i) (st' := [.int (nI i + nI 1), .ref (lb G), .ref (lB G)]) [(2915, .istore 6, 2, .null), (2917, .aload_n 2, 1, .null), (2918, .aload_n 0, 1, .null), (2919, .iload 5, 2, .null), (2921, .iconst 1, 1, .int (nI 1)), (2922, .iadd, 1, .null)] (by decide +kernel) rfl ?_
  refine aw_sld h1.1 (ib_in (sc_j hi hg.2.2.2.2.2 (by decide))) (by decide +kernel) ?_
  refine aw_cv (rest := []) (st1 := [.int y]) (lB G) 0 (kX8_rivalIn eB h1.2.2.2.1 hfB) rfl rfl ckX8_rivalIn lw_l326 h1.2.2.2.1 eo_O_0 ⟨_, _, rfl⟩ nkX8_rivalIn rfl (by decide +kernel) rfl (Nat.le_of_ble_eq_true rfl) (by show _ ≤ 601024; omega) (by show _ ≤ 7293033; omega) (by decide +kernel) (fun H2 z => ?_)
  obtain ⟨z, hn2⟩ := z
  have h2 := h1.mod hg z hn2
  have n2 := n1.kept z (by have := hg; unfold ge_ at this; omega)
  have hw := hw.kept z (Or.inr (by have := hg; unfold ge_ at this; omega))
  refine aw_b (pc' := 2930) (lv' := (7, .int y) :: (6, .int kx) :: lvL G i) (st' := [.ref (lB G)]) [(2927, .istore 7, 2, .null), (2929, .aload_n 2, 1, .null)] (by decide +kernel) rfl ?_
  refine aw_cv (rest := []) (st1 := [.int (t' 0 6)]) (lB G) 0 (kX8_thrown rfl h2.2.2.2.1) rfl rfl ckX8_thrown lw_l167 h2.2.2.2.1 eo_O_0 ⟨_, _, rfl⟩ nkX8_thrown rfl (by decide +kernel) rfl (Nat.le_of_ble_eq_true rfl) (by show _ ≤ 601024; omega) (by show _ ≤ 7293033; omega) (by decide +kernel) (fun H3 z => ?_)
  have h3 := h2.z z
  have n3 := n2.kept z (Nat.zero_le _)
  have hw := hw.kept z (Or.inr (Nat.zero_le _))
  refine aw_b (pc' := 2935) (lv' := (7, .int y) :: (6, .int kx) :: lvL G i) (st' := [.int kx, .int (t' 0 6)]) [(2933, .iload 6, 2, .null)] (by decide +kernel) rfl ?_
  refine aw_ic_eq (off := 5) 2940 (by decide) (by decide +kernel) (fun _ => ?_) (fun hne => absurd e6 hne)
  refine aw_b (pc' := 2942) (lv' := (7, .int y) :: (6, .int kx) :: lvL G i) (st' := [.int kx]) [(2940, .iload 6, 2, .null)] (by decide +kernel) rfl ?_
  have fin : aw E mL_law Q 2957 ((7, .int y) :: (6, .int kx) :: lvL G i) [] H3 (k + 1) (n + 6) := by
    refine aw_b (pc' := 3097) (lv' := (7, .int y) :: (6, .int kx) :: lvL G i) (st' := []) [(2957, .goto 140, 3, .null)] (by decide +kernel) rfl ?_
    refine aw_lv (lv' := lvL G i) [2, 3, 4, 5, 6, 7] rfl ?_
    exact aw_widen (by omega) (by omega) (kk H3 s' t' f' h3 n3 hF)
  refine aw_if_ne (off := 15) 2957 (by decide) (by decide +kernel) (fun _ => fin) (fun h0 => ?_)
  obtain ⟨e, q1, f0, rfl, q2⟩ := hw h0
  refine aw_b (pc' := 2947) (lv' := (7, .int y) :: (6, .int kx) :: lvL G i) (st' := [.int (nI 0), .ref (lO G)]) [(2945, .aload_n 3, 1, .null), (2946, .iconst 0, 1, .int (nI 0))] (by decide +kernel) rfl ?_
  refine aw_lald q1 (ib_in (by decide)) (by decide +kernel) ?_
  refine aw_b (pc' := 2952) (lv' := (7, .int y) :: (6, .int kx) :: lvL G i) (st' := [.int (lg_cmp (f0 (Int32.toNatClampNeg (nI 0))) ((y).toInt64))]) [(2948, .iload 7, 2, .null), (2950, .i2l, 1, .null), (2951, .lcmp, 1, .null)] (by decide +kernel) rfl ?_
  refine aw_if_eq (off := 5) 2957 (by decide) (by decide +kernel) (fun _ => fin) (fun hne => absurd ?_ hne)
  rw [lg_cmp_eq]
  exact q2
theorem lw_l327 : Cond.methodLink RL 327 yX7_budgetFor ∈ uw_ := (uw_mem 905 (by decide +kernel) (by decide +kernel))
theorem lw_l330 : Cond.methodLink RL 330 yX8_budgetFor ∈ uw_ := (uw_mem 2043 (by decide +kernel) (by decide +kernel))
set_option maxHeartbeats 4000000 in
theorem lc_52 {E : ev_} {G : lx_} {H : Heap} {s t : st_} {f : Nat → Option Nat} {i k n : Nat} {Q : po_} (hg : ge_ E G) (hb : LB_ E G H s t f) (hs0 : SN_ E H (lP G + 1) f t) (hi : i + 4 ≤ lL G) (hc : CV_ E H (lA G) mX7_budgetFor [.ref (lA G), .int (pq_ G i 1)] t (fX8_budgetFor t (pq_ G i 1))) (hk : k + 80 ≤ 601024) (hn : n + 9000 ≤ 7293033) (kk : LN_ E G Q i (k + 80) (n + 9000)) : aw E mL_law Q 2960 (lvL G i) [] H k n := by
  obtain ⟨s', v, t', hs, eB, hF, he⟩ := hc
  have hfB : ev_fr E (lB G) := Nat.le_trans hg.1 (by have := hg.2.1; omega)
  refine aw_b (pc' := 2966) (lv' := lvL G i) (st' := [.int (nI i + nI 1), .ref (lb G), .ref (lA G)]) [(2960, .aload_n 1, 1, .null), (2961, .aload_n 0, 1, .null), (2962, .iload 5, 2, .null), (2964, .iconst 1, 1, .int (nI 1)), (2965, .iadd, 1, .null)] (by decide +kernel) rfl ?_
  refine aw_sld hb.1 (ib_in (sc_j hi hg.2.2.2.2.2 (by decide))) (by decide +kernel) ?_
  refine aw_cv (rest := []) (st1 := [.int v]) (lA G) 0 hs rfl rfl ckX7_budgetFor lw_l327 hb.2.1 eo_M_0 ⟨_, _, rfl⟩ nkX7_budgetFor rfl (by decide +kernel) rfl (Nat.le_of_ble_eq_true rfl) (by show _ ≤ 601024; omega) (by show _ ≤ 7293033; omega) (by decide +kernel) (fun H1 z => ?_)
  have h1 := hb.cls hg z.1 z.2
  have n1 := (hs0.kept z.1 (by have := hg; unfold ge_ at this; omega)).md he
  refine aw_b (pc' := 2976) (lv' := lvL G i) (st' := [.int (nI i + nI 1), .ref (lb G), .ref (lB G), .int v]) [(2970, .aload_n 2, 1, .null), (2971, .aload_n 0, 1, .null), (2972, .iload 5, 2, .null), (2974, .iconst 1, 1, .int (nI 1)), (2975, .iadd, 1, .null)] (by decide +kernel) rfl ?_
  refine aw_sld h1.1 (ib_in (sc_j hi hg.2.2.2.2.2 (by decide))) (by decide +kernel) ?_
  refine aw_cv (rest := [.int v]) (st1 := [.int v, .int v]) (lB G) 0 (kX8_budgetFor eB h1.2.2.2.1 hfB) rfl rfl ckX8_budgetFor lw_l330 h1.2.2.2.1 eo_O_0 ⟨_, _, rfl⟩ nkX8_budgetFor rfl (by decide +kernel) rfl (Nat.le_of_ble_eq_true rfl) (by show _ ≤ 601024; omega) (by show _ ≤ 7293033; omega) (by decide +kernel) (fun H2 z => ?_)
  obtain ⟨z, hn2⟩ := z
  have h2 := h1.mod hg z hn2
  have n2 := n1.kept z (by have := hg; unfold ge_ at this; omega)
  refine aw_ic_eq (off := 117) 3097 (by decide) (by decide +kernel) (fun _ => ?_) (fun hne => absurd rfl hne)
  exact aw_widen (by omega) (by omega) (kk H2 s' t' f h2 n2 hF)
theorem lw_s_saveSnapshot : Cond.static mL_saveSnapshot.1 ∈ uw_ := (uw_mem 1399 (by decide +kernel) (by decide +kernel))
theorem lw_n_saveSnapshot : nok_ mL_saveSnapshot 3 := by decide +kernel
theorem lw_l331 : Cond.methodLink RL 331 yL_saveSnapshot ∈ uw_ := (uw_mem 1398 (by decide +kernel) (by decide +kernel))
theorem lw_l333 : Cond.methodLink RL 333 yX8_saveSnapshot ∈ uw_ := (uw_mem 2087 (by decide +kernel) (by decide +kernel))
set_option maxHeartbeats 4000000 in
theorem lc_53 {E : ev_} {G : lx_} {H : Heap} {s t : st_} {f : Nat → Option Nat} {i k n : Nat} {Q : po_} (hX : exo_ E) (hg : ge_ E G) (hb : LB_ E G H s t f) (hi : i + 4 ≤ lL G) (hc : CL_ E G H mS7_save [.ref (lA G), .int (pq_ G i 1)] vi_ g1_ t (fX8_saveSnapshot t ((pq_ G i 1))) (fun _ => True)) (hk : k + 80 ≤ 601024) (hn : n + 9000 ≤ 7293033) (kk : LN_ E G Q i (k + 80) (n + 9000)) : aw E mL_law Q 2985 (lvL G i) [] H k n := by
  obtain ⟨s', v, t', y, PP, hs, eB, hoa, hF, hZ, hP⟩ := hc
  have hfB : ev_fr E (lB G) := Nat.le_trans hg.1 (by have := hg.2.1; omega)
  have hfO : ev_fr E (lO G) := Nat.le_trans hg.1 (by have := hg; unfold ge_ at this; omega)
  refine aw_b (pc' := 2991) (lv' := lvL G i) (st' := [.int (nI i + nI 1), .ref (lb G), .ref (lA G)]) [(2985, .aload_n 1, 1, .null), (2986, .aload_n 0, 1, .null), (2987, .iload 5, 2, .null), (2989, .iconst 1, 1, .int (nI 1)), (2990, .iadd, 1, .null)] (by decide +kernel) rfl ?_
  refine aw_sld hb.1 (ib_in (sc_j hi hg.2.2.2.2.2 (by decide))) (by decide +kernel) ?_
  refine aw_b (pc' := 2993) (lv' := lvL G i) (st' := [.ref (lO G), .int (pq_ G i 1), .ref (lA G)]) [(2992, .aload_n 3, 1, .null)] (by decide +kernel) rfl ?_
  refine aw_csw (rest := []) (u := 76) (u6 := 8905) (wL_saveSnapshot hX hs (hA_ hb) hfO (fun H1 q => by obtain ⟨f', q1, -⟩ := hP H1 q; exact q1.2.2.2.2.1) (fun c e => by subst e; exact hoa.2)) rfl ckL_saveSnapshot inL_ nmL_ lw_s_saveSnapshot lw_l331 lw_n_saveSnapshot rfl (by decide +kernel) rfl rfl rfl (Nat.le_of_ble_eq_true rfl) (by show _ ≤ 601024; omega) (by show _ ≤ 7293033; omega) (by decide +kernel) wq_r (fun r H1 _ hq => ?_)
  obtain ⟨kx, f', rfl, h1, n1, e6, hw⟩ := wq0 out_lo hg hoa hP hq
  show aw E mL_law Q 2996 (lvL G i) [.int kx] H1 (k + 76) (n + 8905)
  refine aw_b (pc' := 3004) (lv' := (6, .int kx) :: lvL G i) (st' := [.int (nI i + nI 1), .ref (lb G), .ref (lB G)]) [(2996, .istore 6, 2, .null), (2998, .aload_n 2, 1, .null), (2999, .aload_n 0, 1, .null), (3000, .iload 5, 2, .null), (3002, .iconst 1, 1, .int (nI 1)), (3003, .iadd, 1, .null)] (by decide +kernel) rfl ?_
  refine aw_sld h1.1 (ib_in (sc_j hi hg.2.2.2.2.2 (by decide))) (by decide +kernel) ?_
  refine aw_cv (rest := []) (st1 := [.int y]) (lB G) 0 (kX8_saveSnapshot eB h1.2.2.2.1 hfB) rfl rfl ckX8_saveSnapshot lw_l333 h1.2.2.2.1 eo_O_0 ⟨_, _, rfl⟩ nkX8_saveSnapshot rfl (by decide +kernel) rfl (Nat.le_of_ble_eq_true rfl) (by show _ ≤ 601024; omega) (by show _ ≤ 7293033; omega) (by decide +kernel) (fun H2 z => ?_)
  obtain ⟨z, hn2⟩ := z
  have h2 := h1.mod hg z hn2
  have n2 := n1.kept z (by have := hg; unfold ge_ at this; omega)
  have hw := hw.kept z (Or.inr (by have := hg; unfold ge_ at this; omega))
  refine aw_b (pc' := 3011) (lv' := (7, .int y) :: (6, .int kx) :: lvL G i) (st' := [.ref (lB G)]) [(3008, .istore 7, 2, .null), (3010, .aload_n 2, 1, .null)] (by decide +kernel) rfl ?_
  refine aw_cv (rest := []) (st1 := [.int (t' 0 6)]) (lB G) 0 (kX8_thrown rfl h2.2.2.2.1) rfl rfl ckX8_thrown lw_l167 h2.2.2.2.1 eo_O_0 ⟨_, _, rfl⟩ nkX8_thrown rfl (by decide +kernel) rfl (Nat.le_of_ble_eq_true rfl) (by show _ ≤ 601024; omega) (by show _ ≤ 7293033; omega) (by decide +kernel) (fun H3 z => ?_)
  have h3 := h2.z z
  have n3 := n2.kept z (Nat.zero_le _)
  have hw := hw.kept z (Or.inr (Nat.zero_le _))
  refine aw_b (pc' := 3016) (lv' := (7, .int y) :: (6, .int kx) :: lvL G i) (st' := [.int kx, .int (t' 0 6)]) [(3014, .iload 6, 2, .null)] (by decide +kernel) rfl ?_
  refine aw_ic_eq (off := 5) 3021 (by decide) (by decide +kernel) (fun _ => ?_) (fun hne => absurd e6 hne)
  refine aw_b (pc' := 3023) (lv' := (7, .int y) :: (6, .int kx) :: lvL G i) (st' := [.int kx]) [(3021, .iload 6, 2, .null)] (by decide +kernel) rfl ?_
  have fin : aw E mL_law Q 3038 ((7, .int y) :: (6, .int kx) :: lvL G i) [] H3 (k + 76) (n + 8905) := by
    refine aw_b (pc' := 3097) (lv' := (7, .int y) :: (6, .int kx) :: lvL G i) (st' := []) [(3038, .goto 59, 3, .null)] (by decide +kernel) rfl ?_
    refine aw_lv (lv' := lvL G i) [2, 3, 4, 5, 6, 7] rfl ?_
    exact aw_widen (by omega) (by omega) (kk H3 s' t' f' h3 n3 hF)
  refine aw_if_ne (off := 15) 3038 (by decide) (by decide +kernel) (fun _ => fin) (fun h0 => ?_)
  obtain ⟨e, q1, f0, rfl, q2⟩ := hw h0
  refine aw_b (pc' := 3028) (lv' := (7, .int y) :: (6, .int kx) :: lvL G i) (st' := [.int (nI 0), .ref (lO G)]) [(3026, .aload_n 3, 1, .null), (3027, .iconst 0, 1, .int (nI 0))] (by decide +kernel) rfl ?_
  refine aw_lald q1 (ib_in (by decide)) (by decide +kernel) ?_
  refine aw_b (pc' := 3033) (lv' := (7, .int y) :: (6, .int kx) :: lvL G i) (st' := [.int (lg_cmp (f0 (Int32.toNatClampNeg (nI 0))) ((y).toInt64))]) [(3029, .iload 7, 2, .null), (3031, .i2l, 1, .null), (3032, .lcmp, 1, .null)] (by decide +kernel) rfl ?_
  refine aw_if_eq (off := 5) 3038 (by decide) (by decide +kernel) (fun _ => fin) (fun hne => absurd ?_ hne)
  rw [lg_cmp_eq]
  exact q2
theorem lw_s_restoreSnapshot : Cond.static mL_restoreSnapshot.1 ∈ uw_ := (uw_mem 1416 (by decide +kernel) (by decide +kernel))
theorem lw_n_restoreSnapshot : nok_ mL_restoreSnapshot 3 := by decide +kernel
theorem lw_l334 : Cond.methodLink RL 334 yL_restoreSnapshot ∈ uw_ := (uw_mem 1415 (by decide +kernel) (by decide +kernel))
theorem lw_l336 : Cond.methodLink RL 336 yX8_restoreSnapshot ∈ uw_ := (uw_mem 2091 (by decide +kernel) (by decide +kernel))
set_option maxHeartbeats 4000000 in
theorem lc_54 {E : ev_} {G : lx_} {H : Heap} {s t : st_} {f : Nat → Option Nat} {i k n : Nat} {Q : po_} (hX : exo_ E) (hg : ge_ E G) (hb : LB_ E G H s t f) (hi : i + 4 ≤ lL G) (hc : CL_ E G H mS7_rest [.ref (lA G), .int (pq_ G i 1)] vi_ g1_ t (fX8_restoreSnapshot t ((pq_ G i 1))) (fun _ => True)) (hk : k + 80 ≤ 601024) (hn : n + 9000 ≤ 7293033) (kk : LN_ E G Q i (k + 80) (n + 9000)) : aw E mL_law Q 3041 (lvL G i) [] H k n := by
  obtain ⟨s', v, t', y, PP, hs, eB, hoa, hF, hZ, hP⟩ := hc
  have hfB : ev_fr E (lB G) := Nat.le_trans hg.1 (by have := hg.2.1; omega)
  have hfO : ev_fr E (lO G) := Nat.le_trans hg.1 (by have := hg; unfold ge_ at this; omega)
  refine aw_b (pc' := 3047) (lv' := lvL G i) (st' := [.int (nI i + nI 1), .ref (lb G), .ref (lA G)]) [(3041, .aload_n 1, 1, .null), (3042, .aload_n 0, 1, .null), (3043, .iload 5, 2, .null), (3045, .iconst 1, 1, .int (nI 1)), (3046, .iadd, 1, .null)] (by decide +kernel) rfl ?_
  refine aw_sld hb.1 (ib_in (sc_j hi hg.2.2.2.2.2 (by decide))) (by decide +kernel) ?_
  refine aw_b (pc' := 3049) (lv' := lvL G i) (st' := [.ref (lO G), .int (pq_ G i 1), .ref (lA G)]) [(3048, .aload_n 3, 1, .null)] (by decide +kernel) rfl ?_
  refine aw_csw (rest := []) (u := 1) (u6 := 6) (wL_restoreSnapshot hX hs (hA_ hb) hfO (fun H1 q => by obtain ⟨f', q1, -⟩ := hP H1 q; exact q1.2.2.2.2.1) (fun c e => by subst e; exact hoa.2)) rfl ckL_restoreSnapshot inL_ nmL_ lw_s_restoreSnapshot lw_l334 lw_n_restoreSnapshot rfl (by decide +kernel) rfl rfl rfl (Nat.le_of_ble_eq_true rfl) (by show _ ≤ 601024; omega) (by show _ ≤ 7293033; omega) (by decide +kernel) wq_r (fun r H1 _ hq => ?_)
  obtain ⟨kx, f', rfl, h1, n1, e6, hw⟩ := wq0 out_lo hg hoa hP hq
  show aw E mL_law Q 3052 (lvL G i) [.int kx] H1 (k + 1) (n + 6)
  refine aw_b (pc' := 3060) (lv' := (6, .int kx) :: lvL G i) (st' := [.int (nI i + nI 1), .ref (lb G), .ref (lB G)]) [(3052, .istore 6, 2, .null), (3054, .aload_n 2, 1, .null), (3055, .aload_n 0, 1, .null), (3056, .iload 5, 2, .null), (3058, .iconst 1, 1, .int (nI 1)), (3059, .iadd, 1, .null)] (by decide +kernel) rfl ?_
  refine aw_sld h1.1 (ib_in (sc_j hi hg.2.2.2.2.2 (by decide))) (by decide +kernel) ?_
  refine aw_cv (rest := []) (st1 := [.int y]) (lB G) 0 (kX8_restoreSnapshot eB h1.2.2.2.1 hfB) rfl rfl ckX8_restoreSnapshot lw_l336 h1.2.2.2.1 eo_O_0 ⟨_, _, rfl⟩ nkX8_restoreSnapshot rfl (by decide +kernel) rfl (Nat.le_of_ble_eq_true rfl) (by show _ ≤ 601024; omega) (by show _ ≤ 7293033; omega) (by decide +kernel) (fun H2 z => ?_)
  obtain ⟨z, hn2⟩ := z
  have h2 := h1.mod hg z hn2
  have n2 := n1.kept z (by have := hg; unfold ge_ at this; omega)
  have hw := hw.kept z (Or.inr (by have := hg; unfold ge_ at this; omega))
  refine aw_b (pc' := 3067) (lv' := (7, .int y) :: (6, .int kx) :: lvL G i) (st' := [.ref (lB G)]) [(3064, .istore 7, 2, .null), (3066, .aload_n 2, 1, .null)] (by decide +kernel) rfl ?_
  refine aw_cv (rest := []) (st1 := [.int (t' 0 6)]) (lB G) 0 (kX8_thrown rfl h2.2.2.2.1) rfl rfl ckX8_thrown lw_l167 h2.2.2.2.1 eo_O_0 ⟨_, _, rfl⟩ nkX8_thrown rfl (by decide +kernel) rfl (Nat.le_of_ble_eq_true rfl) (by show _ ≤ 601024; omega) (by show _ ≤ 7293033; omega) (by decide +kernel) (fun H3 z => ?_)
  have h3 := h2.z z
  have n3 := n2.kept z (Nat.zero_le _)
  have hw := hw.kept z (Or.inr (Nat.zero_le _))
  refine aw_b (pc' := 3072) (lv' := (7, .int y) :: (6, .int kx) :: lvL G i) (st' := [.int kx, .int (t' 0 6)]) [(3070, .iload 6, 2, .null)] (by decide +kernel) rfl ?_
  refine aw_ic_eq (off := 5) 3077 (by decide) (by decide +kernel) (fun _ => ?_) (fun hne => absurd e6 hne)
  refine aw_b (pc' := 3079) (lv' := (7, .int y) :: (6, .int kx) :: lvL G i) (st' := [.int kx]) [(3077, .iload 6, 2, .null)] (by decide +kernel) rfl ?_
  have fin : aw E mL_law Q 3094 ((7, .int y) :: (6, .int kx) :: lvL G i) [] H3 (k + 1) (n + 6) := by
    refine aw_b (pc' := 3097) (lv' := (7, .int y) :: (6, .int kx) :: lvL G i) (st' := []) [(3094, .goto 3, 3, .null)] (by decide +kernel) rfl ?_
    refine aw_lv (lv' := lvL G i) [2, 3, 4, 5, 6, 7] rfl ?_
    exact aw_widen (by omega) (by omega) (kk H3 s' t' f' h3 n3 hF)
  refine aw_if_ne (off := 15) 3094 (by decide) (by decide +kernel) (fun _ => fin) (fun h0 => ?_)
  obtain ⟨e, q1, f0, rfl, q2⟩ := hw h0
  refine aw_b (pc' := 3084) (lv' := (7, .int y) :: (6, .int kx) :: lvL G i) (st' := [.int (nI 0), .ref (lO G)]) [(3082, .aload_n 3, 1, .null), (3083, .iconst 0, 1, .int (nI 0))] (by decide +kernel) rfl ?_
  refine aw_lald q1 (ib_in (by decide)) (by decide +kernel) ?_
  refine aw_b (pc' := 3089) (lv' := (7, .int y) :: (6, .int kx) :: lvL G i) (st' := [.int (lg_cmp (f0 (Int32.toNatClampNeg (nI 0))) ((y).toInt64))]) [(3085, .iload 7, 2, .null), (3087, .i2l, 1, .null), (3088, .lcmp, 1, .null)] (by decide +kernel) rfl ?_
  refine aw_if_eq (off := 5) 3094 (by decide) (by decide +kernel) (fun _ => fin) (fun hne => absurd ?_ hne)
  rw [lg_cmp_eq]
  exact q2
