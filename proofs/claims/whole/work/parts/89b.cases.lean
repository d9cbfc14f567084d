/-! more cases of the law: printed by wip/whole/gen_89.py -/
set_option maxHeartbeats 4000000 in
theorem lc_19 {E : ev_} {G : lx_} {H : Heap} {s t : st_} {f : Nat → Option Nat} {i k n : Nat} {Q : po_} (hg : ge_ E G) (hb : LB_ E G H s t f) (hs0 : SN_ E H (lP G + 1) f t) (hi : i + 4 ≤ lL G) (hc : CV_ E H (lA G) mX7_nextRule [.ref (lA G)] t (fX8_nextRule t)) (hk : k + 80 ≤ 601024) (hn : n + 9000 ≤ 7293033) (kk : LN_ E G Q i (k + 80) (n + 9000)) : aw E mL_law Q 1281 (lvL G i) [] H k n := by
  obtain ⟨s', v, t', hs, eB, hF, he⟩ := hc
  have hfB : ev_fr E (lB G) := Nat.le_trans hg.1 (by have := hg.2.1; omega)
  refine aw_b (pc' := 1282) (lv' := lvL G i) (st' := [.ref (lA G)]) [(1281, .aload_n 1, 1, .null)] (by decide +kernel) rfl ?_
  refine aw_cv (rest := []) (st1 := [.int v]) (lA G) 0 hs rfl rfl ckX7_nextRule lw_l219 hb.2.1 eo_M_0 ⟨_, _, rfl⟩ nkX7_nextRule rfl (by decide +kernel) rfl (Nat.le_of_ble_eq_true rfl) (by show _ ≤ 601024; omega) (by show _ ≤ 7293033; omega) (by decide +kernel) (fun H1 z => ?_)
  have h1 := hb.cls hg z.1 z.2
  have n1 := (hs0.kept z.1 (by have := hg; unfold ge_ at this; omega)).md he
  refine aw_b (pc' := 1286) (lv' := lvL G i) (st' := [.ref (lB G), .int v]) [(1285, .aload_n 2, 1, .null)] (by decide +kernel) rfl ?_
  refine aw_cv (rest := [.int v]) (st1 := [.int v, .int v]) (lB G) 0 (kX8_nextRule eB h1.2.2.2.1 hfB) rfl rfl ckX8_nextRule lw_l222 h1.2.2.2.1 eo_O_0 ⟨_, _, rfl⟩ nkX8_nextRule rfl (by decide +kernel) rfl (Nat.le_of_ble_eq_true rfl) (by show _ ≤ 601024; omega) (by show _ ≤ 7293033; omega) (by decide +kernel) (fun H2 z => ?_)
  obtain ⟨z, hn2⟩ := z
  have h2 := h1.mod hg z hn2
  have n2 := n1.kept z (by have := hg; unfold ge_ at this; omega)
  refine aw_ic_eq (off := 1808) 3097 (by decide) (by decide +kernel) (fun _ => ?_) (fun hne => absurd rfl hne)
  exact aw_widen (by omega) (by omega) (kk H2 s' t' f h2 n2 hF)
theorem lw_s_served : Cond.static mL_served.1 ∈ uw_ := (uw_mem 1151 (by decide +kernel) (by decide +kernel))
theorem lw_n_served : nok_ mL_served 4 := by decide +kernel
theorem lw_l223 : Cond.methodLink RL 223 yL_served ∈ uw_ := (uw_mem 1150 (by decide +kernel) (by decide +kernel))
theorem lw_l225 : Cond.methodLink RL 225 yX8_served ∈ uw_ := (uw_mem 1792 (by decide +kernel) (by decide +kernel))
set_option maxHeartbeats 4000000 in
theorem lc_20 {E : ev_} {G : lx_} {H : Heap} {s t : st_} {f : Nat → Option Nat} {i k n : Nat} {Q : po_} (hX : exo_ E) (hg : ge_ E G) (hb : LB_ E G H s t f) (hi : i + 4 ≤ lL G) (hc : CL_ E G H mX7_served [.ref (lA G), .int (pq_ G i 1), .int (pq_ G i 2)] vi_ g1_ t (fX8_served t ((pq_ G i 1)) ((pq_ G i 2))) (fun _ => True)) (hk : k + 80 ≤ 601024) (hn : n + 9000 ≤ 7293033) (kk : LN_ E G Q i (k + 80) (n + 9000)) : aw E mL_law Q 1294 (lvL G i) [] H k n := by
  obtain ⟨s', v, t', y, PP, hs, eB, hoa, hF, hZ, hP⟩ := hc
  have hfB : ev_fr E (lB G) := Nat.le_trans hg.1 (by have := hg.2.1; omega)
  have hfO : ev_fr E (lO G) := Nat.le_trans hg.1 (by have := hg; unfold ge_ at this; omega)
  refine aw_b (pc' := 1300) (lv' := lvL G i) (st' := [.int (nI i + nI 1), .ref (lb G), .ref (lA G)]) [(1294, .aload_n 1, 1, .null), (1295, .aload_n 0, 1, .null), (1296, .iload 5, 2, .null), (1298, .iconst 1, 1, .int (nI 1)), (1299, .iadd, 1, .null)] (by decide +kernel) rfl ?_
  refine aw_sld hb.1 (ib_in (sc_j hi hg.2.2.2.2.2 (by decide))) (by decide +kernel) ?_
  refine aw_b (pc' := 1306) (lv' := lvL G i) (st' := [.int (nI i + nI 2), .ref (lb G), .int (pq_ G i 1), .ref (lA G)]) [(1301, .aload_n 0, 1, .null), (1302, .iload 5, 2, .null), (1304, .iconst 2, 1, .int (nI 2)), (1305, .iadd, 1, .null)] (by decide +kernel) rfl ?_
  refine aw_sld hb.1 (ib_in (sc_j hi hg.2.2.2.2.2 (by decide))) (by decide +kernel) ?_
  refine aw_b (pc' := 1308) (lv' := lvL G i) (st' := [.ref (lO G), .int (pq_ G i 2), .int (pq_ G i 1), .ref (lA G)]) [(1307, .aload_n 3, 1, .null)] (by decide +kernel) rfl ?_
  refine aw_csw (rest := []) (u := 2) (u6 := 12) (wL_served hX hs (hA_ hb) hfO (fun H1 q => by obtain ⟨f', q1, -⟩ := hP H1 q; exact q1.2.2.2.2.1) (fun c e => by subst e; exact hoa.2)) rfl ckL_served inL_ nmL_ lw_s_served lw_l223 lw_n_served rfl (by decide +kernel) rfl rfl rfl (Nat.le_of_ble_eq_true rfl) (by show _ ≤ 601024; omega) (by show _ ≤ 7293033; omega) (by decide +kernel) wq_r (fun r H1 _ hq => ?_)
  obtain ⟨kx, f', rfl, h1, n1, e6, hw⟩ := wq0 out_lo hg hoa hP hq
  show aw E mL_law Q 1311 (lvL G i) [.int kx] H1 (k + 2) (n + 12)
  refine aw_b (pc' := 1319) (lv' := (6, .int kx) :: lvL G i) (st' := [.int (nI i + nI 1), .ref (lb G), .ref (lB G)]) [(1311, .istore 6, 2, .null), (1313, .aload_n 2, 1, .null), (1314, .aload_n 0, 1, .null), (1315, .iload 5, 2, .null), (1317, .iconst 1, 1, .int (nI 1)), (1318, .iadd, 1, .null)] (by decide +kernel) rfl ?_
  refine aw_sld h1.1 (ib_in (sc_j hi hg.2.2.2.2.2 (by decide))) (by decide +kernel) ?_
  refine aw_b (pc' := 1325) (lv' := (6, .int kx) :: lvL G i) (st' := [.int (nI i + nI 2), .ref (lb G), .int (pq_ G i 1), .ref (lB G)]) [(1320, .aload_n 0, 1, .null), (1321, .iload 5, 2, .null), (1323, .iconst 2, 1, .int (nI 2)), (1324, .iadd, 1, .null)] (by decide +kernel) rfl ?_
  refine aw_sld h1.1 (ib_in (sc_j hi hg.2.2.2.2.2 (by decide))) (by decide +kernel) ?_
  refine aw_cv (rest := []) (st1 := [.int y]) (lB G) 0 (kX8_served eB h1.2.2.2.1 hfB) rfl rfl ckX8_served lw_l225 h1.2.2.2.1 eo_O_0 ⟨_, _, rfl⟩ nkX8_served rfl (by decide +kernel) rfl (Nat.le_of_ble_eq_true rfl) (by show _ ≤ 601024; omega) (by show _ ≤ 7293033; omega) (by decide +kernel) (fun H2 z => ?_)
  obtain ⟨z, hn2⟩ := z
  have h2 := h1.mod hg z hn2
  have n2 := n1.kept z (by have := hg; unfold ge_ at this; omega)
  have hw := hw.kept z (Or.inr (by have := hg; unfold ge_ at this; omega))
  refine aw_b (pc' := 1332) (lv' := (7, .int y) :: (6, .int kx) :: lvL G i) (st' := [.ref (lB G)]) [(1329, .istore 7, 2, .null), (1331, .aload_n 2, 1, .null)] (by decide +kernel) rfl ?_
  refine aw_cv (rest := []) (st1 := [.int (t' 0 6)]) (lB G) 0 (kX8_thrown rfl h2.2.2.2.1) rfl rfl ckX8_thrown lw_l167 h2.2.2.2.1 eo_O_0 ⟨_, _, rfl⟩ nkX8_thrown rfl (by decide +kernel) rfl (Nat.le_of_ble_eq_true rfl) (by show _ ≤ 601024; omega) (by show _ ≤ 7293033; omega) (by decide +kernel) (fun H3 z => ?_)
  have h3 := h2.z z
  have n3 := n2.kept z (Nat.zero_le _)
  have hw := hw.kept z (Or.inr (Nat.zero_le _))
  refine aw_b (pc' := 1337) (lv' := (7, .int y) :: (6, .int kx) :: lvL G i) (st' := [.int kx, .int (t' 0 6)]) [(1335, .iload 6, 2, .null)] (by decide +kernel) rfl ?_
  refine aw_ic_eq (off := 5) 1342 (by decide) (by decide +kernel) (fun _ => ?_) (fun hne => absurd e6 hne)
  refine aw_b (pc' := 1344) (lv' := (7, .int y) :: (6, .int kx) :: lvL G i) (st' := [.int kx]) [(1342, .iload 6, 2, .null)] (by decide +kernel) rfl ?_
  have fin : aw E mL_law Q 1359 ((7, .int y) :: (6, .int kx) :: lvL G i) [] H3 (k + 2) (n + 12) := by
    refine aw_b (pc' := 3097) (lv' := (7, .int y) :: (6, .int kx) :: lvL G i) (st' := []) [(1359, .goto 1738, 3, .null)] (by decide +kernel) rfl ?_
    refine aw_lv (lv' := lvL G i) [2, 3, 4, 5, 6, 7] rfl ?_
    exact aw_widen (by omega) (by omega) (kk H3 s' t' f' h3 n3 hF)
  refine aw_if_ne (off := 15) 1359 (by decide) (by decide +kernel) (fun _ => fin) (fun h0 => ?_)
  obtain ⟨e, q1, f0, rfl, q2⟩ := hw h0
  refine aw_b (pc' := 1349) (lv' := (7, .int y) :: (6, .int kx) :: lvL G i) (st' := [.int (nI 0), .ref (lO G)]) [(1347, .aload_n 3, 1, .null), (1348, .iconst 0, 1, .int (nI 0))] (by decide +kernel) rfl ?_
  refine aw_lald q1 (ib_in (by decide)) (by decide +kernel) ?_
  refine aw_b (pc' := 1354) (lv' := (7, .int y) :: (6, .int kx) :: lvL G i) (st' := [.int (lg_cmp (f0 (Int32.toNatClampNeg (nI 0))) ((y).toInt64))]) [(1350, .iload 7, 2, .null), (1352, .i2l, 1, .null), (1353, .lcmp, 1, .null)] (by decide +kernel) rfl ?_
  refine aw_if_eq (off := 5) 1359 (by decide) (by decide +kernel) (fun _ => fin) (fun hne => absurd ?_ hne)
  rw [lg_cmp_eq]
  exact q2
theorem lw_l226 : Cond.methodLink RL 226 yX7_rounds ∈ uw_ := (uw_mem 742 (by decide +kernel) (by decide +kernel))
theorem lw_l229 : Cond.methodLink RL 229 yX8_rounds_ ∈ uw_ := (uw_mem 1797 (by decide +kernel) (by decide +kernel))
set_option maxHeartbeats 4000000 in
theorem lc_21 {E : ev_} {G : lx_} {H : Heap} {s t : st_} {f : Nat → Option Nat} {i k n : Nat} {Q : po_} (hg : ge_ E G) (hb : LB_ E G H s t f) (hs0 : SN_ E H (lP G + 1) f t) (hi : i + 4 ≤ lL G) (hc : CV_ E H (lA G) mX7_rounds [.ref (lA G)] t (fX8_rounds_ t)) (hk : k + 80 ≤ 601024) (hn : n + 9000 ≤ 7293033) (kk : LN_ E G Q i (k + 80) (n + 9000)) : aw E mL_law Q 1362 (lvL G i) [] H k n := by
  obtain ⟨s', v, t', hs, eB, hF, he⟩ := hc
  have hfB : ev_fr E (lB G) := Nat.le_trans hg.1 (by have := hg.2.1; omega)
  refine aw_b (pc' := 1363) (lv' := lvL G i) (st' := [.ref (lA G)]) [(1362, .aload_n 1, 1, .null)] (by decide +kernel) rfl ?_
  refine aw_cv (rest := []) (st1 := [.int v]) (lA G) 0 hs rfl rfl ckX7_rounds lw_l226 hb.2.1 eo_M_0 ⟨_, _, rfl⟩ nkX7_rounds rfl (by decide +kernel) rfl (Nat.le_of_ble_eq_true rfl) (by show _ ≤ 601024; omega) (by show _ ≤ 7293033; omega) (by decide +kernel) (fun H1 z => ?_)
  have h1 := hb.cls hg z.1 z.2
  have n1 := (hs0.kept z.1 (by have := hg; unfold ge_ at this; omega)).md he
  refine aw_b (pc' := 1367) (lv' := lvL G i) (st' := [.ref (lB G), .int v]) [(1366, .aload_n 2, 1, .null)] (by decide +kernel) rfl ?_
  refine aw_cv (rest := [.int v]) (st1 := [.int v, .int v]) (lB G) 0 (kX8_rounds_ eB h1.2.2.2.1 hfB) rfl rfl ckX8_rounds_ lw_l229 h1.2.2.2.1 eo_O_0 ⟨_, _, rfl⟩ nkX8_rounds_ rfl (by decide +kernel) rfl (Nat.le_of_ble_eq_true rfl) (by show _ ≤ 601024; omega) (by show _ ≤ 7293033; omega) (by decide +kernel) (fun H2 z => ?_)
  obtain ⟨z, hn2⟩ := z
  have h2 := h1.mod hg z hn2
  have n2 := n1.kept z (by have := hg; unfold ge_ at this; omega)
  refine aw_ic_eq (off := 1727) 3097 (by decide) (by decide +kernel) (fun _ => ?_) (fun hne => absurd rfl hne)
  exact aw_widen (by omega) (by omega) (kk H2 s' t' f h2 n2 hF)
theorem lw_s_regret : Cond.static mL_regret.1 ∈ uw_ := (uw_mem 1163 (by decide +kernel) (by decide +kernel))
theorem lw_n_regret : nok_ mL_regret 3 := by decide +kernel
theorem lw_l230 : Cond.methodLink RL 230 yL_regret ∈ uw_ := (uw_mem 1162 (by decide +kernel) (by decide +kernel))
theorem lw_l232 : Cond.methodLink RL 232 yX8_regret ∈ uw_ := (uw_mem 1801 (by decide +kernel) (by decide +kernel))
set_option maxHeartbeats 4000000 in
theorem lc_22 {E : ev_} {G : lx_} {H : Heap} {s t : st_} {f : Nat → Option Nat} {i k n : Nat} {Q : po_} (hX : exo_ E) (hg : ge_ E G) (hb : LB_ E G H s t f) (hi : i + 4 ≤ lL G) (hc : CL_ E G H mX7_regret [.ref (lA G), .int (pq_ G i 1)] vi_ g1_ t (fX8_regret t ((pq_ G i 1))) (fun _ => True)) (hk : k + 80 ≤ 601024) (hn : n + 9000 ≤ 7293033) (kk : LN_ E G Q i (k + 80) (n + 9000)) : aw E mL_law Q 1375 (lvL G i) [] H k n := by
  obtain ⟨s', v, t', y, PP, hs, eB, hoa, hF, hZ, hP⟩ := hc
  have hfB : ev_fr E (lB G) := Nat.le_trans hg.1 (by have := hg.2.1; omega)
  have hfO : ev_fr E (lO G) := Nat.le_trans hg.1 (by have := hg; unfold ge_ at this; omega)
  refine aw_b (pc' := 1381) (lv' := lvL G i) (st' := [.int (nI i + nI 1), .ref (lb G), .ref (lA G)]) [(1375, .aload_n 1, 1, .null), (1376, .aload_n 0, 1, .null), (1377, .iload 5, 2, .null), (1379, .iconst 1, 1, .int (nI 1)), (1380, .iadd, 1, .null)] (by decide +kernel) rfl ?_
  refine aw_sld hb.1 (ib_in (sc_j hi hg.2.2.2.2.2 (by decide))) (by decide +kernel) ?_
  refine aw_b (pc' := 1383) (lv' := lvL G i) (st' := [.ref (lO G), .int (pq_ G i 1), .ref (lA G)]) [(1382, .aload_n 3, 1, .null)] (by decide +kernel) rfl ?_
  refine aw_csw (rest := []) (u := 1) (u6 := 6) (wL_regret hX hs (hA_ hb) hfO (fun H1 q => by obtain ⟨f', q1, -⟩ := hP H1 q; exact q1.2.2.2.2.1) (fun c e => by subst e; exact hoa.2)) rfl ckL_regret inL_ nmL_ lw_s_regret lw_l230 lw_n_regret rfl (by decide +kernel) rfl rfl rfl (Nat.le_of_ble_eq_true rfl) (by show _ ≤ 601024; omega) (by show _ ≤ 7293033; omega) (by decide +kernel) wq_r (fun r H1 _ hq => ?_)
  obtain ⟨kx, f', rfl, h1, n1, e6, hw⟩ := wq0 out_lo hg hoa hP hq
  show aw E mL_law Q 1386 (lvL G i) [.int kx] H1 (k + 1) (n + 6)
  refine aw_b (pc' := 1394) (lv' := (6, .int kx) :: lvL G i) (st' := [.int (nI i + nI 1), .ref (lb G), .ref (lB G)]) [(1386, .istore 6, 2, .null), (1388, .aload_n 2, 1, .null), (1389, .aload_n 0, 1, .null), (1390, .iload 5, 2, .null), (1392, .iconst 1, 1, .int (nI 1)), (1393, .iadd, 1, .null)] (by decide +kernel) rfl ?_
  refine aw_sld h1.1 (ib_in (sc_j hi hg.2.2.2.2.2 (by decide))) (by decide +kernel) ?_
  refine aw_cv (rest := []) (st1 := [.int y]) (lB G) 0 (kX8_regret eB h1.2.2.2.1 hfB) rfl rfl ckX8_regret lw_l232 h1.2.2.2.1 eo_O_0 ⟨_, _, rfl⟩ nkX8_regret rfl (by decide +kernel) rfl (Nat.le_of_ble_eq_true rfl) (by show _ ≤ 601024; omega) (by show _ ≤ 7293033; omega) (by decide +kernel) (fun H2 z => ?_)
  obtain ⟨z, hn2⟩ := z
  have h2 := h1.mod hg z hn2
  have n2 := n1.kept z (by have := hg; unfold ge_ at this; omega)
  have hw := hw.kept z (Or.inr (by have := hg; unfold ge_ at this; omega))
  refine aw_b (pc' := 1401) (lv' := (7, .int y) :: (6, .int kx) :: lvL G i) (st' := [.ref (lB G)]) [(1398, .istore 7, 2, .null), (1400, .aload_n 2, 1, .null)] (by decide +kernel) rfl ?_
  refine aw_cv (rest := []) (st1 := [.int (t' 0 6)]) (lB G) 0 (kX8_thrown rfl h2.2.2.2.1) rfl rfl ckX8_thrown lw_l167 h2.2.2.2.1 eo_O_0 ⟨_, _, rfl⟩ nkX8_thrown rfl (by decide +kernel) rfl (Nat.le_of_ble_eq_true rfl) (by show _ ≤ 601024; omega) (by show _ ≤ 7293033; omega) (by decide +kernel) (fun H3 z => ?_)
  have h3 := h2.z z
  have n3 := n2.kept z (Nat.zero_le _)
  have hw := hw.kept z (Or.inr (Nat.zero_le _))
  refine aw_b (pc' := 1406) (lv' := (7, .int y) :: (6, .int kx) :: lvL G i) (st' := [.int kx, .int (t' 0 6)]) [(1404, .iload 6, 2, .null)] (by decide +kernel) rfl ?_
  refine aw_ic_eq (off := 5) 1411 (by decide) (by decide +kernel) (fun _ => ?_) (fun hne => absurd e6 hne)
  refine aw_b (pc' := 1413) (lv' := (7, .int y) :: (6, .int kx) :: lvL G i) (st' := [.int kx]) [(1411, .iload 6, 2, .null)] (by decide +kernel) rfl ?_
  have fin : aw E mL_law Q 1428 ((7, .int y) :: (6, .int kx) :: lvL G i) [] H3 (k + 1) (n + 6) := by
    refine aw_b (pc' := 3097) (lv' := (7, .int y) :: (6, .int kx) :: lvL G i) (st' := []) [(1428, .goto 1669, 3, .null)] (by decide +kernel) rfl ?_
    refine aw_lv (lv' := lvL G i) [2, 3, 4, 5, 6, 7] rfl ?_
    exact aw_widen (by omega) (by omega) (kk H3 s' t' f' h3 n3 hF)
  refine aw_if_ne (off := 15) 1428 (by decide) (by decide +kernel) (fun _ => fin) (fun h0 => ?_)
  obtain ⟨e, q1, f0, rfl, q2⟩ := hw h0
  refine aw_b (pc' := 1418) (lv' := (7, .int y) :: (6, .int kx) :: lvL G i) (st' := [.int (nI 0), .ref (lO G)]) [(1416, .aload_n 3, 1, .null), (1417, .iconst 0, 1, .int (nI 0))] (by decide +kernel) rfl ?_
  refine aw_lald q1 (ib_in (by decide)) (by decide +kernel) ?_
  refine aw_b (pc' := 1423) (lv' := (7, .int y) :: (6, .int kx) :: lvL G i) (st' := [.int (lg_cmp (f0 (Int32.toNatClampNeg (nI 0))) ((y).toInt64))]) [(1419, .iload 7, 2, .null), (1421, .i2l, 1, .null), (1422, .lcmp, 1, .null)] (by decide +kernel) rfl ?_
  refine aw_if_eq (off := 5) 1428 (by decide) (by decide +kernel) (fun _ => fin) (fun hne => absurd ?_ hne)
  rw [lg_cmp_eq]
  exact q2
theorem lw_l233 : Cond.methodLink RL 233 yX7_best ∈ uw_ := (uw_mem 746 (by decide +kernel) (by decide +kernel))
theorem lw_l236 : Cond.methodLink RL 236 yX8_best ∈ uw_ := (uw_mem 1817 (by decide +kernel) (by decide +kernel))
set_option maxHeartbeats 4000000 in
theorem lc_23 {E : ev_} {G : lx_} {H : Heap} {s t : st_} {f : Nat → Option Nat} {i k n : Nat} {Q : po_} (hg : ge_ E G) (hb : LB_ E G H s t f) (hs0 : SN_ E H (lP G + 1) f t) (hi : i + 4 ≤ lL G) (hc : CV_ E H (lA G) mX7_best [.ref (lA G)] t (fX8_best t)) (hk : k + 80 ≤ 601024) (hn : n + 9000 ≤ 7293033) (kk : LN_ E G Q i (k + 80) (n + 9000)) : aw E mL_law Q 1431 (lvL G i) [] H k n := by
  obtain ⟨s', v, t', hs, eB, hF, he⟩ := hc
  have hfB : ev_fr E (lB G) := Nat.le_trans hg.1 (by have := hg.2.1; omega)
  refine aw_b (pc' := 1432) (lv' := lvL G i) (st' := [.ref (lA G)]) [(1431, .aload_n 1, 1, .null)] (by decide +kernel) rfl ?_
  refine aw_cv (rest := []) (st1 := [.int v]) (lA G) 0 hs rfl rfl ckX7_best lw_l233 hb.2.1 eo_M_0 ⟨_, _, rfl⟩ nkX7_best rfl (by decide +kernel) rfl (Nat.le_of_ble_eq_true rfl) (by show _ ≤ 601024; omega) (by show _ ≤ 7293033; omega) (by decide +kernel) (fun H1 z => ?_)
  have h1 := hb.cls hg z.1 z.2
  have n1 := (hs0.kept z.1 (by have := hg; unfold ge_ at this; omega)).md he
  refine aw_b (pc' := 1436) (lv' := lvL G i) (st' := [.ref (lB G), .int v]) [(1435, .aload_n 2, 1, .null)] (by decide +kernel) rfl ?_
  refine aw_cv (rest := [.int v]) (st1 := [.int v, .int v]) (lB G) 0 (kX8_best eB h1.2.2.2.1 hfB) rfl rfl ckX8_best lw_l236 h1.2.2.2.1 eo_O_0 ⟨_, _, rfl⟩ nkX8_best rfl (by decide +kernel) rfl (Nat.le_of_ble_eq_true rfl) (by show _ ≤ 601024; omega) (by show _ ≤ 7293033; omega) (by decide +kernel) (fun H2 z => ?_)
  obtain ⟨z, hn2⟩ := z
  have h2 := h1.mod hg z hn2
  have n2 := n1.kept z (by have := hg; unfold ge_ at this; omega)
  refine aw_ic_eq (off := 1658) 3097 (by decide) (by decide +kernel) (fun _ => ?_) (fun hne => absurd rfl hne)
  exact aw_widen (by omega) (by omega) (kk H2 s' t' f h2 n2 hF)
theorem lw_s_regretTo : Cond.static mL_regretTo.1 ∈ uw_ := (uw_mem 1172 (by decide +kernel) (by decide +kernel))
theorem lw_n_regretTo : nok_ mL_regretTo 3 := by decide +kernel
theorem lw_l237 : Cond.methodLink RL 237 yL_regretTo ∈ uw_ := (uw_mem 1171 (by decide +kernel) (by decide +kernel))
theorem lw_l239 : Cond.methodLink RL 239 yX8_regretTo ∈ uw_ := (uw_mem 1821 (by decide +kernel) (by decide +kernel))
set_option maxHeartbeats 4000000 in
theorem lc_24 {E : ev_} {G : lx_} {H : Heap} {s t : st_} {f : Nat → Option Nat} {i k n : Nat} {Q : po_} (hX : exo_ E) (hg : ge_ E G) (hb : LB_ E G H s t f) (hi : i + 4 ≤ lL G) (hc : CL_ E G H mX7_regretTo [.ref (lA G), .int (pq_ G i 1)] vi_ g1i_ t (fX8_regretTo t ((pq_ G i 1))) (fun _ => True)) (hk : k + 80 ≤ 601024) (hn : n + 9000 ≤ 7293033) (kk : LN_ E G Q i (k + 80) (n + 9000)) : aw E mL_law Q 1444 (lvL G i) [] H k n := by
  obtain ⟨s', v, t', y, PP, hs, eB, hoa, hF, hZ, hP⟩ := hc
  have hfB : ev_fr E (lB G) := Nat.le_trans hg.1 (by have := hg.2.1; omega)
  have hfO : ev_fr E (lO G) := Nat.le_trans hg.1 (by have := hg; unfold ge_ at this; omega)
  refine aw_b (pc' := 1450) (lv' := lvL G i) (st' := [.int (nI i + nI 1), .ref (lb G), .ref (lA G)]) [(1444, .aload_n 1, 1, .null), (1445, .aload_n 0, 1, .null), (1446, .iload 5, 2, .null), (1448, .iconst 1, 1, .int (nI 1)), (1449, .iadd, 1, .null)] (by decide +kernel) rfl ?_
  refine aw_sld hb.1 (ib_in (sc_j hi hg.2.2.2.2.2 (by decide))) (by decide +kernel) ?_
  refine aw_b (pc' := 1452) (lv' := lvL G i) (st' := [.ref (lO G), .int (pq_ G i 1), .ref (lA G)]) [(1451, .aload_n 3, 1, .null)] (by decide +kernel) rfl ?_
  refine aw_csw (rest := []) (u := 1) (u6 := 6) (wL_regretTo hX hs (hA_ hb) hfO (fun H1 q => by obtain ⟨f', q1, -⟩ := hP H1 q; exact q1.2.2.2.2.1) (fun c e => by subst e; exact hoa.2)) rfl ckL_regretTo inL_ nmL_ lw_s_regretTo lw_l237 lw_n_regretTo rfl (by decide +kernel) rfl rfl rfl (Nat.le_of_ble_eq_true rfl) (by show _ ≤ 601024; omega) (by show _ ≤ 7293033; omega) (by decide +kernel) wq_r (fun r H1 _ hq => ?_)
  obtain ⟨kx, f', rfl, h1, n1, e6, hw⟩ := wq0 out_lo hg hoa hP hq
  show aw E mL_law Q 1455 (lvL G i) [.int kx] H1 (k + 1) (n + 6)
  refine aw_b (pc' := 1463) (lv' := (6, .int kx) :: lvL G i) (st' := [.int (nI i + nI 1), .ref (lb G), .ref (lB G)]) [(1455, .istore 6, 2, .null), (1457, .aload_n 2, 1, .null), (1458, .aload_n 0, 1, .null), (1459, .iload 5, 2, .null), (1461, .iconst 1, 1, .int (nI 1)), (1462, .iadd, 1, .null)] (by decide +kernel) rfl ?_
  refine aw_sld h1.1 (ib_in (sc_j hi hg.2.2.2.2.2 (by decide))) (by decide +kernel) ?_
  refine aw_cv (rest := []) (st1 := [.int y]) (lB G) 0 (kX8_regretTo eB h1.2.2.2.1 hfB) rfl rfl ckX8_regretTo lw_l239 h1.2.2.2.1 eo_O_0 ⟨_, _, rfl⟩ nkX8_regretTo rfl (by decide +kernel) rfl (Nat.le_of_ble_eq_true rfl) (by show _ ≤ 601024; omega) (by show _ ≤ 7293033; omega) (by decide +kernel) (fun H2 z => ?_)
  obtain ⟨z, hn2⟩ := z
  have h2 := h1.mod hg z hn2
  have n2 := n1.kept z (by have := hg; unfold ge_ at this; omega)
  have hw := hw.kept z (Or.inr (by have := hg; unfold ge_ at this; omega))
  refine aw_b (pc' := 1470) (lv' := (7, .int y) :: (6, .int kx) :: lvL G i) (st' := [.ref (lB G)]) [(1467, .istore 7, 2, .null), (1469, .aload_n 2, 1, .null)] (by decide +kernel) rfl ?_
  refine aw_cv (rest := []) (st1 := [.int (t' 0 6)]) (lB G) 0 (kX8_thrown rfl h2.2.2.2.1) rfl rfl ckX8_thrown lw_l167 h2.2.2.2.1 eo_O_0 ⟨_, _, rfl⟩ nkX8_thrown rfl (by decide +kernel) rfl (Nat.le_of_ble_eq_true rfl) (by show _ ≤ 601024; omega) (by show _ ≤ 7293033; omega) (by decide +kernel) (fun H3 z => ?_)
  have h3 := h2.z z
  have n3 := n2.kept z (Nat.zero_le _)
  have hw := hw.kept z (Or.inr (Nat.zero_le _))
  refine aw_b (pc' := 1475) (lv' := (7, .int y) :: (6, .int kx) :: lvL G i) (st' := [.int kx, .int (t' 0 6)]) [(1473, .iload 6, 2, .null)] (by decide +kernel) rfl ?_
  refine aw_ic_eq (off := 5) 1480 (by decide) (by decide +kernel) (fun _ => ?_) (fun hne => absurd e6 hne)
  refine aw_b (pc' := 1482) (lv' := (7, .int y) :: (6, .int kx) :: lvL G i) (st' := [.int kx]) [(1480, .iload 6, 2, .null)] (by decide +kernel) rfl ?_
  have fin : aw E mL_law Q 1497 ((7, .int y) :: (6, .int kx) :: lvL G i) [] H3 (k + 1) (n + 6) := by
    refine aw_b (pc' := 3097) (lv' := (7, .int y) :: (6, .int kx) :: lvL G i) (st' := []) [(1497, .goto 1600, 3, .null)] (by decide +kernel) rfl ?_
    refine aw_lv (lv' := lvL G i) [2, 3, 4, 5, 6, 7] rfl ?_
    exact aw_widen (by omega) (by omega) (kk H3 s' t' f' h3 n3 hF)
  refine aw_if_ne (off := 15) 1497 (by decide) (by decide +kernel) (fun _ => fin) (fun h0 => ?_)
  obtain ⟨e, q1, f0, rfl, q2⟩ := hw h0
  refine aw_b (pc' := 1487) (lv' := (7, .int y) :: (6, .int kx) :: lvL G i) (st' := [.int (nI 0), .ref (lO G)]) [(1485, .aload_n 3, 1, .null), (1486, .iconst 0, 1, .int (nI 0))] (by decide +kernel) rfl ?_
  refine aw_lald q1 (ib_in (by decide)) (by decide +kernel) ?_
  refine aw_b (pc' := 1492) (lv' := (7, .int y) :: (6, .int kx) :: lvL G i) (st' := [.int (lg_cmp (f0 (Int32.toNatClampNeg (nI 0))) ((y).toInt64))]) [(1488, .iload 7, 2, .null), (1490, .i2l, 1, .null), (1491, .lcmp, 1, .null)] (by decide +kernel) rfl ?_
  refine aw_if_eq (off := 5) 1497 (by decide) (by decide +kernel) (fun _ => fin) (fun hne => absurd ?_ hne)
  rw [lg_cmp_eq]
  exact q2
theorem lw_s_swapCost : Cond.static mL_swapCost.1 ∈ uw_ := (uw_mem 1179 (by decide +kernel) (by decide +kernel))
theorem lw_n_swapCost : nok_ mL_swapCost 4 := by decide +kernel
theorem lw_l240 : Cond.methodLink RL 240 yL_swapCost ∈ uw_ := (uw_mem 1178 (by decide +kernel) (by decide +kernel))
theorem lw_l242 : Cond.methodLink RL 242 yX8_swapCost ∈ uw_ := (uw_mem 1942 (by decide +kernel) (by decide +kernel))
set_option maxHeartbeats 4000000 in
theorem lc_25 {E : ev_} {G : lx_} {H : Heap} {s t : st_} {f : Nat → Option Nat} {i k n : Nat} {Q : po_} (hX : exo_ E) (hg : ge_ E G) (hb : LB_ E G H s t f) (hi : i + 4 ≤ lL G) (hc : CL_ E G H mX7_swapCost [.ref (lA G), .int (pq_ G i 1), .int (pq_ G i 2)] vi_ g1i_ t (fX8_swapCost t ((pq_ G i 1)) ((pq_ G i 2))) (fun _ => True)) (hk : k + 80 ≤ 601024) (hn : n + 9000 ≤ 7293033) (kk : LN_ E G Q i (k + 80) (n + 9000)) : aw E mL_law Q 1500 (lvL G i) [] H k n := by
  obtain ⟨s', v, t', y, PP, hs, eB, hoa, hF, hZ, hP⟩ := hc
  have hfB : ev_fr E (lB G) := Nat.le_trans hg.1 (by have := hg.2.1; omega)
  have hfO : ev_fr E (lO G) := Nat.le_trans hg.1 (by have := hg; unfold ge_ at this; omega)
  refine aw_b (pc' := 1506) (lv' := lvL G i) (st' := [.int (nI i + nI 1), .ref (lb G), .ref (lA G)]) [(1500, .aload_n 1, 1, .null), (1501, .aload_n 0, 1, .null), (1502, .iload 5, 2, .null), (1504, .iconst 1, 1, .int (nI 1)), (1505, .iadd, 1, .null)] (by decide +kernel) rfl ?_
  refine aw_sld hb.1 (ib_in (sc_j hi hg.2.2.2.2.2 (by decide))) (by decide +kernel) ?_
  refine aw_b (pc' := 1512) (lv' := lvL G i) (st' := [.int (nI i + nI 2), .ref (lb G), .int (pq_ G i 1), .ref (lA G)]) [(1507, .aload_n 0, 1, .null), (1508, .iload 5, 2, .null), (1510, .iconst 2, 1, .int (nI 2)), (1511, .iadd, 1, .null)] (by decide +kernel) rfl ?_
  refine aw_sld hb.1 (ib_in (sc_j hi hg.2.2.2.2.2 (by decide))) (by decide +kernel) ?_
  refine aw_b (pc' := 1514) (lv' := lvL G i) (st' := [.ref (lO G), .int (pq_ G i 2), .int (pq_ G i 1), .ref (lA G)]) [(1513, .aload_n 3, 1, .null)] (by decide +kernel) rfl ?_
  refine aw_csw (rest := []) (u := 2) (u6 := 12) (wL_swapCost hX hs (hA_ hb) hfO (fun H1 q => by obtain ⟨f', q1, -⟩ := hP H1 q; exact q1.2.2.2.2.1) (fun c e => by subst e; exact hoa.2)) rfl ckL_swapCost inL_ nmL_ lw_s_swapCost lw_l240 lw_n_swapCost rfl (by decide +kernel) rfl rfl rfl (Nat.le_of_ble_eq_true rfl) (by show _ ≤ 601024; omega) (by show _ ≤ 7293033; omega) (by decide +kernel) wq_r (fun r H1 _ hq => ?_)
  obtain ⟨kx, f', rfl, h1, n1, e6, hw⟩ := wq0 out_lo hg hoa hP hq
  show aw E mL_law Q 1517 (lvL G i) [.int kx] H1 (k + 2) (n + 12)
  refine aw_b (pc' := 1525) (lv' := (6, .int kx) :: lvL G i) (st' := [.int (nI i + nI 1), .ref (lb G), .ref (lB G)]) [(1517, .istore 6, 2, .null), (1519, .aload_n 2, 1, .null), (1520, .aload_n 0, 1, .null), (1521, .iload 5, 2, .null), (1523, .iconst 1, 1, .int (nI 1)), (1524, .iadd, 1, .null)] (by decide +kernel) rfl ?_
  refine aw_sld h1.1 (ib_in (sc_j hi hg.2.2.2.2.2 (by decide))) (by decide +kernel) ?_
  refine aw_b (pc' := 1531) (lv' := (6, .int kx) :: lvL G i) (st' := [.int (nI i + nI 2), .ref (lb G), .int (pq_ G i 1), .ref (lB G)]) [(1526, .aload_n 0, 1, .null), (1527, .iload 5, 2, .null), (1529, .iconst 2, 1, .int (nI 2)), (1530, .iadd, 1, .null)] (by decide +kernel) rfl ?_
  refine aw_sld h1.1 (ib_in (sc_j hi hg.2.2.2.2.2 (by decide))) (by decide +kernel) ?_
  refine aw_cv (rest := []) (st1 := [.int y]) (lB G) 0 (kX8_swapCost eB h1.2.2.2.1 hfB) rfl rfl ckX8_swapCost lw_l242 h1.2.2.2.1 eo_O_0 ⟨_, _, rfl⟩ nkX8_swapCost rfl (by decide +kernel) rfl (Nat.le_of_ble_eq_true rfl) (by show _ ≤ 601024; omega) (by show _ ≤ 7293033; omega) (by decide +kernel) (fun H2 z => ?_)
  obtain ⟨z, hn2⟩ := z
  have h2 := h1.mod hg z hn2
  have n2 := n1.kept z (by have := hg; unfold ge_ at this; omega)
  have hw := hw.kept z (Or.inr (by have := hg; unfold ge_ at this; omega))
  refine aw_b (pc' := 1538) (lv' := (7, .int y) :: (6, .int kx) :: lvL G i) (st' := [.ref (lB G)]) [(1535, .istore 7, 2, .null), (1537, .aload_n 2, 1, .null)] (by decide +kernel) rfl ?_
  refine aw_cv (rest := []) (st1 := [.int (t' 0 6)]) (lB G) 0 (kX8_thrown rfl h2.2.2.2.1) rfl rfl ckX8_thrown lw_l167 h2.2.2.2.1 eo_O_0 ⟨_, _, rfl⟩ nkX8_thrown rfl (by decide +kernel) rfl (Nat.le_of_ble_eq_true rfl) (by show _ ≤ 601024; omega) (by show _ ≤ 7293033; omega) (by decide +kernel) (fun H3 z => ?_)
  have h3 := h2.z z
  have n3 := n2.kept z (Nat.zero_le _)
  have hw := hw.kept z (Or.inr (Nat.zero_le _))
  refine aw_b (pc' := 1543) (lv' := (7, .int y) :: (6, .int kx) :: lvL G i) (st' := [.int kx, .int (t' 0 6)]) [(1541, .iload 6, 2, .null)] (by decide +kernel) rfl ?_
  refine aw_ic_eq (off := 5) 1548 (by decide) (by decide +kernel) (fun _ => ?_) (fun hne => absurd e6 hne)
  refine aw_b (pc' := 1550) (lv' := (7, .int y) :: (6, .int kx) :: lvL G i) (st' := [.int kx]) [(1548, .iload 6, 2, .null)] (by decide +kernel) rfl ?_
  have fin : aw E mL_law Q 1565 ((7, .int y) :: (6, .int kx) :: lvL G i) [] H3 (k + 2) (n + 12) := by
    refine aw_b (pc' := 3097) (lv' := (7, .int y) :: (6, .int kx) :: lvL G i) (st' := []) [(1565, .goto 1532, 3, .null)] (by decide +kernel) rfl ?_
    refine aw_lv (lv' := lvL G i) [2, 3, 4, 5, 6, 7] rfl ?_
    exact aw_widen (by omega) (by omega) (kk H3 s' t' f' h3 n3 hF)
  refine aw_if_ne (off := 15) 1565 (by decide) (by decide +kernel) (fun _ => fin) (fun h0 => ?_)
  obtain ⟨e, q1, f0, rfl, q2⟩ := hw h0
  refine aw_b (pc' := 1555) (lv' := (7, .int y) :: (6, .int kx) :: lvL G i) (st' := [.int (nI 0), .ref (lO G)]) [(1553, .aload_n 3, 1, .null), (1554, .iconst 0, 1, .int (nI 0))] (by decide +kernel) rfl ?_
  refine aw_lald q1 (ib_in (by decide)) (by decide +kernel) ?_
  refine aw_b (pc' := 1560) (lv' := (7, .int y) :: (6, .int kx) :: lvL G i) (st' := [.int (lg_cmp (f0 (Int32.toNatClampNeg (nI 0))) ((y).toInt64))]) [(1556, .iload 7, 2, .null), (1558, .i2l, 1, .null), (1559, .lcmp, 1, .null)] (by decide +kernel) rfl ?_
  refine aw_if_eq (off := 5) 1565 (by decide) (by decide +kernel) (fun _ => fin) (fun hne => absurd ?_ hne)
  rw [lg_cmp_eq]
  exact q2
theorem lw_l243 : Cond.methodLink RL 243 yX7_swapRegret ∈ uw_ := (uw_mem 751 (by decide +kernel) (by decide +kernel))
theorem lw_l246 : Cond.methodLink RL 246 yX8_swapRegret ∈ uw_ := (uw_mem 1957 (by decide +kernel) (by decide +kernel))
set_option maxHeartbeats 4000000 in
theorem lc_26 {E : ev_} {G : lx_} {H : Heap} {s t : st_} {f : Nat → Option Nat} {i k n : Nat} {Q : po_} (hg : ge_ E G) (hb : LB_ E G H s t f) (hs0 : SN_ E H (lP G + 1) f t) (hi : i + 4 ≤ lL G) (hc : CV_ E H (lA G) mX7_swapRegret [.ref (lA G)] t (fX8_swapRegret t)) (hk : k + 80 ≤ 601024) (hn : n + 9000 ≤ 7293033) (kk : LN_ E G Q i (k + 80) (n + 9000)) : aw E mL_law Q 1568 (lvL G i) [] H k n := by
  obtain ⟨s', v, t', hs, eB, hF, he⟩ := hc
  have hfB : ev_fr E (lB G) := Nat.le_trans hg.1 (by have := hg.2.1; omega)
  refine aw_b (pc' := 1569) (lv' := lvL G i) (st' := [.ref (lA G)]) [(1568, .aload_n 1, 1, .null)] (by decide +kernel) rfl ?_
  refine aw_cv (rest := []) (st1 := [.int v]) (lA G) 0 hs rfl rfl ckX7_swapRegret lw_l243 hb.2.1 eo_M_0 ⟨_, _, rfl⟩ nkX7_swapRegret rfl (by decide +kernel) rfl (Nat.le_of_ble_eq_true rfl) (by show _ ≤ 601024; omega) (by show _ ≤ 7293033; omega) (by decide +kernel) (fun H1 z => ?_)
  have h1 := hb.cls hg z.1 z.2
  have n1 := (hs0.kept z.1 (by have := hg; unfold ge_ at this; omega)).md he
  refine aw_b (pc' := 1573) (lv' := lvL G i) (st' := [.ref (lB G), .int v]) [(1572, .aload_n 2, 1, .null)] (by decide +kernel) rfl ?_
  refine aw_cv (rest := [.int v]) (st1 := [.int v, .int v]) (lB G) 0 (kX8_swapRegret eB h1.2.2.2.1 hfB) rfl rfl ckX8_swapRegret lw_l246 h1.2.2.2.1 eo_O_0 ⟨_, _, rfl⟩ nkX8_swapRegret rfl (by decide +kernel) rfl (Nat.le_of_ble_eq_true rfl) (by show _ ≤ 601024; omega) (by show _ ≤ 7293033; omega) (by decide +kernel) (fun H2 z => ?_)
  obtain ⟨z, hn2⟩ := z
  have h2 := h1.mod hg z hn2
  have n2 := n1.kept z (by have := hg; unfold ge_ at this; omega)
  refine aw_ic_eq (off := 1521) 3097 (by decide) (by decide +kernel) (fun _ => ?_) (fun hne => absurd rfl hne)
  exact aw_widen (by omega) (by omega) (kk H2 s' t' f h2 n2 hF)
theorem lw_s_bestSwap : Cond.static mL_bestSwap.1 ∈ uw_ := (uw_mem 1186 (by decide +kernel) (by decide +kernel))
theorem lw_n_bestSwap : nok_ mL_bestSwap 3 := by decide +kernel
theorem lw_l247 : Cond.methodLink RL 247 yL_bestSwap ∈ uw_ := (uw_mem 1185 (by decide +kernel) (by decide +kernel))
theorem lw_l249 : Cond.methodLink RL 249 yX8_bestSwap ∈ uw_ := (uw_mem 1949 (by decide +kernel) (by decide +kernel))
set_option maxHeartbeats 4000000 in
theorem lc_27 {E : ev_} {G : lx_} {H : Heap} {s t : st_} {f : Nat → Option Nat} {i k n : Nat} {Q : po_} (hX : exo_ E) (hg : ge_ E G) (hb : LB_ E G H s t f) (hi : i + 4 ≤ lL G) (hc : CL_ E G H mX7_bestSwap [.ref (lA G), .int (pq_ G i 1)] vi_ g1i_ t (fX8_bestSwap t ((pq_ G i 1))) (fun _ => True)) (hk : k + 80 ≤ 601024) (hn : n + 9000 ≤ 7293033) (kk : LN_ E G Q i (k + 80) (n + 9000)) : aw E mL_law Q 1581 (lvL G i) [] H k n := by
  obtain ⟨s', v, t', y, PP, hs, eB, hoa, hF, hZ, hP⟩ := hc
  have hfB : ev_fr E (lB G) := Nat.le_trans hg.1 (by have := hg.2.1; omega)
  have hfO : ev_fr E (lO G) := Nat.le_trans hg.1 (by have := hg; unfold ge_ at this; omega)
  refine aw_b (pc' := 1587) (lv' := lvL G i) (st' := [.int (nI i + nI 1), .ref (lb G), .ref (lA G)]) [(1581, .aload_n 1, 1, .null), (1582, .aload_n 0, 1, .null), (1583, .iload 5, 2, .null), (1585, .iconst 1, 1, .int (nI 1)), (1586, .iadd, 1, .null)] (by decide +kernel) rfl ?_
  refine aw_sld hb.1 (ib_in (sc_j hi hg.2.2.2.2.2 (by decide))) (by decide +kernel) ?_
  refine aw_b (pc' := 1589) (lv' := lvL G i) (st' := [.ref (lO G), .int (pq_ G i 1), .ref (lA G)]) [(1588, .aload_n 3, 1, .null)] (by decide +kernel) rfl ?_
  refine aw_csw (rest := []) (u := 1) (u6 := 6) (wL_bestSwap hX hs (hA_ hb) hfO (fun H1 q => by obtain ⟨f', q1, -⟩ := hP H1 q; exact q1.2.2.2.2.1) (fun c e => by subst e; exact hoa.2)) rfl ckL_bestSwap inL_ nmL_ lw_s_bestSwap lw_l247 lw_n_bestSwap rfl (by decide +kernel) rfl rfl rfl (Nat.le_of_ble_eq_true rfl) (by show _ ≤ 601024; omega) (by show _ ≤ 7293033; omega) (by decide +kernel) wq_r (fun r H1 _ hq => ?_)
  obtain ⟨kx, f', rfl, h1, n1, e6, hw⟩ := wq0 out_lo hg hoa hP hq
  show aw E mL_law Q 1592 (lvL G i) [.int kx] H1 (k + 1) (n + 6)
  refine aw_b (pc' := 1600) (lv' := (6, .int kx) :: lvL G i) (st' := [.int (nI i + nI 1), .ref (lb G), .ref (lB G)]) [(1592, .istore 6, 2, .null), (1594, .aload_n 2, 1, .null), (1595, .aload_n 0, 1, .null), (1596, .iload 5, 2, .null), (1598, .iconst 1, 1, .int (nI 1)), (1599, .iadd, 1, .null)] (by decide +kernel) rfl ?_
  refine aw_sld h1.1 (ib_in (sc_j hi hg.2.2.2.2.2 (by decide))) (by decide +kernel) ?_
  refine aw_cv (rest := []) (st1 := [.int y]) (lB G) 0 (kX8_bestSwap eB h1.2.2.2.1 hfB) rfl rfl ckX8_bestSwap lw_l249 h1.2.2.2.1 eo_O_0 ⟨_, _, rfl⟩ nkX8_bestSwap rfl (by decide +kernel) rfl (Nat.le_of_ble_eq_true rfl) (by show _ ≤ 601024; omega) (by show _ ≤ 7293033; omega) (by decide +kernel) (fun H2 z => ?_)
  obtain ⟨z, hn2⟩ := z
  have h2 := h1.mod hg z hn2
  have n2 := n1.kept z (by have := hg; unfold ge_ at this; omega)
  have hw := hw.kept z (Or.inr (by have := hg; unfold ge_ at this; omega))
  refine aw_b (pc' := 1607) (lv' := (7, .int y) :: (6, .int kx) :: lvL G i) (st' := [.ref (lB G)]) [(1604, .istore 7, 2, .null), (1606, .aload_n 2, 1, .null)] (by decide +kernel) rfl ?_
  refine aw_cv (rest := []) (st1 := [.int (t' 0 6)]) (lB G) 0 (kX8_thrown rfl h2.2.2.2.1) rfl rfl ckX8_thrown lw_l167 h2.2.2.2.1 eo_O_0 ⟨_, _, rfl⟩ nkX8_thrown rfl (by decide +kernel) rfl (Nat.le_of_ble_eq_true rfl) (by show _ ≤ 601024; omega) (by show _ ≤ 7293033; omega) (by decide +kernel) (fun H3 z => ?_)
  have h3 := h2.z z
  have n3 := n2.kept z (Nat.zero_le _)
  have hw := hw.kept z (Or.inr (Nat.zero_le _))
  refine aw_b (pc' := 1612) (lv' := (7, .int y) :: (6, .int kx) :: lvL G i) (st' := [.int kx, .int (t' 0 6)]) [(1610, .iload 6, 2, .null)] (by decide +kernel) rfl ?_
  refine aw_ic_eq (off := 5) 1617 (by decide) (by decide +kernel) (fun _ => ?_) (fun hne => absurd e6 hne)
  refine aw_b (pc' := 1619) (lv' := (7, .int y) :: (6, .int kx) :: lvL G i) (st' := [.int kx]) [(1617, .iload 6, 2, .null)] (by decide +kernel) rfl ?_
  have fin : aw E mL_law Q 1634 ((7, .int y) :: (6, .int kx) :: lvL G i) [] H3 (k + 1) (n + 6) := by
    refine aw_b (pc' := 3097) (lv' := (7, .int y) :: (6, .int kx) :: lvL G i) (st' := []) [(1634, .goto 1463, 3, .null)] (by decide +kernel) rfl ?_
    refine aw_lv (lv' := lvL G i) [2, 3, 4, 5, 6, 7] rfl ?_
    exact aw_widen (by omega) (by omega) (kk H3 s' t' f' h3 n3 hF)
  refine aw_if_ne (off := 15) 1634 (by decide) (by decide +kernel) (fun _ => fin) (fun h0 => ?_)
  obtain ⟨e, q1, f0, rfl, q2⟩ := hw h0
  refine aw_b (pc' := 1624) (lv' := (7, .int y) :: (6, .int kx) :: lvL G i) (st' := [.int (nI 0), .ref (lO G)]) [(1622, .aload_n 3, 1, .null), (1623, .iconst 0, 1, .int (nI 0))] (by decide +kernel) rfl ?_
  refine aw_lald q1 (ib_in (by decide)) (by decide +kernel) ?_
  refine aw_b (pc' := 1629) (lv' := (7, .int y) :: (6, .int kx) :: lvL G i) (st' := [.int (lg_cmp (f0 (Int32.toNatClampNeg (nI 0))) ((y).toInt64))]) [(1625, .iload 7, 2, .null), (1627, .i2l, 1, .null), (1628, .lcmp, 1, .null)] (by decide +kernel) rfl ?_
  refine aw_if_eq (off := 5) 1634 (by decide) (by decide +kernel) (fun _ => fin) (fun hne => absurd ?_ hne)
  rw [lg_cmp_eq]
  exact q2
theorem lw_s_rival : Cond.static mL_rival.1 ∈ uw_ := (uw_mem 1193 (by decide +kernel) (by decide +kernel))
theorem lw_n_rival : nok_ mL_rival 3 := by decide +kernel
theorem lw_l250 : Cond.methodLink RL 250 yL_rival ∈ uw_ := (uw_mem 1192 (by decide +kernel) (by decide +kernel))
theorem lw_l252 : Cond.methodLink RL 252 yX8_rival ∈ uw_ := (uw_mem 1961 (by decide +kernel) (by decide +kernel))
set_option maxHeartbeats 4000000 in
theorem lc_28 {E : ev_} {G : lx_} {H : Heap} {s t : st_} {f : Nat → Option Nat} {i k n : Nat} {Q : po_} (hX : exo_ E) (hg : ge_ E G) (hb : LB_ E G H s t f) (hi : i + 4 ≤ lL G) (hc : CL_ E G H mX7_rival [.ref (lA G), .int (pq_ G i 1)] vi_ g1_ t (fX8_rival t ((pq_ G i 1))) (fun _ => True)) (hk : k + 80 ≤ 601024) (hn : n + 9000 ≤ 7293033) (kk : LN_ E G Q i (k + 80) (n + 9000)) : aw E mL_law Q 1637 (lvL G i) [] H k n := by
  obtain ⟨s', v, t', y, PP, hs, eB, hoa, hF, hZ, hP⟩ := hc
  have hfB : ev_fr E (lB G) := Nat.le_trans hg.1 (by have := hg.2.1; omega)
  have hfO : ev_fr E (lO G) := Nat.le_trans hg.1 (by have := hg; unfold ge_ at this; omega)
  refine aw_b (pc' := 1643) (lv' := lvL G i) (st' := [.int (nI i + nI 1), .ref (lb G), .ref (lA G)]) [(1637, .aload_n 1, 1, .null), (1638, .aload_n 0, 1, .null), (1639, .iload 5, 2, .null), (1641, .iconst 1, 1, .int (nI 1)), (1642, .iadd, 1, .null)] (by decide +kernel) rfl ?_
  refine aw_sld hb.1 (ib_in (sc_j hi hg.2.2.2.2.2 (by decide))) (by decide +kernel) ?_
  refine aw_b (pc' := 1645) (lv' := lvL G i) (st' := [.ref (lO G), .int (pq_ G i 1), .ref (lA G)]) [(1644, .aload_n 3, 1, .null)] (by decide +kernel) rfl ?_
  refine aw_csw (rest := []) (u := 1) (u6 := 6) (wL_rival hX hs (hA_ hb) hfO (fun H1 q => by obtain ⟨f', q1, -⟩ := hP H1 q; exact q1.2.2.2.2.1) (fun c e => by subst e; exact hoa.2)) rfl ckL_rival inL_ nmL_ lw_s_rival lw_l250 lw_n_rival rfl (by decide +kernel) rfl rfl rfl (Nat.le_of_ble_eq_true rfl) (by show _ ≤ 601024; omega) (by show _ ≤ 7293033; omega) (by decide +kernel) wq_r (fun r H1 _ hq => ?_)
  obtain ⟨kx, f', rfl, h1, n1, e6, hw⟩ := wq0 out_lo hg hoa hP hq
  show aw E mL_law Q 1648 (lvL G i) [.int kx] H1 (k + 1) (n + 6)
  refine aw_b (pc' := 1656) (lv' := (6, .int kx) :: lvL G i) (st' := [.int (nI i + nI 1), .ref (lb G), .ref (lB G)]) [(1648, .istore 6, 2, .null), (1650, .aload_n 2, 1, .null), (1651, .aload_n 0, 1, .null), (1652, .iload 5, 2, .null), (1654, .iconst 1, 1, .int (nI 1)), (1655, .iadd, 1, .null)] (by decide +kernel) rfl ?_
  refine aw_sld h1.1 (ib_in (sc_j hi hg.2.2.2.2.2 (by decide))) (by decide +kernel) ?_
  refine aw_cv (rest := []) (st1 := [.int y]) (lB G) 0 (kX8_rival eB h1.2.2.2.1 hfB) rfl rfl ckX8_rival lw_l252 h1.2.2.2.1 eo_O_0 ⟨_, _, rfl⟩ nkX8_rival rfl (by decide +kernel) rfl (Nat.le_of_ble_eq_true rfl) (by show _ ≤ 601024; omega) (by show _ ≤ 7293033; omega) (by decide +kernel) (fun H2 z => ?_)
  obtain ⟨z, hn2⟩ := z
  have h2 := h1.mod hg z hn2
  have n2 := n1.kept z (by have := hg; unfold ge_ at this; omega)
  have hw := hw.kept z (Or.inr (by have := hg; unfold ge_ at this; omega))
  refine aw_b (pc' := 1663) (lv' := (7, .int y) :: (6, .int kx) :: lvL G i) (st' := [.ref (lB G)]) [(1660, .istore 7, 2, .null), (1662, .aload_n 2, 1, .null)] (by decide +kernel) rfl ?_
  refine aw_cv (rest := []) (st1 := [.int (t' 0 6)]) (lB G) 0 (kX8_thrown rfl h2.2.2.2.1) rfl rfl ckX8_thrown lw_l167 h2.2.2.2.1 eo_O_0 ⟨_, _, rfl⟩ nkX8_thrown rfl (by decide +kernel) rfl (Nat.le_of_ble_eq_true rfl) (by show _ ≤ 601024; omega) (by show _ ≤ 7293033; omega) (by decide +kernel) (fun H3 z => ?_)
  have h3 := h2.z z
  have n3 := n2.kept z (Nat.zero_le _)
  have hw := hw.kept z (Or.inr (Nat.zero_le _))
  refine aw_b (pc' := 1668) (lv' := (7, .int y) :: (6, .int kx) :: lvL G i) (st' := [.int kx, .int (t' 0 6)]) [(1666, .iload 6, 2, .null)] (by decide +kernel) rfl ?_
  refine aw_ic_eq (off := 5) 1673 (by decide) (by decide +kernel) (fun _ => ?_) (fun hne => absurd e6 hne)
  refine aw_b (pc' := 1675) (lv' := (7, .int y) :: (6, .int kx) :: lvL G i) (st' := [.int kx]) [(1673, .iload 6, 2, .null)] (by decide +kernel) rfl ?_
  have fin : aw E mL_law Q 1690 ((7, .int y) :: (6, .int kx) :: lvL G i) [] H3 (k + 1) (n + 6) := by
    refine aw_b (pc' := 3097) (lv' := (7, .int y) :: (6, .int kx) :: lvL G i) (st' := []) [(1690, .goto 1407, 3, .null)] (by decide +kernel) rfl ?_
    refine aw_lv (lv' := lvL G i) [2, 3, 4, 5, 6, 7] rfl ?_
    exact aw_widen (by omega) (by omega) (kk H3 s' t' f' h3 n3 hF)
  refine aw_if_ne (off := 15) 1690 (by decide) (by decide +kernel) (fun _ => fin) (fun h0 => ?_)
  obtain ⟨e, q1, f0, rfl, q2⟩ := hw h0
  refine aw_b (pc' := 1680) (lv' := (7, .int y) :: (6, .int kx) :: lvL G i) (st' := [.int (nI 0), .ref (lO G)]) [(1678, .aload_n 3, 1, .null), (1679, .iconst 0, 1, .int (nI 0))] (by decide +kernel) rfl ?_
  refine aw_lald q1 (ib_in (by decide)) (by decide +kernel) ?_
  refine aw_b (pc' := 1685) (lv' := (7, .int y) :: (6, .int kx) :: lvL G i) (st' := [.int (lg_cmp (f0 (Int32.toNatClampNeg (nI 0))) ((y).toInt64))]) [(1681, .iload 7, 2, .null), (1683, .i2l, 1, .null), (1684, .lcmp, 1, .null)] (by decide +kernel) rfl ?_
  refine aw_if_eq (off := 5) 1690 (by decide) (by decide +kernel) (fun _ => fin) (fun hne => absurd ?_ hne)
  rw [lg_cmp_eq]
  exact q2
theorem lw_s_cost : Cond.static mL_cost.1 ∈ uw_ := (uw_mem 1202 (by decide +kernel) (by decide +kernel))
theorem lw_n_cost : nok_ mL_cost 4 := by decide +kernel
theorem lw_l253 : Cond.methodLink RL 253 yL_cost ∈ uw_ := (uw_mem 1201 (by decide +kernel) (by decide +kernel))
theorem lw_l255 : Cond.methodLink RL 255 yX8_cost ∈ uw_ := (uw_mem 1825 (by decide +kernel) (by decide +kernel))
set_option maxHeartbeats 4000000 in
theorem lc_29 {E : ev_} {G : lx_} {H : Heap} {s t : st_} {f : Nat → Option Nat} {i k n : Nat} {Q : po_} (hX : exo_ E) (hg : ge_ E G) (hb : LB_ E G H s t f) (hi : i + 4 ≤ lL G) (hc : CL_ E G H mX7_cost [.ref (lA G), .int (pq_ G i 1), .int (pq_ G i 2)] vi_ g1i_ t (fX8_cost t ((pq_ G i 1)) ((pq_ G i 2))) (fun _ => True)) (hk : k + 80 ≤ 601024) (hn : n + 9000 ≤ 7293033) (kk : LN_ E G Q i (k + 80) (n + 9000)) : aw E mL_law Q 1693 (lvL G i) [] H k n := by
  obtain ⟨s', v, t', y, PP, hs, eB, hoa, hF, hZ, hP⟩ := hc
  have hfB : ev_fr E (lB G) := Nat.le_trans hg.1 (by have := hg.2.1; omega)
  have hfO : ev_fr E (lO G) := Nat.le_trans hg.1 (by have := hg; unfold ge_ at this; omega)
  refine aw_b (pc' := 1699) (lv' := lvL G i) (st' := [.int (nI i + nI 1), .ref (lb G), .ref (lA G)]) [(1693, .aload_n 1, 1, .null), (1694, .aload_n 0, 1, .null), (1695, .iload 5, 2, .null), (1697, .iconst 1, 1, .int (nI 1)), (1698, .iadd, 1, .null)] (by decide +kernel) rfl ?_
  refine aw_sld hb.1 (ib_in (sc_j hi hg.2.2.2.2.2 (by decide))) (by decide +kernel) ?_
  refine aw_b (pc' := 1705) (lv' := lvL G i) (st' := [.int (nI i + nI 2), .ref (lb G), .int (pq_ G i 1), .ref (lA G)]) [(1700, .aload_n 0, 1, .null), (1701, .iload 5, 2, .null), (1703, .iconst 2, 1, .int (nI 2)), (1704, .iadd, 1, .null)] (by decide +kernel) rfl ?_
  refine aw_sld hb.1 (ib_in (sc_j hi hg.2.2.2.2.2 (by decide))) (by decide +kernel) ?_
  refine aw_b (pc' := 1707) (lv' := lvL G i) (st' := [.ref (lO G), .int (pq_ G i 2), .int (pq_ G i 1), .ref (lA G)]) [(1706, .aload_n 3, 1, .null)] (by decide +kernel) rfl ?_
  refine aw_csw (rest := []) (u := 1) (u6 := 6) (wL_cost hX hs (hA_ hb) hfO (fun H1 q => by obtain ⟨f', q1, -⟩ := hP H1 q; exact q1.2.2.2.2.1) (fun c e => by subst e; exact hoa.2)) rfl ckL_cost inL_ nmL_ lw_s_cost lw_l253 lw_n_cost rfl (by decide +kernel) rfl rfl rfl (Nat.le_of_ble_eq_true rfl) (by show _ ≤ 601024; omega) (by show _ ≤ 7293033; omega) (by decide +kernel) wq_r (fun r H1 _ hq => ?_)
  obtain ⟨kx, f', rfl, h1, n1, e6, hw⟩ := wq0 out_lo hg hoa hP hq
  show aw E mL_law Q 1710 (lvL G i) [.int kx] H1 (k + 1) (n + 6)
  refine aw_b (pc' := 1718) (lv' := (6, .int kx) :: lvL G i) (st' := [.int (nI i + nI 1), .ref (lb G), .ref (lB G)]) [(1710, .istore 6, 2, .null), (1712, .aload_n 2, 1, .null), (1713, .aload_n 0, 1, .null), (1714, .iload 5, 2, .null), (1716, .iconst 1, 1, .int (nI 1)), (1717, .iadd, 1, .null)] (by decide +kernel) rfl ?_
  refine aw_sld h1.1 (ib_in (sc_j hi hg.2.2.2.2.2 (by decide))) (by decide +kernel) ?_
  refine aw_b (pc' := 1724) (lv' := (6, .int kx) :: lvL G i) (st' := [.int (nI i + nI 2), .ref (lb G), .int (pq_ G i 1), .ref (lB G)]) [(1719, .aload_n 0, 1, .null), (1720, .iload 5, 2, .null), (1722, .iconst 2, 1, .int (nI 2)), (1723, .iadd, 1, .null)] (by decide +kernel) rfl ?_
  refine aw_sld h1.1 (ib_in (sc_j hi hg.2.2.2.2.2 (by decide))) (by decide +kernel) ?_
  refine aw_cv (rest := []) (st1 := [.int y]) (lB G) 0 (kX8_cost eB h1.2.2.2.1 hfB) rfl rfl ckX8_cost lw_l255 h1.2.2.2.1 eo_O_0 ⟨_, _, rfl⟩ nkX8_cost rfl (by decide +kernel) rfl (Nat.le_of_ble_eq_true rfl) (by show _ ≤ 601024; omega) (by show _ ≤ 7293033; omega) (by decide +kernel) (fun H2 z => ?_)
  obtain ⟨z, hn2⟩ := z
  have h2 := h1.mod hg z hn2
  have n2 := n1.kept z (by have := hg; unfold ge_ at this; omega)
  have hw := hw.kept z (Or.inr (by have := hg; unfold ge_ at this; omega))
  refine aw_b (pc' := 1731) (lv' := (7, .int y) :: (6, .int kx) :: lvL G i) (st' := [.ref (lB G)]) [(1728, .istore 7, 2, .null), (1730, .aload_n 2, 1, .null)] (by decide +kernel) rfl ?_
  refine aw_cv (rest := []) (st1 := [.int (t' 0 6)]) (lB G) 0 (kX8_thrown rfl h2.2.2.2.1) rfl rfl ckX8_thrown lw_l167 h2.2.2.2.1 eo_O_0 ⟨_, _, rfl⟩ nkX8_thrown rfl (by decide +kernel) rfl (Nat.le_of_ble_eq_true rfl) (by show _ ≤ 601024; omega) (by show _ ≤ 7293033; omega) (by decide +kernel) (fun H3 z => ?_)
  have h3 := h2.z z
  have n3 := n2.kept z (Nat.zero_le _)
  have hw := hw.kept z (Or.inr (Nat.zero_le _))
  refine aw_b (pc' := 1736) (lv' := (7, .int y) :: (6, .int kx) :: lvL G i) (st' := [.int kx, .int (t' 0 6)]) [(1734, .iload 6, 2, .null)] (by decide +kernel) rfl ?_
  refine aw_ic_eq (off := 5) 1741 (by decide) (by decide +kernel) (fun _ => ?_) (fun hne => absurd e6 hne)
  refine aw_b (pc' := 1743) (lv' := (7, .int y) :: (6, .int kx) :: lvL G i) (st' := [.int kx]) [(1741, .iload 6, 2, .null)] (by decide +kernel) rfl ?_
  have fin : aw E mL_law Q 1758 ((7, .int y) :: (6, .int kx) :: lvL G i) [] H3 (k + 1) (n + 6) := by
    refine aw_b (pc' := 3097) (lv' := (7, .int y) :: (6, .int kx) :: lvL G i) (st' := []) [(1758, .goto 1339, 3, .null)] (by decide +kernel) rfl ?_
    refine aw_lv (lv' := lvL G i) [2, 3, 4, 5, 6, 7] rfl ?_
    exact aw_widen (by omega) (by omega) (kk H3 s' t' f' h3 n3 hF)
  refine aw_if_ne (off := 15) 1758 (by decide) (by decide +kernel) (fun _ => fin) (fun h0 => ?_)
  obtain ⟨e, q1, f0, rfl, q2⟩ := hw h0
  refine aw_b (pc' := 1748) (lv' := (7, .int y) :: (6, .int kx) :: lvL G i) (st' := [.int (nI 0), .ref (lO G)]) [(1746, .aload_n 3, 1, .null), (1747, .iconst 0, 1, .int (nI 0))] (by decide +kernel) rfl ?_
  refine aw_lald q1 (ib_in (by decide)) (by decide +kernel) ?_
  refine aw_b (pc' := 1753) (lv' := (7, .int y) :: (6, .int kx) :: lvL G i) (st' := [.int (lg_cmp (f0 (Int32.toNatClampNeg (nI 0))) ((y).toInt64))]) [(1749, .iload 7, 2, .null), (1751, .i2l, 1, .null), (1752, .lcmp, 1, .null)] (by decide +kernel) rfl ?_
  refine aw_if_eq (off := 5) 1758 (by decide) (by decide +kernel) (fun _ => fin) (fun hne => absurd ?_ hne)
  rw [lg_cmp_eq]
  exact q2
theorem lw_l256 : Cond.methodLink RL 256 yX7_taken ∈ uw_ := (uw_mem 759 (by decide +kernel) (by decide +kernel))
theorem lw_l259 : Cond.methodLink RL 259 yX8_taken ∈ uw_ := (uw_mem 1837 (by decide +kernel) (by decide +kernel))
set_option maxHeartbeats 4000000 in
theorem lc_30 {E : ev_} {G : lx_} {H : Heap} {s t : st_} {f : Nat → Option Nat} {i k n : Nat} {Q : po_} (hg : ge_ E G) (hb : LB_ E G H s t f) (hs0 : SN_ E H (lP G + 1) f t) (hi : i + 4 ≤ lL G) (hc : CV_ E H (lA G) mX7_taken [.ref (lA G), .int (pq_ G i 1)] t (fX8_taken t (pq_ G i 1))) (hk : k + 80 ≤ 601024) (hn : n + 9000 ≤ 7293033) (kk : LN_ E G Q i (k + 80) (n + 9000)) : aw E mL_law Q 1761 (lvL G i) [] H k n := by
  obtain ⟨s', v, t', hs, eB, hF, he⟩ := hc
  have hfB : ev_fr E (lB G) := Nat.le_trans hg.1 (by have := hg.2.1; omega)
  refine aw_b (pc' := 1767) (lv' := lvL G i) (st' := [.int (nI i + nI 1), .ref (lb G), .ref (lA G)]) [(1761, .aload_n 1, 1, .null), (1762, .aload_n 0, 1, .null), (1763, .iload 5, 2, .null), (1765, .iconst 1, 1, .int (nI 1)), (1766, .iadd, 1, .null)] (by decide +kernel) rfl ?_
  refine aw_sld hb.1 (ib_in (sc_j hi hg.2.2.2.2.2 (by decide))) (by decide +kernel) ?_
  refine aw_cv (rest := []) (st1 := [.int v]) (lA G) 0 hs rfl rfl ckX7_taken lw_l256 hb.2.1 eo_M_0 ⟨_, _, rfl⟩ nkX7_taken rfl (by decide +kernel) rfl (Nat.le_of_ble_eq_true rfl) (by show _ ≤ 601024; omega) (by show _ ≤ 7293033; omega) (by decide +kernel) (fun H1 z => ?_)
  have h1 := hb.cls hg z.1 z.2
  have n1 := (hs0.kept z.1 (by have := hg; unfold ge_ at this; omega)).md he
  refine aw_b (pc' := 1777) (lv' := lvL G i) (st' := [.int (nI i + nI 1), .ref (lb G), .ref (lB G), .int v]) [(1771, .aload_n 2, 1, .null), (1772, .aload_n 0, 1, .null), (1773, .iload 5, 2, .null), (1775, .iconst 1, 1, .int (nI 1)), (1776, .iadd, 1, .null)] (by decide +kernel) rfl ?_
  refine aw_sld h1.1 (ib_in (sc_j hi hg.2.2.2.2.2 (by decide))) (by decide +kernel) ?_
  refine aw_cv (rest := [.int v]) (st1 := [.int v, .int v]) (lB G) 0 (kX8_taken eB h1.2.2.2.1 hfB) rfl rfl ckX8_taken lw_l259 h1.2.2.2.1 eo_O_0 ⟨_, _, rfl⟩ nkX8_taken rfl (by decide +kernel) rfl (Nat.le_of_ble_eq_true rfl) (by show _ ≤ 601024; omega) (by show _ ≤ 7293033; omega) (by decide +kernel) (fun H2 z => ?_)
  obtain ⟨z, hn2⟩ := z
  have h2 := h1.mod hg z hn2
  have n2 := n1.kept z (by have := hg; unfold ge_ at this; omega)
  refine aw_ic_eq (off := 1316) 3097 (by decide) (by decide +kernel) (fun _ => ?_) (fun hne => absurd rfl hne)
  exact aw_widen (by omega) (by omega) (kk H2 s' t' f h2 n2 hF)
theorem lw_s_bestPair : Cond.static mL_bestPair.1 ∈ uw_ := (uw_mem 1213 (by decide +kernel) (by decide +kernel))
theorem lw_n_bestPair : nok_ mL_bestPair 3 := by decide +kernel
theorem lw_l260 : Cond.methodLink RL 260 yL_bestPair ∈ uw_ := (uw_mem 1212 (by decide +kernel) (by decide +kernel))
theorem lw_l262 : Cond.methodLink RL 262 yX8_bestPair ∈ uw_ := (uw_mem 1841 (by decide +kernel) (by decide +kernel))
set_option maxHeartbeats 4000000 in
theorem lc_31 {E : ev_} {G : lx_} {H : Heap} {s t : st_} {f : Nat → Option Nat} {i k n : Nat} {Q : po_} (hX : exo_ E) (hg : ge_ E G) (hb : LB_ E G H s t f) (hi : i + 4 ≤ lL G) (hc : CL_ E G H mX7_bestPair [.ref (lA G), .int (pq_ G i 1)] vi_ g1_ t (fX8_bestPair t ((pq_ G i 1))) (fun _ => True)) (hk : k + 80 ≤ 601024) (hn : n + 9000 ≤ 7293033) (kk : LN_ E G Q i (k + 80) (n + 9000)) : aw E mL_law Q 1786 (lvL G i) [] H k n := by
  obtain ⟨s', v, t', y, PP, hs, eB, hoa, hF, hZ, hP⟩ := hc
  have hfB : ev_fr E (lB G) := Nat.le_trans hg.1 (by have := hg.2.1; omega)
  have hfO : ev_fr E (lO G) := Nat.le_trans hg.1 (by have := hg; unfold ge_ at this; omega)
  refine aw_b (pc' := 1792) (lv' := lvL G i) (st' := [.int (nI i + nI 1), .ref (lb G), .ref (lA G)]) [(1786, .aload_n 1, 1, .null), (1787, .aload_n 0, 1, .null), (1788, .iload 5, 2, .null), (1790, .iconst 1, 1, .int (nI 1)), (1791, .iadd, 1, .null)] (by decide +kernel) rfl ?_
  refine aw_sld hb.1 (ib_in (sc_j hi hg.2.2.2.2.2 (by decide))) (by decide +kernel) ?_
  refine aw_b (pc' := 1794) (lv' := lvL G i) (st' := [.ref (lO G), .int (pq_ G i 1), .ref (lA G)]) [(1793, .aload_n 3, 1, .null)] (by decide +kernel) rfl ?_
  refine aw_csw (rest := []) (u := 1) (u6 := 6) (wL_bestPair hX hs (hA_ hb) hfO (fun H1 q => by obtain ⟨f', q1, -⟩ := hP H1 q; exact q1.2.2.2.2.1) (fun c e => by subst e; exact hoa.2)) rfl ckL_bestPair inL_ nmL_ lw_s_bestPair lw_l260 lw_n_bestPair rfl (by decide +kernel) rfl rfl rfl (Nat.le_of_ble_eq_true rfl) (by show _ ≤ 601024; omega) (by show _ ≤ 7293033; omega) (by decide +kernel) wq_r (fun r H1 _ hq => ?_)
  obtain ⟨kx, f', rfl, h1, n1, e6, hw⟩ := wq0 out_lo hg hoa hP hq
  show aw E mL_law Q 1797 (lvL G i) [.int kx] H1 (k + 1) (n + 6)
  refine aw_b (pc' := 1805) (lv' := (6, .int kx) :: lvL G i) (st' := [.int (nI i + nI 1), .ref (lb G), .ref (lB G)]) [(1797, .istore 6, 2, .null), (1799, .aload_n 2, 1, .null), (1800, .aload_n 0, 1, .null), (1801, .iload 5, 2, .null), (1803, .iconst 1, 1, .int (nI 1)), (1804, .iadd, 1, .null)] (by decide +kernel) rfl ?_
  refine aw_sld h1.1 (ib_in (sc_j hi hg.2.2.2.2.2 (by decide))) (by decide +kernel) ?_
  refine aw_cv (rest := []) (st1 := [.int y]) (lB G) 0 (kX8_bestPair eB h1.2.2.2.1 hfB) rfl rfl ckX8_bestPair lw_l262 h1.2.2.2.1 eo_O_0 ⟨_, _, rfl⟩ nkX8_bestPair rfl (by decide +kernel) rfl (Nat.le_of_ble_eq_true rfl) (by show _ ≤ 601024; omega) (by show _ ≤ 7293033; omega) (by decide +kernel) (fun H2 z => ?_)
  obtain ⟨z, hn2⟩ := z
  have h2 := h1.mod hg z hn2
  have n2 := n1.kept z (by have := hg; unfold ge_ at this; omega)
  have hw := hw.kept z (Or.inr (by have := hg; unfold ge_ at this; omega))
  refine aw_b (pc' := 1812) (lv' := (7, .int y) :: (6, .int kx) :: lvL G i) (st' := [.ref (lB G)]) [(1809, .istore 7, 2, .null), (1811, .aload_n 2, 1, .null)] (by decide +kernel) rfl ?_
  refine aw_cv (rest := []) (st1 := [.int (t' 0 6)]) (lB G) 0 (kX8_thrown rfl h2.2.2.2.1) rfl rfl ckX8_thrown lw_l167 h2.2.2.2.1 eo_O_0 ⟨_, _, rfl⟩ nkX8_thrown rfl (by decide +kernel) rfl (Nat.le_of_ble_eq_true rfl) (by show _ ≤ 601024; omega) (by show _ ≤ 7293033; omega) (by decide +kernel) (fun H3 z => ?_)
  have h3 := h2.z z
  have n3 := n2.kept z (Nat.zero_le _)
  have hw := hw.kept z (Or.inr (Nat.zero_le _))
  refine aw_b (pc' := 1817) (lv' := (7, .int y) :: (6, .int kx) :: lvL G i) (st' := [.int kx, .int (t' 0 6)]) [(1815, .iload 6, 2, .null)] (by decide +kernel) rfl ?_
  refine aw_ic_eq (off := 5) 1822 (by decide) (by decide +kernel) (fun _ => ?_) (fun hne => absurd e6 hne)
  refine aw_b (pc' := 1824) (lv' := (7, .int y) :: (6, .int kx) :: lvL G i) (st' := [.int kx]) [(1822, .iload 6, 2, .null)] (by decide +kernel) rfl ?_
  have fin : aw E mL_law Q 1839 ((7, .int y) :: (6, .int kx) :: lvL G i) [] H3 (k + 1) (n + 6) := by
    refine aw_b (pc' := 3097) (lv' := (7, .int y) :: (6, .int kx) :: lvL G i) (st' := []) [(1839, .goto 1258, 3, .null)] (by decide +kernel) rfl ?_
    refine aw_lv (lv' := lvL G i) [2, 3, 4, 5, 6, 7] rfl ?_
    exact aw_widen (by omega) (by omega) (kk H3 s' t' f' h3 n3 hF)
  refine aw_if_ne (off := 15) 1839 (by decide) (by decide +kernel) (fun _ => fin) (fun h0 => ?_)
  obtain ⟨e, q1, f0, rfl, q2⟩ := hw h0
  refine aw_b (pc' := 1829) (lv' := (7, .int y) :: (6, .int kx) :: lvL G i) (st' := [.int (nI 0), .ref (lO G)]) [(1827, .aload_n 3, 1, .null), (1828, .iconst 0, 1, .int (nI 0))] (by decide +kernel) rfl ?_
  refine aw_lald q1 (ib_in (by decide)) (by decide +kernel) ?_
  refine aw_b (pc' := 1834) (lv' := (7, .int y) :: (6, .int kx) :: lvL G i) (st' := [.int (lg_cmp (f0 (Int32.toNatClampNeg (nI 0))) ((y).toInt64))]) [(1830, .iload 7, 2, .null), (1832, .i2l, 1, .null), (1833, .lcmp, 1, .null)] (by decide +kernel) rfl ?_
  refine aw_if_eq (off := 5) 1839 (by decide) (by decide +kernel) (fun _ => fin) (fun hne => absurd ?_ hne)
  rw [lg_cmp_eq]
  exact q2
theorem lw_s_cheaper : Cond.static mL_cheaper.1 ∈ uw_ := (uw_mem 1235 (by decide +kernel) (by decide +kernel))
theorem lw_n_cheaper : nok_ mL_cheaper 4 := by decide +kernel
theorem lw_l263 : Cond.methodLink RL 263 yL_cheaper ∈ uw_ := (uw_mem 1234 (by decide +kernel) (by decide +kernel))
theorem lw_l265 : Cond.methodLink RL 265 yX8_cheaper ∈ uw_ := (uw_mem 1850 (by decide +kernel) (by decide +kernel))
set_option maxHeartbeats 4000000 in
theorem lc_32 {E : ev_} {G : lx_} {H : Heap} {s t : st_} {f : Nat → Option Nat} {i k n : Nat} {Q : po_} (hX : exo_ E) (hg : ge_ E G) (hb : LB_ E G H s t f) (hi : i + 4 ≤ lL G) (hc : CL_ E G H mX7_cheaper [.ref (lA G), .int (pq_ G i 1), .int (pq_ G i 2)] vi_ g1i_ t (fX8_cheaper t ((pq_ G i 1)) ((pq_ G i 2))) (fun _ => True)) (hk : k + 80 ≤ 601024) (hn : n + 9000 ≤ 7293033) (kk : LN_ E G Q i (k + 80) (n + 9000)) : aw E mL_law Q 1842 (lvL G i) [] H k n := by
  obtain ⟨s', v, t', y, PP, hs, eB, hoa, hF, hZ, hP⟩ := hc
  have hfB : ev_fr E (lB G) := Nat.le_trans hg.1 (by have := hg.2.1; omega)
  have hfO : ev_fr E (lO G) := Nat.le_trans hg.1 (by have := hg; unfold ge_ at this; omega)
  refine aw_b (pc' := 1848) (lv' := lvL G i) (st' := [.int (nI i + nI 1), .ref (lb G), .ref (lA G)]) [(1842, .aload_n 1, 1, .null), (1843, .aload_n 0, 1, .null), (1844, .iload 5, 2, .null), (1846, .iconst 1, 1, .int (nI 1)), (1847, .iadd, 1, .null)] (by decide +kernel) rfl ?_
  refine aw_sld hb.1 (ib_in (sc_j hi hg.2.2.2.2.2 (by decide))) (by decide +kernel) ?_
  refine aw_b (pc' := 1854) (lv' := lvL G i) (st' := [.int (nI i + nI 2), .ref (lb G), .int (pq_ G i 1), .ref (lA G)]) [(1849, .aload_n 0, 1, .null), (1850, .iload 5, 2, .null), (1852, .iconst 2, 1, .int (nI 2)), (1853, .iadd, 1, .null)] (by decide +kernel) rfl ?_
  refine aw_sld hb.1 (ib_in (sc_j hi hg.2.2.2.2.2 (by decide))) (by decide +kernel) ?_
  refine aw_b (pc' := 1856) (lv' := lvL G i) (st' := [.ref (lO G), .int (pq_ G i 2), .int (pq_ G i 1), .ref (lA G)]) [(1855, .aload_n 3, 1, .null)] (by decide +kernel) rfl ?_
  refine aw_csw (rest := []) (u := 2) (u6 := 12) (wL_cheaper hX hs (hA_ hb) hfO (fun H1 q => by obtain ⟨f', q1, -⟩ := hP H1 q; exact q1.2.2.2.2.1) (fun c e => by subst e; exact hoa.2)) rfl ckL_cheaper inL_ nmL_ lw_s_cheaper lw_l263 lw_n_cheaper rfl (by decide +kernel) rfl rfl rfl (Nat.le_of_ble_eq_true rfl) (by show _ ≤ 601024; omega) (by show _ ≤ 7293033; omega) (by decide +kernel) wq_r (fun r H1 _ hq => ?_)
  obtain ⟨kx, f', rfl, h1, n1, e6, hw⟩ := wq0 out_lo hg hoa hP hq
  show aw E mL_law Q 1859 (lvL G i) [.int kx] H1 (k + 2) (n + 12)
  refine aw_b (pc' := 1867) (lv' := (6, .int kx) :: lvL G i) (st' := [.int (nI i + nI 1), .ref (lb G), .ref (lB G)]) [(1859, .istore 6, 2, .null), (1861, .aload_n 2, 1, .null), (1862, .aload_n 0, 1, .null), (1863, .iload 5, 2, .null), (1865, .iconst 1, 1, .int (nI 1)), (1866, .iadd, 1, .null)] (by decide +kernel) rfl ?_
  refine aw_sld h1.1 (ib_in (sc_j hi hg.2.2.2.2.2 (by decide))) (by decide +kernel) ?_
  refine aw_b (pc' := 1873) (lv' := (6, .int kx) :: lvL G i) (st' := [.int (nI i + nI 2), .ref (lb G), .int (pq_ G i 1), .ref (lB G)]) [(1868, .aload_n 0, 1, .null), (1869, .iload 5, 2, .null), (1871, .iconst 2, 1, .int (nI 2)), (1872, .iadd, 1, .null)] (by decide +kernel) rfl ?_
  refine aw_sld h1.1 (ib_in (sc_j hi hg.2.2.2.2.2 (by decide))) (by decide +kernel) ?_
  refine aw_cv (rest := []) (st1 := [.int y]) (lB G) 0 (kX8_cheaper eB h1.2.2.2.1 hfB) rfl rfl ckX8_cheaper lw_l265 h1.2.2.2.1 eo_O_0 ⟨_, _, rfl⟩ nkX8_cheaper rfl (by decide +kernel) rfl (Nat.le_of_ble_eq_true rfl) (by show _ ≤ 601024; omega) (by show _ ≤ 7293033; omega) (by decide +kernel) (fun H2 z => ?_)
  obtain ⟨z, hn2⟩ := z
  have h2 := h1.mod hg z hn2
  have n2 := n1.kept z (by have := hg; unfold ge_ at this; omega)
  have hw := hw.kept z (Or.inr (by have := hg; unfold ge_ at this; omega))
  refine aw_b (pc' := 1880) (lv' := (7, .int y) :: (6, .int kx) :: lvL G i) (st' := [.ref (lB G)]) [(1877, .istore 7, 2, .null), (1879, .aload_n 2, 1, .null)] (by decide +kernel) rfl ?_
  refine aw_cv (rest := []) (st1 := [.int (t' 0 6)]) (lB G) 0 (kX8_thrown rfl h2.2.2.2.1) rfl rfl ckX8_thrown lw_l167 h2.2.2.2.1 eo_O_0 ⟨_, _, rfl⟩ nkX8_thrown rfl (by decide +kernel) rfl (Nat.le_of_ble_eq_true rfl) (by show _ ≤ 601024; omega) (by show _ ≤ 7293033; omega) (by decide +kernel) (fun H3 z => ?_)
  have h3 := h2.z z
  have n3 := n2.kept z (Nat.zero_le _)
  have hw := hw.kept z (Or.inr (Nat.zero_le _))
  refine aw_b (pc' := 1885) (lv' := (7, .int y) :: (6, .int kx) :: lvL G i) (st' := [.int kx, .int (t' 0 6)]) [(1883, .iload 6, 2, .null)] (by decide +kernel) rfl ?_
  refine aw_ic_eq (off := 5) 1890 (by decide) (by decide +kernel) (fun _ => ?_) (fun hne => absurd e6 hne)
  refine aw_b (pc' := 1892) (lv' := (7, .int y) :: (6, .int kx) :: lvL G i) (st' := [.int kx]) [(1890, .iload 6, 2, .null)] (by decide +kernel) rfl ?_
  have fin : aw E mL_law Q 1907 ((7, .int y) :: (6, .int kx) :: lvL G i) [] H3 (k + 2) (n + 12) := by
    refine aw_b (pc' := 3097) (lv' := (7, .int y) :: (6, .int kx) :: lvL G i) (st' := []) [(1907, .goto 1190, 3, .null)] (by decide +kernel) rfl ?_
    refine aw_lv (lv' := lvL G i) [2, 3, 4, 5, 6, 7] rfl ?_
    exact aw_widen (by omega) (by omega) (kk H3 s' t' f' h3 n3 hF)
  refine aw_if_ne (off := 15) 1907 (by decide) (by decide +kernel) (fun _ => fin) (fun h0 => ?_)
  obtain ⟨e, q1, f0, rfl, q2⟩ := hw h0
  refine aw_b (pc' := 1897) (lv' := (7, .int y) :: (6, .int kx) :: lvL G i) (st' := [.int (nI 0), .ref (lO G)]) [(1895, .aload_n 3, 1, .null), (1896, .iconst 0, 1, .int (nI 0))] (by decide +kernel) rfl ?_
  refine aw_lald q1 (ib_in (by decide)) (by decide +kernel) ?_
  refine aw_b (pc' := 1902) (lv' := (7, .int y) :: (6, .int kx) :: lvL G i) (st' := [.int (lg_cmp (f0 (Int32.toNatClampNeg (nI 0))) ((y).toInt64))]) [(1898, .iload 7, 2, .null), (1900, .i2l, 1, .null), (1901, .lcmp, 1, .null)] (by decide +kernel) rfl ?_
  refine aw_if_eq (off := 5) 1907 (by decide) (by decide +kernel) (fun _ => fin) (fun hne => absurd ?_ hne)
  rw [lg_cmp_eq]
  exact q2
theorem lw_s_leads : Cond.static mL_leads.1 ∈ uw_ := (uw_mem 1242 (by decide +kernel) (by decide +kernel))
theorem lw_n_leads : nok_ mL_leads 3 := by decide +kernel
theorem lw_l266 : Cond.methodLink RL 266 yL_leads ∈ uw_ := (uw_mem 1241 (by decide +kernel) (by decide +kernel))
theorem lw_l268 : Cond.methodLink RL 268 yX8_leads ∈ uw_ := (uw_mem 1854 (by decide +kernel) (by decide +kernel))
set_option maxHeartbeats 4000000 in
theorem lc_33 {E : ev_} {G : lx_} {H : Heap} {s t : st_} {f : Nat → Option Nat} {i k n : Nat} {Q : po_} (hX : exo_ E) (hg : ge_ E G) (hb : LB_ E G H s t f) (hi : i + 4 ≤ lL G) (hc : CL_ E G H mX7_leads [.ref (lA G), .int (pq_ G i 1)] vi_ g1i_ t (fX8_leads t ((pq_ G i 1))) (fun _ => True)) (hk : k + 80 ≤ 601024) (hn : n + 9000 ≤ 7293033) (kk : LN_ E G Q i (k + 80) (n + 9000)) : aw E mL_law Q 1910 (lvL G i) [] H k n := by
  obtain ⟨s', v, t', y, PP, hs, eB, hoa, hF, hZ, hP⟩ := hc
  have hfB : ev_fr E (lB G) := Nat.le_trans hg.1 (by have := hg.2.1; omega)
  have hfO : ev_fr E (lO G) := Nat.le_trans hg.1 (by have := hg; unfold ge_ at this; omega)
  refine aw_b (pc' := 1916) (lv' := lvL G i) (st' := [.int (nI i + nI 1), .ref (lb G), .ref (lA G)]) [(1910, .aload_n 1, 1, .null), (1911, .aload_n 0, 1, .null), (1912, .iload 5, 2, .null), (1914, .iconst 1, 1, .int (nI 1)), (1915, .iadd, 1, .null)] (by decide +kernel) rfl ?_
  refine aw_sld hb.1 (ib_in (sc_j hi hg.2.2.2.2.2 (by decide))) (by decide +kernel) ?_
  refine aw_b (pc' := 1918) (lv' := lvL G i) (st' := [.ref (lO G), .int (pq_ G i 1), .ref (lA G)]) [(1917, .aload_n 3, 1, .null)] (by decide +kernel) rfl ?_
  refine aw_csw (rest := []) (u := 1) (u6 := 6) (wL_leads hX hs (hA_ hb) hfO (fun H1 q => by obtain ⟨f', q1, -⟩ := hP H1 q; exact q1.2.2.2.2.1) (fun c e => by subst e; exact hoa.2)) rfl ckL_leads inL_ nmL_ lw_s_leads lw_l266 lw_n_leads rfl (by decide +kernel) rfl rfl rfl (Nat.le_of_ble_eq_true rfl) (by show _ ≤ 601024; omega) (by show _ ≤ 7293033; omega) (by decide +kernel) wq_r (fun r H1 _ hq => ?_)
  obtain ⟨kx, f', rfl, h1, n1, e6, hw⟩ := wq0 out_lo hg hoa hP hq
  show aw E mL_law Q 1921 (lvL G i) [.int kx] H1 (k + 1) (n + 6)
  refine aw_b (pc' := 1929) (lv' := (6, .int kx) :: lvL G i) (st' := [.int (nI i + nI 1), .ref (lb G), .ref (lB G)]) [(1921, .istore 6, 2, .null), (1923, .aload_n 2, 1, .null), (1924, .aload_n 0, 1, .null), (1925, .iload 5, 2, .null), (1927, .iconst 1, 1, .int (nI 1)), (1928, .iadd, 1, .null)] (by decide +kernel) rfl ?_
  refine aw_sld h1.1 (ib_in (sc_j hi hg.2.2.2.2.2 (by decide))) (by decide +kernel) ?_
  refine aw_cv (rest := []) (st1 := [.int y]) (lB G) 0 (kX8_leads eB h1.2.2.2.1 hfB) rfl rfl ckX8_leads lw_l268 h1.2.2.2.1 eo_O_0 ⟨_, _, rfl⟩ nkX8_leads rfl (by decide +kernel) rfl (Nat.le_of_ble_eq_true rfl) (by show _ ≤ 601024; omega) (by show _ ≤ 7293033; omega) (by decide +kernel) (fun H2 z => ?_)
  obtain ⟨z, hn2⟩ := z
  have h2 := h1.mod hg z hn2
  have n2 := n1.kept z (by have := hg; unfold ge_ at this; omega)
  have hw := hw.kept z (Or.inr (by have := hg; unfold ge_ at this; omega))
  refine aw_b (pc' := 1936) (lv' := (7, .int y) :: (6, .int kx) :: lvL G i) (st' := [.ref (lB G)]) [(1933, .istore 7, 2, .null), (1935, .aload_n 2, 1, .null)] (by decide +kernel) rfl ?_
  refine aw_cv (rest := []) (st1 := [.int (t' 0 6)]) (lB G) 0 (kX8_thrown rfl h2.2.2.2.1) rfl rfl ckX8_thrown lw_l167 h2.2.2.2.1 eo_O_0 ⟨_, _, rfl⟩ nkX8_thrown rfl (by decide +kernel) rfl (Nat.le_of_ble_eq_true rfl) (by show _ ≤ 601024; omega) (by show _ ≤ 7293033; omega) (by decide +kernel) (fun H3 z => ?_)
  have h3 := h2.z z
  have n3 := n2.kept z (Nat.zero_le _)
  have hw := hw.kept z (Or.inr (Nat.zero_le _))
  refine aw_b (pc' := 1941) (lv' := (7, .int y) :: (6, .int kx) :: lvL G i) (st' := [.int kx, .int (t' 0 6)]) [(1939, .iload 6, 2, .null)] (by decide +kernel) rfl ?_
  refine aw_ic_eq (off := 5) 1946 (by decide) (by decide +kernel) (fun _ => ?_) (fun hne => absurd e6 hne)
  refine aw_b (pc' := 1948) (lv' := (7, .int y) :: (6, .int kx) :: lvL G i) (st' := [.int kx]) [(1946, .iload 6, 2, .null)] (by decide +kernel) rfl ?_
  have fin : aw E mL_law Q 1963 ((7, .int y) :: (6, .int kx) :: lvL G i) [] H3 (k + 1) (n + 6) := by
    refine aw_b (pc' := 3097) (lv' := (7, .int y) :: (6, .int kx) :: lvL G i) (st' := []) [(1963, .goto 1134, 3, .null)] (by decide +kernel) rfl ?_
    refine aw_lv (lv' := lvL G i) [2, 3, 4, 5, 6, 7] rfl ?_
    exact aw_widen (by omega) (by omega) (kk H3 s' t' f' h3 n3 hF)
  refine aw_if_ne (off := 15) 1963 (by decide) (by decide +kernel) (fun _ => fin) (fun h0 => ?_)
  obtain ⟨e, q1, f0, rfl, q2⟩ := hw h0
  refine aw_b (pc' := 1953) (lv' := (7, .int y) :: (6, .int kx) :: lvL G i) (st' := [.int (nI 0), .ref (lO G)]) [(1951, .aload_n 3, 1, .null), (1952, .iconst 0, 1, .int (nI 0))] (by decide +kernel) rfl ?_
  refine aw_lald q1 (ib_in (by decide)) (by decide +kernel) ?_
  refine aw_b (pc' := 1958) (lv' := (7, .int y) :: (6, .int kx) :: lvL G i) (st' := [.int (lg_cmp (f0 (Int32.toNatClampNeg (nI 0))) ((y).toInt64))]) [(1954, .iload 7, 2, .null), (1956, .i2l, 1, .null), (1957, .lcmp, 1, .null)] (by decide +kernel) rfl ?_
  refine aw_if_eq (off := 5) 1963 (by decide) (by decide +kernel) (fun _ => fin) (fun hne => absurd ?_ hne)
  rw [lg_cmp_eq]
  exact q2
theorem lw_l269 : Cond.methodLink RL 269 yX7_switches ∈ uw_ := (uw_mem 767 (by decide +kernel) (by decide +kernel))
theorem lw_l272 : Cond.methodLink RL 272 yX8_switches ∈ uw_ := (uw_mem 1858 (by decide +kernel) (by decide +kernel))
set_option maxHeartbeats 4000000 in
theorem lc_34 {E : ev_} {G : lx_} {H : Heap} {s t : st_} {f : Nat → Option Nat} {i k n : Nat} {Q : po_} (hg : ge_ E G) (hb : LB_ E G H s t f) (hs0 : SN_ E H (lP G + 1) f t) (hi : i + 4 ≤ lL G) (hc : CV_ E H (lA G) mX7_switches [.ref (lA G)] t (fX8_switches t)) (hk : k + 80 ≤ 601024) (hn : n + 9000 ≤ 7293033) (kk : LN_ E G Q i (k + 80) (n + 9000)) : aw E mL_law Q 1966 (lvL G i) [] H k n := by
  obtain ⟨s', v, t', hs, eB, hF, he⟩ := hc
  have hfB : ev_fr E (lB G) := Nat.le_trans hg.1 (by have := hg.2.1; omega)
  refine aw_b (pc' := 1967) (lv' := lvL G i) (st' := [.ref (lA G)]) [(1966, .aload_n 1, 1, .null)] (by decide +kernel) rfl ?_
  refine aw_cv (rest := []) (st1 := [.int v]) (lA G) 0 hs rfl rfl ckX7_switches lw_l269 hb.2.1 eo_M_0 ⟨_, _, rfl⟩ nkX7_switches rfl (by decide +kernel) rfl (Nat.le_of_ble_eq_true rfl) (by show _ ≤ 601024; omega) (by show _ ≤ 7293033; omega) (by decide +kernel) (fun H1 z => ?_)
  have h1 := hb.cls hg z.1 z.2
  have n1 := (hs0.kept z.1 (by have := hg; unfold ge_ at this; omega)).md he
  refine aw_b (pc' := 1971) (lv' := lvL G i) (st' := [.ref (lB G), .int v]) [(1970, .aload_n 2, 1, .null)] (by decide +kernel) rfl ?_
  refine aw_cv (rest := [.int v]) (st1 := [.int v, .int v]) (lB G) 0 (kX8_switches eB h1.2.2.2.1 hfB) rfl rfl ckX8_switches lw_l272 h1.2.2.2.1 eo_O_0 ⟨_, _, rfl⟩ nkX8_switches rfl (by decide +kernel) rfl (Nat.le_of_ble_eq_true rfl) (by show _ ≤ 601024; omega) (by show _ ≤ 7293033; omega) (by decide +kernel) (fun H2 z => ?_)
  obtain ⟨z, hn2⟩ := z
  have h2 := h1.mod hg z hn2
  have n2 := n1.kept z (by have := hg; unfold ge_ at this; omega)
  refine aw_ic_eq (off := 1123) 3097 (by decide) (by decide +kernel) (fun _ => ?_) (fun hne => absurd rfl hne)
  exact aw_widen (by omega) (by omega) (kk H2 s' t' f h2 n2 hF)
theorem lw_s_streak : Cond.static mL_streak.1 ∈ uw_ := (uw_mem 1249 (by decide +kernel) (by decide +kernel))
theorem lw_n_streak : nok_ mL_streak 3 := by decide +kernel
theorem lw_l273 : Cond.methodLink RL 273 yL_streak ∈ uw_ := (uw_mem 1248 (by decide +kernel) (by decide +kernel))
theorem lw_l275 : Cond.methodLink RL 275 yX8_streak ∈ uw_ := (uw_mem 1862 (by decide +kernel) (by decide +kernel))
set_option maxHeartbeats 4000000 in
theorem lc_35 {E : ev_} {G : lx_} {H : Heap} {s t : st_} {f : Nat → Option Nat} {i k n : Nat} {Q : po_} (hX : exo_ E) (hg : ge_ E G) (hb : LB_ E G H s t f) (hi : i + 4 ≤ lL G) (hc : CL_ E G H mX7_streak [.ref (lA G), .int (pq_ G i 1)] vi_ g1i_ t (fX8_streak t ((pq_ G i 1))) (fun _ => True)) (hk : k + 80 ≤ 601024) (hn : n + 9000 ≤ 7293033) (kk : LN_ E G Q i (k + 80) (n + 9000)) : aw E mL_law Q 1979 (lvL G i) [] H k n := by
  obtain ⟨s', v, t', y, PP, hs, eB, hoa, hF, hZ, hP⟩ := hc
  have hfB : ev_fr E (lB G) := Nat.le_trans hg.1 (by have := hg.2.1; omega)
  have hfO : ev_fr E (lO G) := Nat.le_trans hg.1 (by have := hg; unfold ge_ at this; omega)
  refine aw_b (pc' := 1985) (lv' := lvL G i) (st' := [.int (nI i + nI 1), .ref (lb G), .ref (lA G)]) [(1979, .aload_n 1, 1, .null), (1980, .aload_n 0, 1, .null), (1981, .iload 5, 2, .null), (1983, .iconst 1, 1, .int (nI 1)), (1984, .iadd, 1, .null)] (by decide +kernel) rfl ?_
  refine aw_sld hb.1 (ib_in (sc_j hi hg.2.2.2.2.2 (by decide))) (by decide +kernel) ?_
  refine aw_b (pc' := 1987) (lv' := lvL G i) (st' := [.ref (lO G), .int (pq_ G i 1), .ref (lA G)]) [(1986, .aload_n 3, 1, .null)] (by decide +kernel) rfl ?_
  refine aw_csw (rest := []) (u := 1) (u6 := 6) (wL_streak hX hs (hA_ hb) hfO (fun H1 q => by obtain ⟨f', q1, -⟩ := hP H1 q; exact q1.2.2.2.2.1) (fun c e => by subst e; exact hoa.2)) rfl ckL_streak inL_ nmL_ lw_s_streak lw_l273 lw_n_streak rfl (by decide +kernel) rfl rfl rfl (Nat.le_of_ble_eq_true rfl) (by show _ ≤ 601024; omega) (by show _ ≤ 7293033; omega) (by decide +kernel) wq_r (fun r H1 _ hq => ?_)
  obtain ⟨kx, f', rfl, h1, n1, e6, hw⟩ := wq0 out_lo hg hoa hP hq
  show aw E mL_law Q 1990 (lvL G i) [.int kx] H1 (k + 1) (n + 6)
  refine aw_b (pc' := 1998) (lv' := (6, .int kx) :: lvL G i) (st' := [.int (nI i + nI 1), .ref (lb G), .ref (lB G)]) [(1990, .istore 6, 2, .null), (1992, .aload_n 2, 1, .null), (1993, .aload_n 0, 1, .null), (1994, .iload 5, 2, .null), (1996, .iconst 1, 1, .int (nI 1)), (1997, .iadd, 1, .null)] (by decide +kernel) rfl ?_
  refine aw_sld h1.1 (ib_in (sc_j hi hg.2.2.2.2.2 (by decide))) (by decide +kernel) ?_
  refine aw_cv (rest := []) (st1 := [.int y]) (lB G) 0 (kX8_streak eB h1.2.2.2.1 hfB) rfl rfl ckX8_streak lw_l275 h1.2.2.2.1 eo_O_0 ⟨_, _, rfl⟩ nkX8_streak rfl (by decide +kernel) rfl (Nat.le_of_ble_eq_true rfl) (by show _ ≤ 601024; omega) (by show _ ≤ 7293033; omega) (by decide +kernel) (fun H2 z => ?_)
  obtain ⟨z, hn2⟩ := z
  have h2 := h1.mod hg z hn2
  have n2 := n1.kept z (by have := hg; unfold ge_ at this; omega)
  have hw := hw.kept z (Or.inr (by have := hg; unfold ge_ at this; omega))
  refine aw_b (pc' := 2005) (lv' := (7, .int y) :: (6, .int kx) :: lvL G i) (st' := [.ref (lB G)]) [(2002, .istore 7, 2, .null), (2004, .aload_n 2, 1, .null)] (by decide +kernel) rfl ?_
  refine aw_cv (rest := []) (st1 := [.int (t' 0 6)]) (lB G) 0 (kX8_thrown rfl h2.2.2.2.1) rfl rfl ckX8_thrown lw_l167 h2.2.2.2.1 eo_O_0 ⟨_, _, rfl⟩ nkX8_thrown rfl (by decide +kernel) rfl (Nat.le_of_ble_eq_true rfl) (by show _ ≤ 601024; omega) (by show _ ≤ 7293033; omega) (by decide +kernel) (fun H3 z => ?_)
  have h3 := h2.z z
  have n3 := n2.kept z (Nat.zero_le _)
  have hw := hw.kept z (Or.inr (Nat.zero_le _))
  refine aw_b (pc' := 2010) (lv' := (7, .int y) :: (6, .int kx) :: lvL G i) (st' := [.int kx, .int (t' 0 6)]) [(2008, .iload 6, 2, .null)] (by decide +kernel) rfl ?_
  refine aw_ic_eq (off := 5) 2015 (by decide) (by decide +kernel) (fun _ => ?_) (fun hne => absurd e6 hne)
  refine aw_b (pc' := 2017) (lv' := (7, .int y) :: (6, .int kx) :: lvL G i) (st' := [.int kx]) [(2015, .iload 6, 2, .null)] (by decide +kernel) rfl ?_
  have fin : aw E mL_law Q 2032 ((7, .int y) :: (6, .int kx) :: lvL G i) [] H3 (k + 1) (n + 6) := by
    refine aw_b (pc' := 3097) (lv' := (7, .int y) :: (6, .int kx) :: lvL G i) (st' := []) [(2032, .goto 1065, 3, .null)] (by decide +kernel) rfl ?_
    refine aw_lv (lv' := lvL G i) [2, 3, 4, 5, 6, 7] rfl ?_
    exact aw_widen (by omega) (by omega) (kk H3 s' t' f' h3 n3 hF)
  refine aw_if_ne (off := 15) 2032 (by decide) (by decide +kernel) (fun _ => fin) (fun h0 => ?_)
  obtain ⟨e, q1, f0, rfl, q2⟩ := hw h0
  refine aw_b (pc' := 2022) (lv' := (7, .int y) :: (6, .int kx) :: lvL G i) (st' := [.int (nI 0), .ref (lO G)]) [(2020, .aload_n 3, 1, .null), (2021, .iconst 0, 1, .int (nI 0))] (by decide +kernel) rfl ?_
  refine aw_lald q1 (ib_in (by decide)) (by decide +kernel) ?_
  refine aw_b (pc' := 2027) (lv' := (7, .int y) :: (6, .int kx) :: lvL G i) (st' := [.int (lg_cmp (f0 (Int32.toNatClampNeg (nI 0))) ((y).toInt64))]) [(2023, .iload 7, 2, .null), (2025, .i2l, 1, .null), (2026, .lcmp, 1, .null)] (by decide +kernel) rfl ?_
  refine aw_if_eq (off := 5) 2032 (by decide) (by decide +kernel) (fun _ => fin) (fun hne => absurd ?_ hne)
  rw [lg_cmp_eq]
  exact q2
theorem lw_s_dearest : Cond.static mL_dearest.1 ∈ uw_ := (uw_mem 1257 (by decide +kernel) (by decide +kernel))
theorem lw_n_dearest : nok_ mL_dearest 4 := by decide +kernel
theorem lw_l276 : Cond.methodLink RL 276 yL_dearest ∈ uw_ := (uw_mem 1256 (by decide +kernel) (by decide +kernel))
theorem lw_l278 : Cond.methodLink RL 278 yX8_dearest ∈ uw_ := (uw_mem 1867 (by decide +kernel) (by decide +kernel))
set_option maxHeartbeats 4000000 in
theorem lc_36 {E : ev_} {G : lx_} {H : Heap} {s t : st_} {f : Nat → Option Nat} {i k n : Nat} {Q : po_} (hX : exo_ E) (hg : ge_ E G) (hb : LB_ E G H s t f) (hi : i + 4 ≤ lL G) (hc : CL_ E G H mX7_dearest [.ref (lA G), .int (pq_ G i 1), .int (pq_ G i 2)] vi_ g2_ t (fX8_dearest t ((pq_ G i 1)) ((pq_ G i 2))) (fun _ => True)) (hk : k + 80 ≤ 601024) (hn : n + 9000 ≤ 7293033) (kk : LN_ E G Q i (k + 80) (n + 9000)) : aw E mL_law Q 2035 (lvL G i) [] H k n := by
  obtain ⟨s', v, t', y, PP, hs, eB, hoa, hF, hZ, hP⟩ := hc
  have hfB : ev_fr E (lB G) := Nat.le_trans hg.1 (by have := hg.2.1; omega)
  have hfO : ev_fr E (lO G) := Nat.le_trans hg.1 (by have := hg; unfold ge_ at this; omega)
  refine aw_b (pc' := 2041) (lv' := lvL G i) (st' := [.int (nI i + nI 1), .ref (lb G), .ref (lA G)]) [(2035, .aload_n 1, 1, .null), (2036, .aload_n 0, 1, .null), (2037, .iload 5, 2, .null), (2039, .iconst 1, 1, .int (nI 1)), (2040, .iadd, 1, .null)] (by decide +kernel) rfl ?_
  refine aw_sld hb.1 (ib_in (sc_j hi hg.2.2.2.2.2 (by decide))) (by decide +kernel) ?_
  refine aw_b (pc' := 2047) (lv' := lvL G i) (st' := [.int (nI i + nI 2), .ref (lb G), .int (pq_ G i 1), .ref (lA G)]) [(2042, .aload_n 0, 1, .null), (2043, .iload 5, 2, .null), (2045, .iconst 2, 1, .int (nI 2)), (2046, .iadd, 1, .null)] (by decide +kernel) rfl ?_
  refine aw_sld hb.1 (ib_in (sc_j hi hg.2.2.2.2.2 (by decide))) (by decide +kernel) ?_
  refine aw_b (pc' := 2049) (lv' := lvL G i) (st' := [.ref (lO G), .int (pq_ G i 2), .int (pq_ G i 1), .ref (lA G)]) [(2048, .aload_n 3, 1, .null)] (by decide +kernel) rfl ?_
  refine aw_csw (rest := []) (u := 2) (u6 := 12) (wL_dearest hX hs (hA_ hb) hfO (fun H1 q => by obtain ⟨f', q1, -⟩ := hP H1 q; exact q1.2.2.2.2.1) (fun c e => by subst e; exact hoa.2)) rfl ckL_dearest inL_ nmL_ lw_s_dearest lw_l276 lw_n_dearest rfl (by decide +kernel) rfl rfl rfl (Nat.le_of_ble_eq_true rfl) (by show _ ≤ 601024; omega) (by show _ ≤ 7293033; omega) (by decide +kernel) wq_r (fun r H1 _ hq => ?_)
  obtain ⟨kx, f', rfl, h1, n1, e6, hw⟩ := wq0 out_lo hg hoa hP hq
  show aw E mL_law Q 2052 (lvL G i) [.int kx] H1 (k + 2) (n + 12)
  refine aw_b (pc' := 2060) (lv' := (6, .int kx) :: lvL G i) (st' := [.int (nI i + nI 1), .ref (lb G), .ref (lB G)]) [(2052, .istore 6, 2, .null), (2054, .aload_n 2, 1, .null), (2055, .aload_n 0, 1, .null), (2056, .iload 5, 2, .null), (2058, .iconst 1, 1, .int (nI 1)), (2059, .iadd, 1, .null)] (by decide +kernel) rfl ?_
  refine aw_sld h1.1 (ib_in (sc_j hi hg.2.2.2.2.2 (by decide))) (by decide +kernel) ?_
  refine aw_b (pc' := 2066) (lv' := (6, .int kx) :: lvL G i) (st' := [.int (nI i + nI 2), .ref (lb G), .int (pq_ G i 1), .ref (lB G)]) [(2061, .aload_n 0, 1, .null), (2062, .iload 5, 2, .null), (2064, .iconst 2, 1, .int (nI 2)), (2065, .iadd, 1, .null)] (by decide +kernel) rfl ?_
  refine aw_sld h1.1 (ib_in (sc_j hi hg.2.2.2.2.2 (by decide))) (by decide +kernel) ?_
  refine aw_cv (rest := []) (st1 := [.int y]) (lB G) 0 (kX8_dearest eB h1.2.2.2.1 hfB) rfl rfl ckX8_dearest lw_l278 h1.2.2.2.1 eo_O_0 ⟨_, _, rfl⟩ nkX8_dearest rfl (by decide +kernel) rfl (Nat.le_of_ble_eq_true rfl) (by show _ ≤ 601024; omega) (by show _ ≤ 7293033; omega) (by decide +kernel) (fun H2 z => ?_)
  obtain ⟨z, hn2⟩ := z
  have h2 := h1.mod hg z hn2
  have n2 := n1.kept z (by have := hg; unfold ge_ at this; omega)
  have hw := hw.kept z (Or.inr (by have := hg; unfold ge_ at this; omega))
  refine aw_b (pc' := 2073) (lv' := (7, .int y) :: (6, .int kx) :: lvL G i) (st' := [.ref (lB G)]) [(2070, .istore 7, 2, .null), (2072, .aload_n 2, 1, .null)] (by decide +kernel) rfl ?_
  refine aw_cv (rest := []) (st1 := [.int (t' 0 6)]) (lB G) 0 (kX8_thrown rfl h2.2.2.2.1) rfl rfl ckX8_thrown lw_l167 h2.2.2.2.1 eo_O_0 ⟨_, _, rfl⟩ nkX8_thrown rfl (by decide +kernel) rfl (Nat.le_of_ble_eq_true rfl) (by show _ ≤ 601024; omega) (by show _ ≤ 7293033; omega) (by decide +kernel) (fun H3 z => ?_)
  have h3 := h2.z z
  have n3 := n2.kept z (Nat.zero_le _)
  have hw := hw.kept z (Or.inr (Nat.zero_le _))
  refine aw_b (pc' := 2078) (lv' := (7, .int y) :: (6, .int kx) :: lvL G i) (st' := [.int kx, .int (t' 0 6)]) [(2076, .iload 6, 2, .null)] (by decide +kernel) rfl ?_
  refine aw_ic_eq (off := 5) 2083 (by decide) (by decide +kernel) (fun _ => ?_) (fun hne => absurd e6 hne)
  refine aw_b (pc' := 2085) (lv' := (7, .int y) :: (6, .int kx) :: lvL G i) (st' := [.int kx]) [(2083, .iload 6, 2, .null)] (by decide +kernel) rfl ?_
  have fin : aw E mL_law Q 2100 ((7, .int y) :: (6, .int kx) :: lvL G i) [] H3 (k + 2) (n + 12) := by
    refine aw_b (pc' := 3097) (lv' := (7, .int y) :: (6, .int kx) :: lvL G i) (st' := []) [(2100, .goto 997, 3, .null)] (by decide +kernel) rfl ?_
    refine aw_lv (lv' := lvL G i) [2, 3, 4, 5, 6, 7] rfl ?_
    exact aw_widen (by omega) (by omega) (kk H3 s' t' f' h3 n3 hF)
  refine aw_if_ne (off := 15) 2100 (by decide) (by decide +kernel) (fun _ => fin) (fun h0 => ?_)
  obtain ⟨e, q1, f0, rfl, q2⟩ := hw h0
  refine aw_b (pc' := 2090) (lv' := (7, .int y) :: (6, .int kx) :: lvL G i) (st' := [.int (nI 0), .ref (lO G)]) [(2088, .aload_n 3, 1, .null), (2089, .iconst 0, 1, .int (nI 0))] (by decide +kernel) rfl ?_
  refine aw_lald q1 (ib_in (by decide)) (by decide +kernel) ?_
  refine aw_b (pc' := 2095) (lv' := (7, .int y) :: (6, .int kx) :: lvL G i) (st' := [.int (lg_cmp (f0 (Int32.toNatClampNeg (nI 0))) ((y).toInt64))]) [(2091, .iload 7, 2, .null), (2093, .i2l, 1, .null), (2094, .lcmp, 1, .null)] (by decide +kernel) rfl ?_
  refine aw_if_eq (off := 5) 2100 (by decide) (by decide +kernel) (fun _ => fin) (fun hne => absurd ?_ hne)
  rw [lg_cmp_eq]
  exact q2
theorem lw_s_windowRegret : Cond.static mL_windowRegret.1 ∈ uw_ := (uw_mem 1264 (by decide +kernel) (by decide +kernel))
theorem lw_n_windowRegret : nok_ mL_windowRegret 4 := by decide +kernel
theorem lw_l279 : Cond.methodLink RL 279 yL_windowRegret ∈ uw_ := (uw_mem 1263 (by decide +kernel) (by decide +kernel))
theorem lw_l281 : Cond.methodLink RL 281 yX8_windowRegret ∈ uw_ := (uw_mem 1872 (by decide +kernel) (by decide +kernel))
