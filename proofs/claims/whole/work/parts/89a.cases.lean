/-! the cases of the law: printed by wip/whole/gen_89.py -/
abbrev lvL (G : lx_) (i : Nat) : List (Nat × Value) := [(5, .int (nI i)), (0, .ref (lb G)), (1, .ref (lA G)), (2, .ref (lB G)), (3, .ref (lO G)), (4, .ref (lP G))]
abbrev pq_ (G : lx_) (i j : Nat) : Int32 := lX G (ix_ (nI i + nI j))
/-- what is owed behind a case -/
def LN_ (E : ev_) (G : lx_) (Q : po_) (i k n : Nat) : Prop := ∀ (H1 : Heap) (s' t' : st_) (f' : Nat → Option Nat), LB_ E G H1 s' t' f' → SN_ E H1 (lP G + 1) f' t' → FF s' t' → aw E mL_law Q 3097 (lvL G i) [] H1 k n
theorem sc_j {G : lx_} {i j : Nat} (hi : i + 4 ≤ lL G) (hL : lL G ≤ 2048) (hj : j < 4) : ib_ (nI i + nI j) (lL G) = true := by
  rw [nI_add]
  exact ib_n (by omega) (by omega)
theorem out_lo {E : ev_} : ∀ (y : Int32) e, lo_ E y.toInt64 e → ∃ z, lo_ E z e := fun y e h => ⟨_, h⟩
theorem out_d {E : ev_} : ∀ (y : UInt64) e, do_ E y e → ∃ z, do_ E z e := fun y e h => ⟨_, h⟩
theorem out_f {E : ev_} : ∀ (y : UInt32) e, do_ E (FP.f2d y) e → ∃ z, do_ E z e := fun y e h => ⟨_, h⟩
theorem inL_ : Cond.initialized RL ∈ uw_ := (uw_mem 102 (by decide +kernel) (by decide +kernel))
theorem nmL_ : RL ≠ "java/lang/invoke/MethodHandle" ∧ RL ≠ "java/lang/invoke/VarHandle" := by decide +kernel
theorem d_self {y : UInt64} (h : FP.Core.dIsNaN y = false) : Op.cmpValue (FP.dcmp y y) .l = 0 := by
  show Op.cmpValue (FP.Core.dcmp y y) .l = 0
  rw [FP.Core.dcmp_self ((FP.Core.notNaN_iff _).mp h)]
  rfl
theorem f_out {y : UInt32} (h : FP.Core.fIsNaN y = false) : FP.Core.dIsNaN (FP.f2d y) = false := by
  rw [FP.f2d_core h]
  exact FP.Core.f2d_out h
theorem f_self {y : UInt32} (h : FP.Core.fIsNaN y = false) : Op.cmpValue (FP.dcmp (FP.f2d y) (FP.f2d y)) .l = 0 := d_self (f_out h)
theorem f_n64 {y : UInt32} (h : FP.Core.fIsNaN y = false) : vf_n64 (FP.f2d y) := by
  have h1 := n64_of (f_out h)
  unfold n64_ at h1
  have h2 := of_decide_eq_true h1
  exact h2
theorem lw_k145 : Cond.constantLong RL 145 4294967295 ∈ uw_ := (uw_mem 2095 (by decide +kernel) (by decide +kernel))
theorem lw_l147 : Cond.methodLink RL 147 yX7_append ∈ uw_ := (uw_mem 560 (by decide +kernel) (by decide +kernel))
theorem lw_l151 : Cond.methodLink RL 151 yX8_append ∈ uw_ := (uw_mem 1498 (by decide +kernel) (by decide +kernel))
set_option maxHeartbeats 4000000 in
theorem lc_0 {E : ev_} {G : lx_} {H : Heap} {s t : st_} {f : Nat → Option Nat} {i k n : Nat} {Q : po_} (hg : ge_ E G) (hb : LB_ E G H s t f) (hs0 : SN_ E H (lP G + 1) f t) (hi : i + 4 ≤ lL G) (hc : CV_ E H (lA G) mX7_append [.ref (lA G), .long ((((pq_ G i 1)).toInt64 <<< (((nI 32)).toInt64 &&& 63)) ||| (((pq_ G i 2)).toInt64 &&& (4294967295 : Int64)))] t (fX8_append t ((((pq_ G i 1)).toInt64 <<< (((nI 32)).toInt64 &&& 63)) ||| (((pq_ G i 2)).toInt64 &&& (4294967295 : Int64))))) (hk : k + 80 ≤ 601024) (hn : n + 9000 ≤ 7293033) (kk : LN_ E G Q i (k + 80) (n + 9000)) : aw E mL_law Q 280 (lvL G i) [] H k n := by
  obtain ⟨s', v, t', hs, eB, hF, he⟩ := hc
  have hfB : ev_fr E (lB G) := Nat.le_trans hg.1 (by have := hg.2.1; omega)
  refine aw_b (pc' := 286) (lv' := lvL G i) (st' := [.int (nI i + nI 1), .ref (lb G), .ref (lA G)]) [(280, .aload_n 1, 1, .null), (281, .aload_n 0, 1, .null), (282, .iload 5, 2, .null), (284, .iconst 1, 1, .int (nI 1)), (285, .iadd, 1, .null)] (by decide +kernel) rfl ?_
  refine aw_sld hb.1 (ib_in (sc_j hi hg.2.2.2.2.2 (by decide))) (by decide +kernel) ?_
  refine aw_b (pc' := 296) (lv' := lvL G i) (st' := [.int (nI i + nI 2), .ref (lb G), .long (((pq_ G i 1)).toInt64 <<< (((nI 32)).toInt64 &&& 63)), .ref (lA G)]) [(287, .i2l, 1, .null), (288, .bipush 32, 2, .int (nI 32)), (290, .lshl, 1, .null), (291, .aload_n 0, 1, .null), (292, .iload 5, 2, .null), (294, .iconst 2, 1, .int (nI 2)), (295, .iadd, 1, .null)] (by decide +kernel) rfl ?_
  refine aw_sld hb.1 (ib_in (sc_j hi hg.2.2.2.2.2 (by decide))) (by decide +kernel) ?_
  refine aw_b (pc' := 298) (lv' := lvL G i) (st' := [.long ((pq_ G i 2)).toInt64, .long (((pq_ G i 1)).toInt64 <<< (((nI 32)).toInt64 &&& 63)), .ref (lA G)]) [(297, .i2l, 1, .null)] (by decide +kernel) rfl ?_
  refine aw_ldc2 lw_k145 (by decide +kernel) ?_
  refine aw_b (pc' := 303) (lv' := lvL G i) (st' := [.long ((((pq_ G i 1)).toInt64 <<< (((nI 32)).toInt64 &&& 63)) ||| (((pq_ G i 2)).toInt64 &&& (4294967295 : Int64))), .ref (lA G)]) [(301, .land, 1, .null), (302, .lor, 1, .null)] (by decide +kernel) rfl ?_
  refine aw_cv (rest := []) (st1 := [.int v]) (lA G) 0 hs rfl rfl ckX7_append lw_l147 hb.2.1 eo_M_0 ⟨_, _, rfl⟩ nkX7_append rfl (by decide +kernel) rfl (Nat.le_of_ble_eq_true rfl) (by show _ ≤ 601024; omega) (by show _ ≤ 7293033; omega) (by decide +kernel) (fun H1 z => ?_)
  have h1 := hb.cls hg z.1 z.2
  have n1 := (hs0.kept z.1 (by have := hg; unfold ge_ at this; omega)).md he
  refine aw_b (pc' := 312) (lv' := lvL G i) (st' := [.int (nI i + nI 1), .ref (lb G), .ref (lB G), .int v]) [(306, .aload_n 2, 1, .null), (307, .aload_n 0, 1, .null), (308, .iload 5, 2, .null), (310, .iconst 1, 1, .int (nI 1)), (311, .iadd, 1, .null)] (by decide +kernel) rfl ?_
  refine aw_sld h1.1 (ib_in (sc_j hi hg.2.2.2.2.2 (by decide))) (by decide +kernel) ?_
  refine aw_b (pc' := 322) (lv' := lvL G i) (st' := [.int (nI i + nI 2), .ref (lb G), .long (((pq_ G i 1)).toInt64 <<< (((nI 32)).toInt64 &&& 63)), .ref (lB G), .int v]) [(313, .i2l, 1, .null), (314, .bipush 32, 2, .int (nI 32)), (316, .lshl, 1, .null), (317, .aload_n 0, 1, .null), (318, .iload 5, 2, .null), (320, .iconst 2, 1, .int (nI 2)), (321, .iadd, 1, .null)] (by decide +kernel) rfl ?_
  refine aw_sld h1.1 (ib_in (sc_j hi hg.2.2.2.2.2 (by decide))) (by decide +kernel) ?_
  refine aw_b (pc' := 324) (lv' := lvL G i) (st' := [.long ((pq_ G i 2)).toInt64, .long (((pq_ G i 1)).toInt64 <<< (((nI 32)).toInt64 &&& 63)), .ref (lB G), .int v]) [(323, .i2l, 1, .null)] (by decide +kernel) rfl ?_
  refine aw_ldc2 lw_k145 (by decide +kernel) ?_
  refine aw_b (pc' := 329) (lv' := lvL G i) (st' := [.long ((((pq_ G i 1)).toInt64 <<< (((nI 32)).toInt64 &&& 63)) ||| (((pq_ G i 2)).toInt64 &&& (4294967295 : Int64))), .ref (lB G), .int v]) [(327, .land, 1, .null), (328, .lor, 1, .null)] (by decide +kernel) rfl ?_
  refine aw_cv (rest := [.int v]) (st1 := [.int v, .int v]) (lB G) 0 (kX8_append eB h1.2.2.2.1 hfB) rfl rfl ckX8_append lw_l151 h1.2.2.2.1 eo_O_0 ⟨_, _, rfl⟩ nkX8_append rfl (by decide +kernel) rfl (Nat.le_of_ble_eq_true rfl) (by show _ ≤ 601024; omega) (by show _ ≤ 7293033; omega) (by decide +kernel) (fun H2 z => ?_)
  obtain ⟨z, hn2⟩ := z
  have h2 := h1.mod hg z hn2
  have n2 := n1.kept z (by have := hg; unfold ge_ at this; omega)
  refine aw_ic_eq (off := 2765) 3097 (by decide) (by decide +kernel) (fun _ => ?_) (fun hne => absurd rfl hne)
  exact aw_widen (by omega) (by omega) (kk H2 s' t' f h2 n2 hF)
theorem lw_l152 : Cond.methodLink RL 152 yX7_load ∈ uw_ := (uw_mem 565 (by decide +kernel) (by decide +kernel))
theorem lw_l156 : Cond.methodLink RL 156 yX8_load ∈ uw_ := (uw_mem 1507 (by decide +kernel) (by decide +kernel))
set_option maxHeartbeats 4000000 in
theorem lc_1 {E : ev_} {G : lx_} {H : Heap} {s t : st_} {f : Nat → Option Nat} {i k n : Nat} {Q : po_} (hg : ge_ E G) (hb : LB_ E G H s t f) (hs0 : SN_ E H (lP G + 1) f t) (hi : i + 4 ≤ lL G) (hc : CV_ E H (lA G) mX7_load [.ref (lA G)] t (fX8_load t)) (hk : k + 80 ≤ 601024) (hn : n + 9000 ≤ 7293033) (kk : LN_ E G Q i (k + 80) (n + 9000)) : aw E mL_law Q 337 (lvL G i) [] H k n := by
  obtain ⟨s', v, t', hs, eB, hF, he⟩ := hc
  have hfB : ev_fr E (lB G) := Nat.le_trans hg.1 (by have := hg.2.1; omega)
  refine aw_b (pc' := 338) (lv' := lvL G i) (st' := [.ref (lA G)]) [(337, .aload_n 1, 1, .null)] (by decide +kernel) rfl ?_
  refine aw_cv (rest := []) (st1 := [.int v]) (lA G) 0 hs rfl rfl ckX7_load lw_l152 hb.2.1 eo_M_0 ⟨_, _, rfl⟩ nkX7_load rfl (by decide +kernel) rfl (Nat.le_of_ble_eq_true rfl) (by show _ ≤ 601024; omega) (by show _ ≤ 7293033; omega) (by decide +kernel) (fun H1 z => ?_)
  have h1 := hb.cls hg z.1 z.2
  have n1 := (hs0.kept z.1 (by have := hg; unfold ge_ at this; omega)).md he
  refine aw_b (pc' := 342) (lv' := lvL G i) (st' := [.ref (lB G), .int v]) [(341, .aload_n 2, 1, .null)] (by decide +kernel) rfl ?_
  refine aw_cv (rest := [.int v]) (st1 := [.int v, .int v]) (lB G) 0 (kX8_load eB h1.2.2.2.1 hfB) rfl rfl ckX8_load lw_l156 h1.2.2.2.1 eo_O_0 ⟨_, _, rfl⟩ nkX8_load rfl (by decide +kernel) rfl (Nat.le_of_ble_eq_true rfl) (by show _ ≤ 601024; omega) (by show _ ≤ 7293033; omega) (by decide +kernel) (fun H2 z => ?_)
  obtain ⟨z, hn2⟩ := z
  have h2 := h1.mod hg z hn2
  have n2 := n1.kept z (by have := hg; unfold ge_ at this; omega)
  refine aw_ic_eq (off := 2752) 3097 (by decide) (by decide +kernel) (fun _ => ?_) (fun hne => absurd rfl hne)
  exact aw_widen (by omega) (by omega) (kk H2 s' t' f h2 n2 hF)
theorem lw_l157 : Cond.methodLink RL 157 yX7_loadError ∈ uw_ := (uw_mem 693 (by decide +kernel) (by decide +kernel))
theorem lw_l160 : Cond.methodLink RL 160 yX8_loadError ∈ uw_ := (uw_mem 1503 (by decide +kernel) (by decide +kernel))
set_option maxHeartbeats 4000000 in
theorem lc_2 {E : ev_} {G : lx_} {H : Heap} {s t : st_} {f : Nat → Option Nat} {i k n : Nat} {Q : po_} (hg : ge_ E G) (hb : LB_ E G H s t f) (hs0 : SN_ E H (lP G + 1) f t) (hi : i + 4 ≤ lL G) (hc : CV_ E H (lA G) mX7_loadError [.ref (lA G)] t (fX8_loadError t)) (hk : k + 80 ≤ 601024) (hn : n + 9000 ≤ 7293033) (kk : LN_ E G Q i (k + 80) (n + 9000)) : aw E mL_law Q 350 (lvL G i) [] H k n := by
  obtain ⟨s', v, t', hs, eB, hF, he⟩ := hc
  have hfB : ev_fr E (lB G) := Nat.le_trans hg.1 (by have := hg.2.1; omega)
  refine aw_b (pc' := 351) (lv' := lvL G i) (st' := [.ref (lA G)]) [(350, .aload_n 1, 1, .null)] (by decide +kernel) rfl ?_
  refine aw_cv (rest := []) (st1 := [.int v]) (lA G) 0 hs rfl rfl ckX7_loadError lw_l157 hb.2.1 eo_M_0 ⟨_, _, rfl⟩ nkX7_loadError rfl (by decide +kernel) rfl (Nat.le_of_ble_eq_true rfl) (by show _ ≤ 601024; omega) (by show _ ≤ 7293033; omega) (by decide +kernel) (fun H1 z => ?_)
  have h1 := hb.cls hg z.1 z.2
  have n1 := (hs0.kept z.1 (by have := hg; unfold ge_ at this; omega)).md he
  refine aw_b (pc' := 355) (lv' := lvL G i) (st' := [.ref (lB G), .int v]) [(354, .aload_n 2, 1, .null)] (by decide +kernel) rfl ?_
  refine aw_cv (rest := [.int v]) (st1 := [.int v, .int v]) (lB G) 0 (kX8_loadError eB h1.2.2.2.1 hfB) rfl rfl ckX8_loadError lw_l160 h1.2.2.2.1 eo_O_0 ⟨_, _, rfl⟩ nkX8_loadError rfl (by decide +kernel) rfl (Nat.le_of_ble_eq_true rfl) (by show _ ≤ 601024; omega) (by show _ ≤ 7293033; omega) (by decide +kernel) (fun H2 z => ?_)
  obtain ⟨z, hn2⟩ := z
  have h2 := h1.mod hg z hn2
  have n2 := n1.kept z (by have := hg; unfold ge_ at this; omega)
  refine aw_ic_eq (off := 2739) 3097 (by decide) (by decide +kernel) (fun _ => ?_) (fun hne => absurd rfl hne)
  exact aw_widen (by omega) (by omega) (kk H2 s' t' f h2 n2 hF)
theorem lw_s_setting : Cond.static mL_setting.1 ∈ uw_ := (uw_mem 915 (by decide +kernel) (by decide +kernel))
theorem lw_n_setting : nok_ mL_setting 3 := by decide +kernel
theorem lw_l161 : Cond.methodLink RL 161 yL_setting ∈ uw_ := (uw_mem 914 (by decide +kernel) (by decide +kernel))
theorem lw_l166 : Cond.methodLink RL 166 yX8_setting ∈ uw_ := (uw_mem 1617 (by decide +kernel) (by decide +kernel))
theorem lw_l167 : Cond.methodLink RL 167 yX8_thrown ∈ uw_ := (uw_mem 1494 (by decide +kernel) (by decide +kernel))
set_option maxHeartbeats 4000000 in
theorem lc_3 {E : ev_} {G : lx_} {H : Heap} {s t : st_} {f : Nat → Option Nat} {i k n : Nat} {Q : po_} (hX : exo_ E) (hg : ge_ E G) (hb : LB_ E G H s t f) (hi : i + 4 ≤ lL G) (hc : CL_ E G H mX7_setting [.ref (lA G), .int (pq_ G i 1)] vi_ g1_ t (fX8_setting t ((pq_ G i 1))) (fun _ => True)) (hk : k + 80 ≤ 601024) (hn : n + 9000 ≤ 7293033) (kk : LN_ E G Q i (k + 80) (n + 9000)) : aw E mL_law Q 363 (lvL G i) [] H k n := by
  obtain ⟨s', v, t', y, PP, hs, eB, hoa, hF, hZ, hP⟩ := hc
  have hfB : ev_fr E (lB G) := Nat.le_trans hg.1 (by have := hg.2.1; omega)
  have hfO : ev_fr E (lO G) := Nat.le_trans hg.1 (by have := hg; unfold ge_ at this; omega)
  refine aw_b (pc' := 369) (lv' := lvL G i) (st' := [.int (nI i + nI 1), .ref (lb G), .ref (lA G)]) [(363, .aload_n 1, 1, .null), (364, .aload_n 0, 1, .null), (365, .iload 5, 2, .null), (367, .iconst 1, 1, .int (nI 1)), (368, .iadd, 1, .null)] (by decide +kernel) rfl ?_
  refine aw_sld hb.1 (ib_in (sc_j hi hg.2.2.2.2.2 (by decide))) (by decide +kernel) ?_
  refine aw_b (pc' := 371) (lv' := lvL G i) (st' := [.ref (lO G), .int (pq_ G i 1), .ref (lA G)]) [(370, .aload_n 3, 1, .null)] (by decide +kernel) rfl ?_
  refine aw_csw (rest := []) (u := 1) (u6 := 6) (wL_setting hX hs (hA_ hb) hfO (fun H1 q => by obtain ⟨f', q1, -⟩ := hP H1 q; exact q1.2.2.2.2.1) (fun c e => by subst e; exact hoa.2)) rfl ckL_setting inL_ nmL_ lw_s_setting lw_l161 lw_n_setting rfl (by decide +kernel) rfl rfl rfl (Nat.le_of_ble_eq_true rfl) (by show _ ≤ 601024; omega) (by show _ ≤ 7293033; omega) (by decide +kernel) wq_r (fun r H1 _ hq => ?_)
  obtain ⟨kx, f', rfl, h1, n1, e6, hw⟩ := wq0 out_lo hg hoa hP hq
  show aw E mL_law Q 374 (lvL G i) [.int kx] H1 (k + 1) (n + 6)
  refine aw_b (pc' := 382) (lv' := (6, .int kx) :: lvL G i) (st' := [.int (nI i + nI 1), .ref (lb G), .ref (lB G)]) [(374, .istore 6, 2, .null), (376, .aload_n 2, 1, .null), (377, .aload_n 0, 1, .null), (378, .iload 5, 2, .null), (380, .iconst 1, 1, .int (nI 1)), (381, .iadd, 1, .null)] (by decide +kernel) rfl ?_
  refine aw_sld h1.1 (ib_in (sc_j hi hg.2.2.2.2.2 (by decide))) (by decide +kernel) ?_
  refine aw_cv (rest := []) (st1 := [.int y]) (lB G) 0 (kX8_setting eB h1.2.2.2.1 hfB) rfl rfl ckX8_setting lw_l166 h1.2.2.2.1 eo_O_0 ⟨_, _, rfl⟩ nkX8_setting rfl (by decide +kernel) rfl (Nat.le_of_ble_eq_true rfl) (by show _ ≤ 601024; omega) (by show _ ≤ 7293033; omega) (by decide +kernel) (fun H2 z => ?_)
  obtain ⟨z, hn2⟩ := z
  have h2 := h1.mod hg z hn2
  have n2 := n1.kept z (by have := hg; unfold ge_ at this; omega)
  have hw := hw.kept z (Or.inr (by have := hg; unfold ge_ at this; omega))
  refine aw_b (pc' := 389) (lv' := (7, .int y) :: (6, .int kx) :: lvL G i) (st' := [.ref (lB G)]) [(386, .istore 7, 2, .null), (388, .aload_n 2, 1, .null)] (by decide +kernel) rfl ?_
  refine aw_cv (rest := []) (st1 := [.int (t' 0 6)]) (lB G) 0 (kX8_thrown rfl h2.2.2.2.1) rfl rfl ckX8_thrown lw_l167 h2.2.2.2.1 eo_O_0 ⟨_, _, rfl⟩ nkX8_thrown rfl (by decide +kernel) rfl (Nat.le_of_ble_eq_true rfl) (by show _ ≤ 601024; omega) (by show _ ≤ 7293033; omega) (by decide +kernel) (fun H3 z => ?_)
  have h3 := h2.z z
  have n3 := n2.kept z (Nat.zero_le _)
  have hw := hw.kept z (Or.inr (Nat.zero_le _))
  refine aw_b (pc' := 394) (lv' := (7, .int y) :: (6, .int kx) :: lvL G i) (st' := [.int kx, .int (t' 0 6)]) [(392, .iload 6, 2, .null)] (by decide +kernel) rfl ?_
  refine aw_ic_eq (off := 5) 399 (by decide) (by decide +kernel) (fun _ => ?_) (fun hne => absurd e6 hne)
  refine aw_b (pc' := 401) (lv' := (7, .int y) :: (6, .int kx) :: lvL G i) (st' := [.int kx]) [(399, .iload 6, 2, .null)] (by decide +kernel) rfl ?_
  have fin : aw E mL_law Q 416 ((7, .int y) :: (6, .int kx) :: lvL G i) [] H3 (k + 1) (n + 6) := by
    refine aw_b (pc' := 3097) (lv' := (7, .int y) :: (6, .int kx) :: lvL G i) (st' := []) [(416, .goto 2681, 3, .null)] (by decide +kernel) rfl ?_
    refine aw_lv (lv' := lvL G i) [2, 3, 4, 5, 6, 7] rfl ?_
    exact aw_widen (by omega) (by omega) (kk H3 s' t' f' h3 n3 hF)
  refine aw_if_ne (off := 15) 416 (by decide) (by decide +kernel) (fun _ => fin) (fun h0 => ?_)
  obtain ⟨e, q1, f0, rfl, q2⟩ := hw h0
  refine aw_b (pc' := 406) (lv' := (7, .int y) :: (6, .int kx) :: lvL G i) (st' := [.int (nI 0), .ref (lO G)]) [(404, .aload_n 3, 1, .null), (405, .iconst 0, 1, .int (nI 0))] (by decide +kernel) rfl ?_
  refine aw_lald q1 (ib_in (by decide)) (by decide +kernel) ?_
  refine aw_b (pc' := 411) (lv' := (7, .int y) :: (6, .int kx) :: lvL G i) (st' := [.int (lg_cmp (f0 (Int32.toNatClampNeg (nI 0))) ((y).toInt64))]) [(407, .iload 7, 2, .null), (409, .i2l, 1, .null), (410, .lcmp, 1, .null)] (by decide +kernel) rfl ?_
  refine aw_if_eq (off := 5) 416 (by decide) (by decide +kernel) (fun _ => fin) (fun hne => absurd ?_ hne)
  rw [lg_cmp_eq]
  exact q2
theorem lw_s_rule : Cond.static mL_rule.1 ∈ uw_ := (uw_mem 989 (by decide +kernel) (by decide +kernel))
theorem lw_n_rule : nok_ mL_rule 4 := by decide +kernel
theorem lw_l170 : Cond.methodLink RL 170 yL_rule ∈ uw_ := (uw_mem 988 (by decide +kernel) (by decide +kernel))
theorem lw_l173 : Cond.methodLink RL 173 yX8_rule ∈ uw_ := (uw_mem 1630 (by decide +kernel) (by decide +kernel))
set_option maxHeartbeats 4000000 in
theorem lc_4 {E : ev_} {G : lx_} {H : Heap} {s t : st_} {f : Nat → Option Nat} {i k n : Nat} {Q : po_} (hX : exo_ E) (hg : ge_ E G) (hb : LB_ E G H s t f) (hi : i + 4 ≤ lL G) (hc : CL_ E G H mX7_rule [.ref (lA G), .int (pq_ G i 1), .int (pq_ G i 2)] vi_ g2_ t (fX8_rule t ((pq_ G i 1)) ((pq_ G i 2))) (fun _ => True)) (hk : k + 80 ≤ 601024) (hn : n + 9000 ≤ 7293033) (kk : LN_ E G Q i (k + 80) (n + 9000)) : aw E mL_law Q 419 (lvL G i) [] H k n := by
  obtain ⟨s', v, t', y, PP, hs, eB, hoa, hF, hZ, hP⟩ := hc
  have hfB : ev_fr E (lB G) := Nat.le_trans hg.1 (by have := hg.2.1; omega)
  have hfO : ev_fr E (lO G) := Nat.le_trans hg.1 (by have := hg; unfold ge_ at this; omega)
  refine aw_b (pc' := 425) (lv' := lvL G i) (st' := [.int (nI i + nI 1), .ref (lb G), .ref (lA G)]) [(419, .aload_n 1, 1, .null), (420, .aload_n 0, 1, .null), (421, .iload 5, 2, .null), (423, .iconst 1, 1, .int (nI 1)), (424, .iadd, 1, .null)] (by decide +kernel) rfl ?_
  refine aw_sld hb.1 (ib_in (sc_j hi hg.2.2.2.2.2 (by decide))) (by decide +kernel) ?_
  refine aw_b (pc' := 431) (lv' := lvL G i) (st' := [.int (nI i + nI 2), .ref (lb G), .int (pq_ G i 1), .ref (lA G)]) [(426, .aload_n 0, 1, .null), (427, .iload 5, 2, .null), (429, .iconst 2, 1, .int (nI 2)), (430, .iadd, 1, .null)] (by decide +kernel) rfl ?_
  refine aw_sld hb.1 (ib_in (sc_j hi hg.2.2.2.2.2 (by decide))) (by decide +kernel) ?_
  refine aw_b (pc' := 433) (lv' := lvL G i) (st' := [.ref (lO G), .int (pq_ G i 2), .int (pq_ G i 1), .ref (lA G)]) [(432, .aload_n 3, 1, .null)] (by decide +kernel) rfl ?_
  refine aw_csw (rest := []) (u := 2) (u6 := 12) (wL_rule hX hs (hA_ hb) hfO (fun H1 q => by obtain ⟨f', q1, -⟩ := hP H1 q; exact q1.2.2.2.2.1) (fun c e => by subst e; exact hoa.2)) rfl ckL_rule inL_ nmL_ lw_s_rule lw_l170 lw_n_rule rfl (by decide +kernel) rfl rfl rfl (Nat.le_of_ble_eq_true rfl) (by show _ ≤ 601024; omega) (by show _ ≤ 7293033; omega) (by decide +kernel) wq_r (fun r H1 _ hq => ?_)
  obtain ⟨kx, f', rfl, h1, n1, e6, hw⟩ := wq0 out_lo hg hoa hP hq
  show aw E mL_law Q 436 (lvL G i) [.int kx] H1 (k + 2) (n + 12)
  refine aw_b (pc' := 444) (lv' := (6, .int kx) :: lvL G i) (st' := [.int (nI i + nI 1), .ref (lb G), .ref (lB G)]) [(436, .istore 6, 2, .null), (438, .aload_n 2, 1, .null), (439, .aload_n 0, 1, .null), (440, .iload 5, 2, .null), (442, .iconst 1, 1, .int (nI 1)), (443, .iadd, 1, .null)] (by decide +kernel) rfl ?_
  refine aw_sld h1.1 (ib_in (sc_j hi hg.2.2.2.2.2 (by decide))) (by decide +kernel) ?_
  refine aw_b (pc' := 450) (lv' := (6, .int kx) :: lvL G i) (st' := [.int (nI i + nI 2), .ref (lb G), .int (pq_ G i 1), .ref (lB G)]) [(445, .aload_n 0, 1, .null), (446, .iload 5, 2, .null), (448, .iconst 2, 1, .int (nI 2)), (449, .iadd, 1, .null)] (by decide +kernel) rfl ?_
  refine aw_sld h1.1 (ib_in (sc_j hi hg.2.2.2.2.2 (by decide))) (by decide +kernel) ?_
  refine aw_cv (rest := []) (st1 := [.int y]) (lB G) 0 (kX8_rule eB h1.2.2.2.1 hfB) rfl rfl ckX8_rule lw_l173 h1.2.2.2.1 eo_O_0 ⟨_, _, rfl⟩ nkX8_rule rfl (by decide +kernel) rfl (Nat.le_of_ble_eq_true rfl) (by show _ ≤ 601024; omega) (by show _ ≤ 7293033; omega) (by decide +kernel) (fun H2 z => ?_)
  obtain ⟨z, hn2⟩ := z
  have h2 := h1.mod hg z hn2
  have n2 := n1.kept z (by have := hg; unfold ge_ at this; omega)
  have hw := hw.kept z (Or.inr (by have := hg; unfold ge_ at this; omega))
  refine aw_b (pc' := 457) (lv' := (7, .int y) :: (6, .int kx) :: lvL G i) (st' := [.ref (lB G)]) [(454, .istore 7, 2, .null), (456, .aload_n 2, 1, .null)] (by decide +kernel) rfl ?_
  refine aw_cv (rest := []) (st1 := [.int (t' 0 6)]) (lB G) 0 (kX8_thrown rfl h2.2.2.2.1) rfl rfl ckX8_thrown lw_l167 h2.2.2.2.1 eo_O_0 ⟨_, _, rfl⟩ nkX8_thrown rfl (by decide +kernel) rfl (Nat.le_of_ble_eq_true rfl) (by show _ ≤ 601024; omega) (by show _ ≤ 7293033; omega) (by decide +kernel) (fun H3 z => ?_)
  have h3 := h2.z z
  have n3 := n2.kept z (Nat.zero_le _)
  have hw := hw.kept z (Or.inr (Nat.zero_le _))
  refine aw_b (pc' := 462) (lv' := (7, .int y) :: (6, .int kx) :: lvL G i) (st' := [.int kx, .int (t' 0 6)]) [(460, .iload 6, 2, .null)] (by decide +kernel) rfl ?_
  refine aw_ic_eq (off := 5) 467 (by decide) (by decide +kernel) (fun _ => ?_) (fun hne => absurd e6 hne)
  refine aw_b (pc' := 469) (lv' := (7, .int y) :: (6, .int kx) :: lvL G i) (st' := [.int kx]) [(467, .iload 6, 2, .null)] (by decide +kernel) rfl ?_
  have fin : aw E mL_law Q 484 ((7, .int y) :: (6, .int kx) :: lvL G i) [] H3 (k + 2) (n + 12) := by
    refine aw_b (pc' := 3097) (lv' := (7, .int y) :: (6, .int kx) :: lvL G i) (st' := []) [(484, .goto 2613, 3, .null)] (by decide +kernel) rfl ?_
    refine aw_lv (lv' := lvL G i) [2, 3, 4, 5, 6, 7] rfl ?_
    exact aw_widen (by omega) (by omega) (kk H3 s' t' f' h3 n3 hF)
  refine aw_if_ne (off := 15) 484 (by decide) (by decide +kernel) (fun _ => fin) (fun h0 => ?_)
  obtain ⟨e, q1, f0, rfl, q2⟩ := hw h0
  refine aw_b (pc' := 474) (lv' := (7, .int y) :: (6, .int kx) :: lvL G i) (st' := [.int (nI 0), .ref (lO G)]) [(472, .aload_n 3, 1, .null), (473, .iconst 0, 1, .int (nI 0))] (by decide +kernel) rfl ?_
  refine aw_lald q1 (ib_in (by decide)) (by decide +kernel) ?_
  refine aw_b (pc' := 479) (lv' := (7, .int y) :: (6, .int kx) :: lvL G i) (st' := [.int (lg_cmp (f0 (Int32.toNatClampNeg (nI 0))) ((y).toInt64))]) [(475, .iload 7, 2, .null), (477, .i2l, 1, .null), (478, .lcmp, 1, .null)] (by decide +kernel) rfl ?_
  refine aw_if_eq (off := 5) 484 (by decide) (by decide +kernel) (fun _ => fin) (fun hne => absurd ?_ hne)
  rw [lg_cmp_eq]
  exact q2
theorem lw_l174 : Cond.methodLink RL 174 yX7_ask ∈ uw_ := (uw_mem 697 (by decide +kernel) (by decide +kernel))
theorem lw_l177 : Cond.methodLink RL 177 yX8_ask ∈ uw_ := (uw_mem 1654 (by decide +kernel) (by decide +kernel))
set_option maxHeartbeats 4000000 in
theorem lc_5 {E : ev_} {G : lx_} {H : Heap} {s t : st_} {f : Nat → Option Nat} {i k n : Nat} {Q : po_} (hg : ge_ E G) (hb : LB_ E G H s t f) (hs0 : SN_ E H (lP G + 1) f t) (hi : i + 4 ≤ lL G) (hc : CV_ E H (lA G) mX7_ask [.ref (lA G), .int (pq_ G i 1)] t (fX8_ask t (pq_ G i 1))) (hk : k + 80 ≤ 601024) (hn : n + 9000 ≤ 7293033) (kk : LN_ E G Q i (k + 80) (n + 9000)) : aw E mL_law Q 487 (lvL G i) [] H k n := by
  obtain ⟨s', v, t', hs, eB, hF, he⟩ := hc
  have hfB : ev_fr E (lB G) := Nat.le_trans hg.1 (by have := hg.2.1; omega)
  refine aw_b (pc' := 493) (lv' := lvL G i) (st' := [.int (nI i + nI 1), .ref (lb G), .ref (lA G)]) [(487, .aload_n 1, 1, .null), (488, .aload_n 0, 1, .null), (489, .iload 5, 2, .null), (491, .iconst 1, 1, .int (nI 1)), (492, .iadd, 1, .null)] (by decide +kernel) rfl ?_
  refine aw_sld hb.1 (ib_in (sc_j hi hg.2.2.2.2.2 (by decide))) (by decide +kernel) ?_
  refine aw_cv (rest := []) (st1 := [.int v]) (lA G) 0 hs rfl rfl ckX7_ask lw_l174 hb.2.1 eo_M_0 ⟨_, _, rfl⟩ nkX7_ask rfl (by decide +kernel) rfl (Nat.le_of_ble_eq_true rfl) (by show _ ≤ 601024; omega) (by show _ ≤ 7293033; omega) (by decide +kernel) (fun H1 z => ?_)
  have h1 := hb.cls hg z.1 z.2
  have n1 := (hs0.kept z.1 (by have := hg; unfold ge_ at this; omega)).md he
  refine aw_b (pc' := 503) (lv' := lvL G i) (st' := [.int (nI i + nI 1), .ref (lb G), .ref (lB G), .int v]) [(497, .aload_n 2, 1, .null), (498, .aload_n 0, 1, .null), (499, .iload 5, 2, .null), (501, .iconst 1, 1, .int (nI 1)), (502, .iadd, 1, .null)] (by decide +kernel) rfl ?_
  refine aw_sld h1.1 (ib_in (sc_j hi hg.2.2.2.2.2 (by decide))) (by decide +kernel) ?_
  refine aw_cv (rest := [.int v]) (st1 := [.int v, .int v]) (lB G) 0 (kX8_ask eB h1.2.2.2.1 hfB) rfl rfl ckX8_ask lw_l177 h1.2.2.2.1 eo_O_0 ⟨_, _, rfl⟩ nkX8_ask rfl (by decide +kernel) rfl (Nat.le_of_ble_eq_true rfl) (by show _ ≤ 601024; omega) (by show _ ≤ 7293033; omega) (by decide +kernel) (fun H2 z => ?_)
  obtain ⟨z, hn2⟩ := z
  have h2 := h1.mod hg z hn2
  have n2 := n1.kept z (by have := hg; unfold ge_ at this; omega)
  refine aw_ic_eq (off := 2590) 3097 (by decide) (by decide +kernel) (fun _ => ?_) (fun hne => absurd rfl hne)
  exact aw_widen (by omega) (by omega) (kk H2 s' t' f h2 n2 hF)
theorem lw_s_request : Cond.static mL_request.1 ∈ uw_ := (uw_mem 1021 (by decide +kernel) (by decide +kernel))
theorem lw_n_request : nok_ mL_request 3 := by decide +kernel
theorem lw_l178 : Cond.methodLink RL 178 yL_request ∈ uw_ := (uw_mem 1020 (by decide +kernel) (by decide +kernel))
theorem lw_l180 : Cond.methodLink RL 180 yX8_request ∈ uw_ := (uw_mem 1658 (by decide +kernel) (by decide +kernel))
set_option maxHeartbeats 4000000 in
theorem lc_6 {E : ev_} {G : lx_} {H : Heap} {s t : st_} {f : Nat → Option Nat} {i k n : Nat} {Q : po_} (hX : exo_ E) (hg : ge_ E G) (hb : LB_ E G H s t f) (hi : i + 4 ≤ lL G) (hc : CL_ E G H mX7_request [.ref (lA G), .int (pq_ G i 1)] vi_ g1_ t (fX8_request t ((pq_ G i 1))) (fun _ => True)) (hk : k + 80 ≤ 601024) (hn : n + 9000 ≤ 7293033) (kk : LN_ E G Q i (k + 80) (n + 9000)) : aw E mL_law Q 512 (lvL G i) [] H k n := by
  obtain ⟨s', v, t', y, PP, hs, eB, hoa, hF, hZ, hP⟩ := hc
  have hfB : ev_fr E (lB G) := Nat.le_trans hg.1 (by have := hg.2.1; omega)
  have hfO : ev_fr E (lO G) := Nat.le_trans hg.1 (by have := hg; unfold ge_ at this; omega)
  refine aw_b (pc' := 518) (lv' := lvL G i) (st' := [.int (nI i + nI 1), .ref (lb G), .ref (lA G)]) [(512, .aload_n 1, 1, .null), (513, .aload_n 0, 1, .null), (514, .iload 5, 2, .null), (516, .iconst 1, 1, .int (nI 1)), (517, .iadd, 1, .null)] (by decide +kernel) rfl ?_
  refine aw_sld hb.1 (ib_in (sc_j hi hg.2.2.2.2.2 (by decide))) (by decide +kernel) ?_
  refine aw_b (pc' := 520) (lv' := lvL G i) (st' := [.ref (lO G), .int (pq_ G i 1), .ref (lA G)]) [(519, .aload_n 3, 1, .null)] (by decide +kernel) rfl ?_
  refine aw_csw (rest := []) (u := 1) (u6 := 6) (wL_request hX hs (hA_ hb) hfO (fun H1 q => by obtain ⟨f', q1, -⟩ := hP H1 q; exact q1.2.2.2.2.1) (fun c e => by subst e; exact hoa.2)) rfl ckL_request inL_ nmL_ lw_s_request lw_l178 lw_n_request rfl (by decide +kernel) rfl rfl rfl (Nat.le_of_ble_eq_true rfl) (by show _ ≤ 601024; omega) (by show _ ≤ 7293033; omega) (by decide +kernel) wq_r (fun r H1 _ hq => ?_)
  obtain ⟨kx, f', rfl, h1, n1, e6, hw⟩ := wq0 out_lo hg hoa hP hq
  show aw E mL_law Q 523 (lvL G i) [.int kx] H1 (k + 1) (n + 6)
  refine aw_b (pc' := 531) (lv' := (6, .int kx) :: lvL G i) (st' := [.int (nI i + nI 1), .ref (lb G), .ref (lB G)]) [(523, .istore 6, 2, .null), (525, .aload_n 2, 1, .null), (526, .aload_n 0, 1, .null), (527, .iload 5, 2, .null), (529, .iconst 1, 1, .int (nI 1)), (530, .iadd, 1, .null)] (by decide +kernel) rfl ?_
  refine aw_sld h1.1 (ib_in (sc_j hi hg.2.2.2.2.2 (by decide))) (by decide +kernel) ?_
  refine aw_cv (rest := []) (st1 := [.int y]) (lB G) 0 (kX8_request eB h1.2.2.2.1 hfB) rfl rfl ckX8_request lw_l180 h1.2.2.2.1 eo_O_0 ⟨_, _, rfl⟩ nkX8_request rfl (by decide +kernel) rfl (Nat.le_of_ble_eq_true rfl) (by show _ ≤ 601024; omega) (by show _ ≤ 7293033; omega) (by decide +kernel) (fun H2 z => ?_)
  obtain ⟨z, hn2⟩ := z
  have h2 := h1.mod hg z hn2
  have n2 := n1.kept z (by have := hg; unfold ge_ at this; omega)
  have hw := hw.kept z (Or.inr (by have := hg; unfold ge_ at this; omega))
  refine aw_b (pc' := 538) (lv' := (7, .int y) :: (6, .int kx) :: lvL G i) (st' := [.ref (lB G)]) [(535, .istore 7, 2, .null), (537, .aload_n 2, 1, .null)] (by decide +kernel) rfl ?_
  refine aw_cv (rest := []) (st1 := [.int (t' 0 6)]) (lB G) 0 (kX8_thrown rfl h2.2.2.2.1) rfl rfl ckX8_thrown lw_l167 h2.2.2.2.1 eo_O_0 ⟨_, _, rfl⟩ nkX8_thrown rfl (by decide +kernel) rfl (Nat.le_of_ble_eq_true rfl) (by show _ ≤ 601024; omega) (by show _ ≤ 7293033; omega) (by decide +kernel) (fun H3 z => ?_)
  have h3 := h2.z z
  have n3 := n2.kept z (Nat.zero_le _)
  have hw := hw.kept z (Or.inr (Nat.zero_le _))
  refine aw_b (pc' := 543) (lv' := (7, .int y) :: (6, .int kx) :: lvL G i) (st' := [.int kx, .int (t' 0 6)]) [(541, .iload 6, 2, .null)] (by decide +kernel) rfl ?_
  refine aw_ic_eq (off := 5) 548 (by decide) (by decide +kernel) (fun _ => ?_) (fun hne => absurd e6 hne)
  refine aw_b (pc' := 550) (lv' := (7, .int y) :: (6, .int kx) :: lvL G i) (st' := [.int kx]) [(548, .iload 6, 2, .null)] (by decide +kernel) rfl ?_
  have fin : aw E mL_law Q 565 ((7, .int y) :: (6, .int kx) :: lvL G i) [] H3 (k + 1) (n + 6) := by
    refine aw_b (pc' := 3097) (lv' := (7, .int y) :: (6, .int kx) :: lvL G i) (st' := []) [(565, .goto 2532, 3, .null)] (by decide +kernel) rfl ?_
    refine aw_lv (lv' := lvL G i) [2, 3, 4, 5, 6, 7] rfl ?_
    exact aw_widen (by omega) (by omega) (kk H3 s' t' f' h3 n3 hF)
  refine aw_if_ne (off := 15) 565 (by decide) (by decide +kernel) (fun _ => fin) (fun h0 => ?_)
  obtain ⟨e, q1, f0, rfl, q2⟩ := hw h0
  refine aw_b (pc' := 555) (lv' := (7, .int y) :: (6, .int kx) :: lvL G i) (st' := [.int (nI 0), .ref (lO G)]) [(553, .aload_n 3, 1, .null), (554, .iconst 0, 1, .int (nI 0))] (by decide +kernel) rfl ?_
  refine aw_lald q1 (ib_in (by decide)) (by decide +kernel) ?_
  refine aw_b (pc' := 560) (lv' := (7, .int y) :: (6, .int kx) :: lvL G i) (st' := [.int (lg_cmp (f0 (Int32.toNatClampNeg (nI 0))) ((y).toInt64))]) [(556, .iload 7, 2, .null), (558, .i2l, 1, .null), (559, .lcmp, 1, .null)] (by decide +kernel) rfl ?_
  refine aw_if_eq (off := 5) 565 (by decide) (by decide +kernel) (fun _ => fin) (fun hne => absurd ?_ hne)
  rw [lg_cmp_eq]
  exact q2
theorem lw_s_setFoe : Cond.static mL_setFoe.1 ∈ uw_ := (uw_mem 1037 (by decide +kernel) (by decide +kernel))
theorem lw_n_setFoe : nok_ mL_setFoe 3 := by decide +kernel
theorem lw_l181 : Cond.methodLink RL 181 yL_setFoe ∈ uw_ := (uw_mem 1036 (by decide +kernel) (by decide +kernel))
theorem lw_l183 : Cond.methodLink RL 183 yX8_setFoe ∈ uw_ := (uw_mem 1678 (by decide +kernel) (by decide +kernel))
set_option maxHeartbeats 4000000 in
theorem lc_7 {E : ev_} {G : lx_} {H : Heap} {s t : st_} {f : Nat → Option Nat} {i k n : Nat} {Q : po_} (hX : exo_ E) (hg : ge_ E G) (hb : LB_ E G H s t f) (hi : i + 4 ≤ lL G) (hc : CL_ E G H mX7_setFoe [.ref (lA G), .int (pq_ G i 1)] vi_ g1_ t (fX8_setFoe t ((pq_ G i 1))) (fun _ => True)) (hk : k + 80 ≤ 601024) (hn : n + 9000 ≤ 7293033) (kk : LN_ E G Q i (k + 80) (n + 9000)) : aw E mL_law Q 568 (lvL G i) [] H k n := by
  obtain ⟨s', v, t', y, PP, hs, eB, hoa, hF, hZ, hP⟩ := hc
  have hfB : ev_fr E (lB G) := Nat.le_trans hg.1 (by have := hg.2.1; omega)
  have hfO : ev_fr E (lO G) := Nat.le_trans hg.1 (by have := hg; unfold ge_ at this; omega)
  refine aw_b (pc' := 574) (lv' := lvL G i) (st' := [.int (nI i + nI 1), .ref (lb G), .ref (lA G)]) [(568, .aload_n 1, 1, .null), (569, .aload_n 0, 1, .null), (570, .iload 5, 2, .null), (572, .iconst 1, 1, .int (nI 1)), (573, .iadd, 1, .null)] (by decide +kernel) rfl ?_
  refine aw_sld hb.1 (ib_in (sc_j hi hg.2.2.2.2.2 (by decide))) (by decide +kernel) ?_
  refine aw_b (pc' := 576) (lv' := lvL G i) (st' := [.ref (lO G), .int (pq_ G i 1), .ref (lA G)]) [(575, .aload_n 3, 1, .null)] (by decide +kernel) rfl ?_
  refine aw_csw (rest := []) (u := 1) (u6 := 6) (wL_setFoe hX hs (hA_ hb) hfO (fun H1 q => by obtain ⟨f', q1, -⟩ := hP H1 q; exact q1.2.2.2.2.1) (fun c e => by subst e; exact hoa.2)) rfl ckL_setFoe inL_ nmL_ lw_s_setFoe lw_l181 lw_n_setFoe rfl (by decide +kernel) rfl rfl rfl (Nat.le_of_ble_eq_true rfl) (by show _ ≤ 601024; omega) (by show _ ≤ 7293033; omega) (by decide +kernel) wq_r (fun r H1 _ hq => ?_)
  obtain ⟨kx, f', rfl, h1, n1, e6, hw⟩ := wq0 out_lo hg hoa hP hq
  show aw E mL_law Q 579 (lvL G i) [.int kx] H1 (k + 1) (n + 6)
  refine aw_b (pc' := 587) (lv' := (6, .int kx) :: lvL G i) (st' := [.int (nI i + nI 1), .ref (lb G), .ref (lB G)]) [(579, .istore 6, 2, .null), (581, .aload_n 2, 1, .null), (582, .aload_n 0, 1, .null), (583, .iload 5, 2, .null), (585, .iconst 1, 1, .int (nI 1)), (586, .iadd, 1, .null)] (by decide +kernel) rfl ?_
  refine aw_sld h1.1 (ib_in (sc_j hi hg.2.2.2.2.2 (by decide))) (by decide +kernel) ?_
  refine aw_cv (rest := []) (st1 := [.int y]) (lB G) 0 (kX8_setFoe eB h1.2.2.2.1 hfB) rfl rfl ckX8_setFoe lw_l183 h1.2.2.2.1 eo_O_0 ⟨_, _, rfl⟩ nkX8_setFoe rfl (by decide +kernel) rfl (Nat.le_of_ble_eq_true rfl) (by show _ ≤ 601024; omega) (by show _ ≤ 7293033; omega) (by decide +kernel) (fun H2 z => ?_)
  obtain ⟨z, hn2⟩ := z
  have h2 := h1.mod hg z hn2
  have n2 := n1.kept z (by have := hg; unfold ge_ at this; omega)
  have hw := hw.kept z (Or.inr (by have := hg; unfold ge_ at this; omega))
  refine aw_b (pc' := 594) (lv' := (7, .int y) :: (6, .int kx) :: lvL G i) (st' := [.ref (lB G)]) [(591, .istore 7, 2, .null), (593, .aload_n 2, 1, .null)] (by decide +kernel) rfl ?_
  refine aw_cv (rest := []) (st1 := [.int (t' 0 6)]) (lB G) 0 (kX8_thrown rfl h2.2.2.2.1) rfl rfl ckX8_thrown lw_l167 h2.2.2.2.1 eo_O_0 ⟨_, _, rfl⟩ nkX8_thrown rfl (by decide +kernel) rfl (Nat.le_of_ble_eq_true rfl) (by show _ ≤ 601024; omega) (by show _ ≤ 7293033; omega) (by decide +kernel) (fun H3 z => ?_)
  have h3 := h2.z z
  have n3 := n2.kept z (Nat.zero_le _)
  have hw := hw.kept z (Or.inr (Nat.zero_le _))
  refine aw_b (pc' := 599) (lv' := (7, .int y) :: (6, .int kx) :: lvL G i) (st' := [.int kx, .int (t' 0 6)]) [(597, .iload 6, 2, .null)] (by decide +kernel) rfl ?_
  refine aw_ic_eq (off := 5) 604 (by decide) (by decide +kernel) (fun _ => ?_) (fun hne => absurd e6 hne)
  refine aw_b (pc' := 606) (lv' := (7, .int y) :: (6, .int kx) :: lvL G i) (st' := [.int kx]) [(604, .iload 6, 2, .null)] (by decide +kernel) rfl ?_
  have fin : aw E mL_law Q 621 ((7, .int y) :: (6, .int kx) :: lvL G i) [] H3 (k + 1) (n + 6) := by
    refine aw_b (pc' := 3097) (lv' := (7, .int y) :: (6, .int kx) :: lvL G i) (st' := []) [(621, .goto 2476, 3, .null)] (by decide +kernel) rfl ?_
    refine aw_lv (lv' := lvL G i) [2, 3, 4, 5, 6, 7] rfl ?_
    exact aw_widen (by omega) (by omega) (kk H3 s' t' f' h3 n3 hF)
  refine aw_if_ne (off := 15) 621 (by decide) (by decide +kernel) (fun _ => fin) (fun h0 => ?_)
  obtain ⟨e, q1, f0, rfl, q2⟩ := hw h0
  refine aw_b (pc' := 611) (lv' := (7, .int y) :: (6, .int kx) :: lvL G i) (st' := [.int (nI 0), .ref (lO G)]) [(609, .aload_n 3, 1, .null), (610, .iconst 0, 1, .int (nI 0))] (by decide +kernel) rfl ?_
  refine aw_lald q1 (ib_in (by decide)) (by decide +kernel) ?_
  refine aw_b (pc' := 616) (lv' := (7, .int y) :: (6, .int kx) :: lvL G i) (st' := [.int (lg_cmp (f0 (Int32.toNatClampNeg (nI 0))) ((y).toInt64))]) [(612, .iload 7, 2, .null), (614, .i2l, 1, .null), (615, .lcmp, 1, .null)] (by decide +kernel) rfl ?_
  refine aw_if_eq (off := 5) 621 (by decide) (by decide +kernel) (fun _ => fin) (fun hne => absurd ?_ hne)
  rw [lg_cmp_eq]
  exact q2
theorem lw_s_setMaster : Cond.static mL_setMaster.1 ∈ uw_ := (uw_mem 1044 (by decide +kernel) (by decide +kernel))
theorem lw_n_setMaster : nok_ mL_setMaster 4 := by decide +kernel
theorem lw_l184 : Cond.methodLink RL 184 yL_setMaster ∈ uw_ := (uw_mem 1043 (by decide +kernel) (by decide +kernel))
theorem lw_l186 : Cond.methodLink RL 186 yX8_setMaster ∈ uw_ := (uw_mem 1686 (by decide +kernel) (by decide +kernel))
set_option maxHeartbeats 4000000 in
theorem lc_8 {E : ev_} {G : lx_} {H : Heap} {s t : st_} {f : Nat → Option Nat} {i k n : Nat} {Q : po_} (hX : exo_ E) (hg : ge_ E G) (hb : LB_ E G H s t f) (hi : i + 4 ≤ lL G) (hc : CL_ E G H mX7_setMaster [.ref (lA G), .int (pq_ G i 1), .int (pq_ G i 2)] vi_ g3_ t (fX8_setMaster t ((pq_ G i 1)) ((pq_ G i 2))) (fun _ => True)) (hk : k + 80 ≤ 601024) (hn : n + 9000 ≤ 7293033) (kk : LN_ E G Q i (k + 80) (n + 9000)) : aw E mL_law Q 624 (lvL G i) [] H k n := by
  obtain ⟨s', v, t', y, PP, hs, eB, hoa, hF, hZ, hP⟩ := hc
  have hfB : ev_fr E (lB G) := Nat.le_trans hg.1 (by have := hg.2.1; omega)
  have hfO : ev_fr E (lO G) := Nat.le_trans hg.1 (by have := hg; unfold ge_ at this; omega)
  refine aw_b (pc' := 630) (lv' := lvL G i) (st' := [.int (nI i + nI 1), .ref (lb G), .ref (lA G)]) [(624, .aload_n 1, 1, .null), (625, .aload_n 0, 1, .null), (626, .iload 5, 2, .null), (628, .iconst 1, 1, .int (nI 1)), (629, .iadd, 1, .null)] (by decide +kernel) rfl ?_
  refine aw_sld hb.1 (ib_in (sc_j hi hg.2.2.2.2.2 (by decide))) (by decide +kernel) ?_
  refine aw_b (pc' := 636) (lv' := lvL G i) (st' := [.int (nI i + nI 2), .ref (lb G), .int (pq_ G i 1), .ref (lA G)]) [(631, .aload_n 0, 1, .null), (632, .iload 5, 2, .null), (634, .iconst 2, 1, .int (nI 2)), (635, .iadd, 1, .null)] (by decide +kernel) rfl ?_
  refine aw_sld hb.1 (ib_in (sc_j hi hg.2.2.2.2.2 (by decide))) (by decide +kernel) ?_
  refine aw_b (pc' := 638) (lv' := lvL G i) (st' := [.ref (lO G), .int (pq_ G i 2), .int (pq_ G i 1), .ref (lA G)]) [(637, .aload_n 3, 1, .null)] (by decide +kernel) rfl ?_
  refine aw_csw (rest := []) (u := 2) (u6 := 12) (wL_setMaster hX hs (hA_ hb) hfO (fun H1 q => by obtain ⟨f', q1, -⟩ := hP H1 q; exact q1.2.2.2.2.1) (fun c e => by subst e; exact hoa.2)) rfl ckL_setMaster inL_ nmL_ lw_s_setMaster lw_l184 lw_n_setMaster rfl (by decide +kernel) rfl rfl rfl (Nat.le_of_ble_eq_true rfl) (by show _ ≤ 601024; omega) (by show _ ≤ 7293033; omega) (by decide +kernel) wq_r (fun r H1 _ hq => ?_)
  obtain ⟨kx, f', rfl, h1, n1, e6, hw⟩ := wq0 out_lo hg hoa hP hq
  show aw E mL_law Q 641 (lvL G i) [.int kx] H1 (k + 2) (n + 12)
  refine aw_b (pc' := 649) (lv' := (6, .int kx) :: lvL G i) (st' := [.int (nI i + nI 1), .ref (lb G), .ref (lB G)]) [(641, .istore 6, 2, .null), (643, .aload_n 2, 1, .null), (644, .aload_n 0, 1, .null), (645, .iload 5, 2, .null), (647, .iconst 1, 1, .int (nI 1)), (648, .iadd, 1, .null)] (by decide +kernel) rfl ?_
  refine aw_sld h1.1 (ib_in (sc_j hi hg.2.2.2.2.2 (by decide))) (by decide +kernel) ?_
  refine aw_b (pc' := 655) (lv' := (6, .int kx) :: lvL G i) (st' := [.int (nI i + nI 2), .ref (lb G), .int (pq_ G i 1), .ref (lB G)]) [(650, .aload_n 0, 1, .null), (651, .iload 5, 2, .null), (653, .iconst 2, 1, .int (nI 2)), (654, .iadd, 1, .null)] (by decide +kernel) rfl ?_
  refine aw_sld h1.1 (ib_in (sc_j hi hg.2.2.2.2.2 (by decide))) (by decide +kernel) ?_
  refine aw_cv (rest := []) (st1 := [.int y]) (lB G) 0 (kX8_setMaster eB h1.2.2.2.1 hfB) rfl rfl ckX8_setMaster lw_l186 h1.2.2.2.1 eo_O_0 ⟨_, _, rfl⟩ nkX8_setMaster rfl (by decide +kernel) rfl (Nat.le_of_ble_eq_true rfl) (by show _ ≤ 601024; omega) (by show _ ≤ 7293033; omega) (by decide +kernel) (fun H2 z => ?_)
  obtain ⟨z, hn2⟩ := z
  have h2 := h1.mod hg z hn2
  have n2 := n1.kept z (by have := hg; unfold ge_ at this; omega)
  have hw := hw.kept z (Or.inr (by have := hg; unfold ge_ at this; omega))
  refine aw_b (pc' := 662) (lv' := (7, .int y) :: (6, .int kx) :: lvL G i) (st' := [.ref (lB G)]) [(659, .istore 7, 2, .null), (661, .aload_n 2, 1, .null)] (by decide +kernel) rfl ?_
  refine aw_cv (rest := []) (st1 := [.int (t' 0 6)]) (lB G) 0 (kX8_thrown rfl h2.2.2.2.1) rfl rfl ckX8_thrown lw_l167 h2.2.2.2.1 eo_O_0 ⟨_, _, rfl⟩ nkX8_thrown rfl (by decide +kernel) rfl (Nat.le_of_ble_eq_true rfl) (by show _ ≤ 601024; omega) (by show _ ≤ 7293033; omega) (by decide +kernel) (fun H3 z => ?_)
  have h3 := h2.z z
  have n3 := n2.kept z (Nat.zero_le _)
  have hw := hw.kept z (Or.inr (Nat.zero_le _))
  refine aw_b (pc' := 667) (lv' := (7, .int y) :: (6, .int kx) :: lvL G i) (st' := [.int kx, .int (t' 0 6)]) [(665, .iload 6, 2, .null)] (by decide +kernel) rfl ?_
  refine aw_ic_eq (off := 5) 672 (by decide) (by decide +kernel) (fun _ => ?_) (fun hne => absurd e6 hne)
  refine aw_b (pc' := 674) (lv' := (7, .int y) :: (6, .int kx) :: lvL G i) (st' := [.int kx]) [(672, .iload 6, 2, .null)] (by decide +kernel) rfl ?_
  have fin : aw E mL_law Q 689 ((7, .int y) :: (6, .int kx) :: lvL G i) [] H3 (k + 2) (n + 12) := by
    refine aw_b (pc' := 3097) (lv' := (7, .int y) :: (6, .int kx) :: lvL G i) (st' := []) [(689, .goto 2408, 3, .null)] (by decide +kernel) rfl ?_
    refine aw_lv (lv' := lvL G i) [2, 3, 4, 5, 6, 7] rfl ?_
    exact aw_widen (by omega) (by omega) (kk H3 s' t' f' h3 n3 hF)
  refine aw_if_ne (off := 15) 689 (by decide) (by decide +kernel) (fun _ => fin) (fun h0 => ?_)
  obtain ⟨e, q1, f0, rfl, q2⟩ := hw h0
  refine aw_b (pc' := 679) (lv' := (7, .int y) :: (6, .int kx) :: lvL G i) (st' := [.int (nI 0), .ref (lO G)]) [(677, .aload_n 3, 1, .null), (678, .iconst 0, 1, .int (nI 0))] (by decide +kernel) rfl ?_
  refine aw_lald q1 (ib_in (by decide)) (by decide +kernel) ?_
  refine aw_b (pc' := 684) (lv' := (7, .int y) :: (6, .int kx) :: lvL G i) (st' := [.int (lg_cmp (f0 (Int32.toNatClampNeg (nI 0))) ((y).toInt64))]) [(680, .iload 7, 2, .null), (682, .i2l, 1, .null), (683, .lcmp, 1, .null)] (by decide +kernel) rfl ?_
  refine aw_if_eq (off := 5) 689 (by decide) (by decide +kernel) (fun _ => fin) (fun hne => absurd ?_ hne)
  rw [lg_cmp_eq]
  exact q2
theorem lw_s_setEta : Cond.static mL_setEta.1 ∈ uw_ := (uw_mem 1052 (by decide +kernel) (by decide +kernel))
theorem lw_n_setEta : nok_ mL_setEta 3 := by decide +kernel
theorem lw_l187 : Cond.methodLink RL 187 yL_setEta ∈ uw_ := (uw_mem 1051 (by decide +kernel) (by decide +kernel))
theorem lw_l189 : Cond.methodLink RL 189 yX8_setEta ∈ uw_ := (uw_mem 1691 (by decide +kernel) (by decide +kernel))
set_option maxHeartbeats 4000000 in
theorem lc_9 {E : ev_} {G : lx_} {H : Heap} {s t : st_} {f : Nat → Option Nat} {i k n : Nat} {Q : po_} (hX : exo_ E) (hg : ge_ E G) (hb : LB_ E G H s t f) (hi : i + 4 ≤ lL G) (hc : CL_ E G H mX7_setEta [.ref (lA G), .int (pq_ G i 1)] vi_ g1_ t (fX8_setEta t ((pq_ G i 1))) (fun _ => True)) (hk : k + 80 ≤ 601024) (hn : n + 9000 ≤ 7293033) (kk : LN_ E G Q i (k + 80) (n + 9000)) : aw E mL_law Q 692 (lvL G i) [] H k n := by
  obtain ⟨s', v, t', y, PP, hs, eB, hoa, hF, hZ, hP⟩ := hc
  have hfB : ev_fr E (lB G) := Nat.le_trans hg.1 (by have := hg.2.1; omega)
  have hfO : ev_fr E (lO G) := Nat.le_trans hg.1 (by have := hg; unfold ge_ at this; omega)
  refine aw_b (pc' := 698) (lv' := lvL G i) (st' := [.int (nI i + nI 1), .ref (lb G), .ref (lA G)]) [(692, .aload_n 1, 1, .null), (693, .aload_n 0, 1, .null), (694, .iload 5, 2, .null), (696, .iconst 1, 1, .int (nI 1)), (697, .iadd, 1, .null)] (by decide +kernel) rfl ?_
  refine aw_sld hb.1 (ib_in (sc_j hi hg.2.2.2.2.2 (by decide))) (by decide +kernel) ?_
  refine aw_b (pc' := 700) (lv' := lvL G i) (st' := [.ref (lO G), .int (pq_ G i 1), .ref (lA G)]) [(699, .aload_n 3, 1, .null)] (by decide +kernel) rfl ?_
  refine aw_csw (rest := []) (u := 1) (u6 := 6) (wL_setEta hX hs (hA_ hb) hfO (fun H1 q => by obtain ⟨f', q1, -⟩ := hP H1 q; exact q1.2.2.2.2.1) (fun c e => by subst e; exact hoa.2)) rfl ckL_setEta inL_ nmL_ lw_s_setEta lw_l187 lw_n_setEta rfl (by decide +kernel) rfl rfl rfl (Nat.le_of_ble_eq_true rfl) (by show _ ≤ 601024; omega) (by show _ ≤ 7293033; omega) (by decide +kernel) wq_r (fun r H1 _ hq => ?_)
  obtain ⟨kx, f', rfl, h1, n1, e6, hw⟩ := wq0 out_lo hg hoa hP hq
  show aw E mL_law Q 703 (lvL G i) [.int kx] H1 (k + 1) (n + 6)
  refine aw_b (pc' := 711) (lv' := (6, .int kx) :: lvL G i) (st' := [.int (nI i + nI 1), .ref (lb G), .ref (lB G)]) [(703, .istore 6, 2, .null), (705, .aload_n 2, 1, .null), (706, .aload_n 0, 1, .null), (707, .iload 5, 2, .null), (709, .iconst 1, 1, .int (nI 1)), (710, .iadd, 1, .null)] (by decide +kernel) rfl ?_
  refine aw_sld h1.1 (ib_in (sc_j hi hg.2.2.2.2.2 (by decide))) (by decide +kernel) ?_
  refine aw_cv (rest := []) (st1 := [.int y]) (lB G) 0 (kX8_setEta eB h1.2.2.2.1 hfB) rfl rfl ckX8_setEta lw_l189 h1.2.2.2.1 eo_O_0 ⟨_, _, rfl⟩ nkX8_setEta rfl (by decide +kernel) rfl (Nat.le_of_ble_eq_true rfl) (by show _ ≤ 601024; omega) (by show _ ≤ 7293033; omega) (by decide +kernel) (fun H2 z => ?_)
  obtain ⟨z, hn2⟩ := z
  have h2 := h1.mod hg z hn2
  have n2 := n1.kept z (by have := hg; unfold ge_ at this; omega)
  have hw := hw.kept z (Or.inr (by have := hg; unfold ge_ at this; omega))
  refine aw_b (pc' := 718) (lv' := (7, .int y) :: (6, .int kx) :: lvL G i) (st' := [.ref (lB G)]) [(715, .istore 7, 2, .null), (717, .aload_n 2, 1, .null)] (by decide +kernel) rfl ?_
  refine aw_cv (rest := []) (st1 := [.int (t' 0 6)]) (lB G) 0 (kX8_thrown rfl h2.2.2.2.1) rfl rfl ckX8_thrown lw_l167 h2.2.2.2.1 eo_O_0 ⟨_, _, rfl⟩ nkX8_thrown rfl (by decide +kernel) rfl (Nat.le_of_ble_eq_true rfl) (by show _ ≤ 601024; omega) (by show _ ≤ 7293033; omega) (by decide +kernel) (fun H3 z => ?_)
  have h3 := h2.z z
  have n3 := n2.kept z (Nat.zero_le _)
  have hw := hw.kept z (Or.inr (Nat.zero_le _))
  refine aw_b (pc' := 723) (lv' := (7, .int y) :: (6, .int kx) :: lvL G i) (st' := [.int kx, .int (t' 0 6)]) [(721, .iload 6, 2, .null)] (by decide +kernel) rfl ?_
  refine aw_ic_eq (off := 5) 728 (by decide) (by decide +kernel) (fun _ => ?_) (fun hne => absurd e6 hne)
  refine aw_b (pc' := 730) (lv' := (7, .int y) :: (6, .int kx) :: lvL G i) (st' := [.int kx]) [(728, .iload 6, 2, .null)] (by decide +kernel) rfl ?_
  have fin : aw E mL_law Q 745 ((7, .int y) :: (6, .int kx) :: lvL G i) [] H3 (k + 1) (n + 6) := by
    refine aw_b (pc' := 3097) (lv' := (7, .int y) :: (6, .int kx) :: lvL G i) (st' := []) [(745, .goto 2352, 3, .null)] (by decide +kernel) rfl ?_
    refine aw_lv (lv' := lvL G i) [2, 3, 4, 5, 6, 7] rfl ?_
    exact aw_widen (by omega) (by omega) (kk H3 s' t' f' h3 n3 hF)
  refine aw_if_ne (off := 15) 745 (by decide) (by decide +kernel) (fun _ => fin) (fun h0 => ?_)
  obtain ⟨e, q1, f0, rfl, q2⟩ := hw h0
  refine aw_b (pc' := 735) (lv' := (7, .int y) :: (6, .int kx) :: lvL G i) (st' := [.int (nI 0), .ref (lO G)]) [(733, .aload_n 3, 1, .null), (734, .iconst 0, 1, .int (nI 0))] (by decide +kernel) rfl ?_
  refine aw_lald q1 (ib_in (by decide)) (by decide +kernel) ?_
  refine aw_b (pc' := 740) (lv' := (7, .int y) :: (6, .int kx) :: lvL G i) (st' := [.int (lg_cmp (f0 (Int32.toNatClampNeg (nI 0))) ((y).toInt64))]) [(736, .iload 7, 2, .null), (738, .i2l, 1, .null), (739, .lcmp, 1, .null)] (by decide +kernel) rfl ?_
  refine aw_if_eq (off := 5) 745 (by decide) (by decide +kernel) (fun _ => fin) (fun hne => absurd ?_ hne)
  rw [lg_cmp_eq]
  exact q2
theorem lw_s_setBudget : Cond.static mL_setBudget.1 ∈ uw_ := (uw_mem 1059 (by decide +kernel) (by decide +kernel))
theorem lw_n_setBudget : nok_ mL_setBudget 3 := by decide +kernel
theorem lw_l190 : Cond.methodLink RL 190 yL_setBudget ∈ uw_ := (uw_mem 1058 (by decide +kernel) (by decide +kernel))
theorem lw_l192 : Cond.methodLink RL 192 yX8_setBudget ∈ uw_ := (uw_mem 1706 (by decide +kernel) (by decide +kernel))
set_option maxHeartbeats 4000000 in
theorem lc_10 {E : ev_} {G : lx_} {H : Heap} {s t : st_} {f : Nat → Option Nat} {i k n : Nat} {Q : po_} (hX : exo_ E) (hg : ge_ E G) (hb : LB_ E G H s t f) (hi : i + 4 ≤ lL G) (hc : CL_ E G H mX7_setBudget [.ref (lA G), .int (pq_ G i 1)] vi_ g1_ t (fX8_setBudget t ((pq_ G i 1))) (fun _ => True)) (hk : k + 80 ≤ 601024) (hn : n + 9000 ≤ 7293033) (kk : LN_ E G Q i (k + 80) (n + 9000)) : aw E mL_law Q 748 (lvL G i) [] H k n := by
  obtain ⟨s', v, t', y, PP, hs, eB, hoa, hF, hZ, hP⟩ := hc
  have hfB : ev_fr E (lB G) := Nat.le_trans hg.1 (by have := hg.2.1; omega)
  have hfO : ev_fr E (lO G) := Nat.le_trans hg.1 (by have := hg; unfold ge_ at this; omega)
  refine aw_b (pc' := 754) (lv' := lvL G i) (st' := [.int (nI i + nI 1), .ref (lb G), .ref (lA G)]) [(748, .aload_n 1, 1, .null), (749, .aload_n 0, 1, .null), (750, .iload 5, 2, .null), (752, .iconst 1, 1, .int (nI 1)), (753, .iadd, 1, .null)] (by decide +kernel) rfl ?_
  refine aw_sld hb.1 (ib_in (sc_j hi hg.2.2.2.2.2 (by decide))) (by decide +kernel) ?_
  refine aw_b (pc' := 756) (lv' := lvL G i) (st' := [.ref (lO G), .int (pq_ G i 1), .ref (lA G)]) [(755, .aload_n 3, 1, .null)] (by decide +kernel) rfl ?_
  refine aw_csw (rest := []) (u := 1) (u6 := 6) (wL_setBudget hX hs (hA_ hb) hfO (fun H1 q => by obtain ⟨f', q1, -⟩ := hP H1 q; exact q1.2.2.2.2.1) (fun c e => by subst e; exact hoa.2)) rfl ckL_setBudget inL_ nmL_ lw_s_setBudget lw_l190 lw_n_setBudget rfl (by decide +kernel) rfl rfl rfl (Nat.le_of_ble_eq_true rfl) (by show _ ≤ 601024; omega) (by show _ ≤ 7293033; omega) (by decide +kernel) wq_r (fun r H1 _ hq => ?_)
  obtain ⟨kx, f', rfl, h1, n1, e6, hw⟩ := wq0 out_lo hg hoa hP hq
  show aw E mL_law Q 759 (lvL G i) [.int kx] H1 (k + 1) (n + 6)
  refine aw_b (pc' := 767) (lv' := (6, .int kx) :: lvL G i) (st' := [.int (nI i + nI 1), .ref (lb G), .ref (lB G)]) [(759, .istore 6, 2, .null), (761, .aload_n 2, 1, .null), (762, .aload_n 0, 1, .null), (763, .iload 5, 2, .null), (765, .iconst 1, 1, .int (nI 1)), (766, .iadd, 1, .null)] (by decide +kernel) rfl ?_
  refine aw_sld h1.1 (ib_in (sc_j hi hg.2.2.2.2.2 (by decide))) (by decide +kernel) ?_
  refine aw_cv (rest := []) (st1 := [.int y]) (lB G) 0 (kX8_setBudget eB h1.2.2.2.1 hfB) rfl rfl ckX8_setBudget lw_l192 h1.2.2.2.1 eo_O_0 ⟨_, _, rfl⟩ nkX8_setBudget rfl (by decide +kernel) rfl (Nat.le_of_ble_eq_true rfl) (by show _ ≤ 601024; omega) (by show _ ≤ 7293033; omega) (by decide +kernel) (fun H2 z => ?_)
  obtain ⟨z, hn2⟩ := z
  have h2 := h1.mod hg z hn2
  have n2 := n1.kept z (by have := hg; unfold ge_ at this; omega)
  have hw := hw.kept z (Or.inr (by have := hg; unfold ge_ at this; omega))
  refine aw_b (pc' := 774) (lv' := (7, .int y) :: (6, .int kx) :: lvL G i) (st' := [.ref (lB G)]) [(771, .istore 7, 2, .null), (773, .aload_n 2, 1, .null)] (by decide +kernel) rfl ?_
  refine aw_cv (rest := []) (st1 := [.int (t' 0 6)]) (lB G) 0 (kX8_thrown rfl h2.2.2.2.1) rfl rfl ckX8_thrown lw_l167 h2.2.2.2.1 eo_O_0 ⟨_, _, rfl⟩ nkX8_thrown rfl (by decide +kernel) rfl (Nat.le_of_ble_eq_true rfl) (by show _ ≤ 601024; omega) (by show _ ≤ 7293033; omega) (by decide +kernel) (fun H3 z => ?_)
  have h3 := h2.z z
  have n3 := n2.kept z (Nat.zero_le _)
  have hw := hw.kept z (Or.inr (Nat.zero_le _))
  refine aw_b (pc' := 779) (lv' := (7, .int y) :: (6, .int kx) :: lvL G i) (st' := [.int kx, .int (t' 0 6)]) [(777, .iload 6, 2, .null)] (by decide +kernel) rfl ?_
  refine aw_ic_eq (off := 5) 784 (by decide) (by decide +kernel) (fun _ => ?_) (fun hne => absurd e6 hne)
  refine aw_b (pc' := 786) (lv' := (7, .int y) :: (6, .int kx) :: lvL G i) (st' := [.int kx]) [(784, .iload 6, 2, .null)] (by decide +kernel) rfl ?_
  have fin : aw E mL_law Q 801 ((7, .int y) :: (6, .int kx) :: lvL G i) [] H3 (k + 1) (n + 6) := by
    refine aw_b (pc' := 3097) (lv' := (7, .int y) :: (6, .int kx) :: lvL G i) (st' := []) [(801, .goto 2296, 3, .null)] (by decide +kernel) rfl ?_
    refine aw_lv (lv' := lvL G i) [2, 3, 4, 5, 6, 7] rfl ?_
    exact aw_widen (by omega) (by omega) (kk H3 s' t' f' h3 n3 hF)
  refine aw_if_ne (off := 15) 801 (by decide) (by decide +kernel) (fun _ => fin) (fun h0 => ?_)
  obtain ⟨e, q1, f0, rfl, q2⟩ := hw h0
  refine aw_b (pc' := 791) (lv' := (7, .int y) :: (6, .int kx) :: lvL G i) (st' := [.int (nI 0), .ref (lO G)]) [(789, .aload_n 3, 1, .null), (790, .iconst 0, 1, .int (nI 0))] (by decide +kernel) rfl ?_
  refine aw_lald q1 (ib_in (by decide)) (by decide +kernel) ?_
  refine aw_b (pc' := 796) (lv' := (7, .int y) :: (6, .int kx) :: lvL G i) (st' := [.int (lg_cmp (f0 (Int32.toNatClampNeg (nI 0))) ((y).toInt64))]) [(792, .iload 7, 2, .null), (794, .i2l, 1, .null), (795, .lcmp, 1, .null)] (by decide +kernel) rfl ?_
  refine aw_if_eq (off := 5) 801 (by decide) (by decide +kernel) (fun _ => fin) (fun hne => absurd ?_ hne)
  rw [lg_cmp_eq]
  exact q2
theorem lw_s_setBound : Cond.static mL_setBound.1 ∈ uw_ := (uw_mem 1066 (by decide +kernel) (by decide +kernel))
theorem lw_n_setBound : nok_ mL_setBound 4 := by decide +kernel
theorem lw_l193 : Cond.methodLink RL 193 yL_setBound ∈ uw_ := (uw_mem 1065 (by decide +kernel) (by decide +kernel))
theorem lw_l195 : Cond.methodLink RL 195 yX8_setBound ∈ uw_ := (uw_mem 1696 (by decide +kernel) (by decide +kernel))
set_option maxHeartbeats 4000000 in
theorem lc_11 {E : ev_} {G : lx_} {H : Heap} {s t : st_} {f : Nat → Option Nat} {i k n : Nat} {Q : po_} (hX : exo_ E) (hg : ge_ E G) (hb : LB_ E G H s t f) (hi : i + 4 ≤ lL G) (hc : CL_ E G H mX7_setBound [.ref (lA G), .int (pq_ G i 1), .int (pq_ G i 2)] vi_ g1_ t (fX8_setBound t ((pq_ G i 1)) ((pq_ G i 2))) (fun _ => True)) (hk : k + 80 ≤ 601024) (hn : n + 9000 ≤ 7293033) (kk : LN_ E G Q i (k + 80) (n + 9000)) : aw E mL_law Q 804 (lvL G i) [] H k n := by
  obtain ⟨s', v, t', y, PP, hs, eB, hoa, hF, hZ, hP⟩ := hc
  have hfB : ev_fr E (lB G) := Nat.le_trans hg.1 (by have := hg.2.1; omega)
  have hfO : ev_fr E (lO G) := Nat.le_trans hg.1 (by have := hg; unfold ge_ at this; omega)
  refine aw_b (pc' := 810) (lv' := lvL G i) (st' := [.int (nI i + nI 1), .ref (lb G), .ref (lA G)]) [(804, .aload_n 1, 1, .null), (805, .aload_n 0, 1, .null), (806, .iload 5, 2, .null), (808, .iconst 1, 1, .int (nI 1)), (809, .iadd, 1, .null)] (by decide +kernel) rfl ?_
  refine aw_sld hb.1 (ib_in (sc_j hi hg.2.2.2.2.2 (by decide))) (by decide +kernel) ?_
  refine aw_b (pc' := 816) (lv' := lvL G i) (st' := [.int (nI i + nI 2), .ref (lb G), .int (pq_ G i 1), .ref (lA G)]) [(811, .aload_n 0, 1, .null), (812, .iload 5, 2, .null), (814, .iconst 2, 1, .int (nI 2)), (815, .iadd, 1, .null)] (by decide +kernel) rfl ?_
  refine aw_sld hb.1 (ib_in (sc_j hi hg.2.2.2.2.2 (by decide))) (by decide +kernel) ?_
  refine aw_b (pc' := 818) (lv' := lvL G i) (st' := [.ref (lO G), .int (pq_ G i 2), .int (pq_ G i 1), .ref (lA G)]) [(817, .aload_n 3, 1, .null)] (by decide +kernel) rfl ?_
  refine aw_csw (rest := []) (u := 2) (u6 := 12) (wL_setBound hX hs (hA_ hb) hfO (fun H1 q => by obtain ⟨f', q1, -⟩ := hP H1 q; exact q1.2.2.2.2.1) (fun c e => by subst e; exact hoa.2)) rfl ckL_setBound inL_ nmL_ lw_s_setBound lw_l193 lw_n_setBound rfl (by decide +kernel) rfl rfl rfl (Nat.le_of_ble_eq_true rfl) (by show _ ≤ 601024; omega) (by show _ ≤ 7293033; omega) (by decide +kernel) wq_r (fun r H1 _ hq => ?_)
  obtain ⟨kx, f', rfl, h1, n1, e6, hw⟩ := wq0 out_lo hg hoa hP hq
  show aw E mL_law Q 821 (lvL G i) [.int kx] H1 (k + 2) (n + 12)
  refine aw_b (pc' := 829) (lv' := (6, .int kx) :: lvL G i) (st' := [.int (nI i + nI 1), .ref (lb G), .ref (lB G)]) [(821, .istore 6, 2, .null), (823, .aload_n 2, 1, .null), (824, .aload_n 0, 1, .null), (825, .iload 5, 2, .null), (827, .iconst 1, 1, .int (nI 1)), (828, .iadd, 1, .null)] (by decide +kernel) rfl ?_
  refine aw_sld h1.1 (ib_in (sc_j hi hg.2.2.2.2.2 (by decide))) (by decide +kernel) ?_
  refine aw_b (pc' := 835) (lv' := (6, .int kx) :: lvL G i) (st' := [.int (nI i + nI 2), .ref (lb G), .int (pq_ G i 1), .ref (lB G)]) [(830, .aload_n 0, 1, .null), (831, .iload 5, 2, .null), (833, .iconst 2, 1, .int (nI 2)), (834, .iadd, 1, .null)] (by decide +kernel) rfl ?_
  refine aw_sld h1.1 (ib_in (sc_j hi hg.2.2.2.2.2 (by decide))) (by decide +kernel) ?_
  refine aw_cv (rest := []) (st1 := [.int y]) (lB G) 0 (kX8_setBound eB h1.2.2.2.1 hfB) rfl rfl ckX8_setBound lw_l195 h1.2.2.2.1 eo_O_0 ⟨_, _, rfl⟩ nkX8_setBound rfl (by decide +kernel) rfl (Nat.le_of_ble_eq_true rfl) (by show _ ≤ 601024; omega) (by show _ ≤ 7293033; omega) (by decide +kernel) (fun H2 z => ?_)
  obtain ⟨z, hn2⟩ := z
  have h2 := h1.mod hg z hn2
  have n2 := n1.kept z (by have := hg; unfold ge_ at this; omega)
  have hw := hw.kept z (Or.inr (by have := hg; unfold ge_ at this; omega))
  refine aw_b (pc' := 842) (lv' := (7, .int y) :: (6, .int kx) :: lvL G i) (st' := [.ref (lB G)]) [(839, .istore 7, 2, .null), (841, .aload_n 2, 1, .null)] (by decide +kernel) rfl ?_
  refine aw_cv (rest := []) (st1 := [.int (t' 0 6)]) (lB G) 0 (kX8_thrown rfl h2.2.2.2.1) rfl rfl ckX8_thrown lw_l167 h2.2.2.2.1 eo_O_0 ⟨_, _, rfl⟩ nkX8_thrown rfl (by decide +kernel) rfl (Nat.le_of_ble_eq_true rfl) (by show _ ≤ 601024; omega) (by show _ ≤ 7293033; omega) (by decide +kernel) (fun H3 z => ?_)
  have h3 := h2.z z
  have n3 := n2.kept z (Nat.zero_le _)
  have hw := hw.kept z (Or.inr (Nat.zero_le _))
  refine aw_b (pc' := 847) (lv' := (7, .int y) :: (6, .int kx) :: lvL G i) (st' := [.int kx, .int (t' 0 6)]) [(845, .iload 6, 2, .null)] (by decide +kernel) rfl ?_
  refine aw_ic_eq (off := 5) 852 (by decide) (by decide +kernel) (fun _ => ?_) (fun hne => absurd e6 hne)
  refine aw_b (pc' := 854) (lv' := (7, .int y) :: (6, .int kx) :: lvL G i) (st' := [.int kx]) [(852, .iload 6, 2, .null)] (by decide +kernel) rfl ?_
  have fin : aw E mL_law Q 869 ((7, .int y) :: (6, .int kx) :: lvL G i) [] H3 (k + 2) (n + 12) := by
    refine aw_b (pc' := 3097) (lv' := (7, .int y) :: (6, .int kx) :: lvL G i) (st' := []) [(869, .goto 2228, 3, .null)] (by decide +kernel) rfl ?_
    refine aw_lv (lv' := lvL G i) [2, 3, 4, 5, 6, 7] rfl ?_
    exact aw_widen (by omega) (by omega) (kk H3 s' t' f' h3 n3 hF)
  refine aw_if_ne (off := 15) 869 (by decide) (by decide +kernel) (fun _ => fin) (fun h0 => ?_)
  obtain ⟨e, q1, f0, rfl, q2⟩ := hw h0
  refine aw_b (pc' := 859) (lv' := (7, .int y) :: (6, .int kx) :: lvL G i) (st' := [.int (nI 0), .ref (lO G)]) [(857, .aload_n 3, 1, .null), (858, .iconst 0, 1, .int (nI 0))] (by decide +kernel) rfl ?_
  refine aw_lald q1 (ib_in (by decide)) (by decide +kernel) ?_
  refine aw_b (pc' := 864) (lv' := (7, .int y) :: (6, .int kx) :: lvL G i) (st' := [.int (lg_cmp (f0 (Int32.toNatClampNeg (nI 0))) ((y).toInt64))]) [(860, .iload 7, 2, .null), (862, .i2l, 1, .null), (863, .lcmp, 1, .null)] (by decide +kernel) rfl ?_
  refine aw_if_eq (off := 5) 869 (by decide) (by decide +kernel) (fun _ => fin) (fun hne => absurd ?_ hne)
  rw [lg_cmp_eq]
  exact q2
theorem lw_s_addAsk : Cond.static mL_addAsk.1 ∈ uw_ := (uw_mem 1074 (by decide +kernel) (by decide +kernel))
theorem lw_n_addAsk : nok_ mL_addAsk 3 := by decide +kernel
theorem lw_l196 : Cond.methodLink RL 196 yL_addAsk ∈ uw_ := (uw_mem 1073 (by decide +kernel) (by decide +kernel))
theorem lw_l198 : Cond.methodLink RL 198 yX8_addAsk ∈ uw_ := (uw_mem 1702 (by decide +kernel) (by decide +kernel))
set_option maxHeartbeats 4000000 in
theorem lc_12 {E : ev_} {G : lx_} {H : Heap} {s t : st_} {f : Nat → Option Nat} {i k n : Nat} {Q : po_} (hX : exo_ E) (hg : ge_ E G) (hb : LB_ E G H s t f) (hi : i + 4 ≤ lL G) (hc : CL_ E G H mX7_addAsk [.ref (lA G), .int (pq_ G i 1)] vi_ g1_ t (fX8_addAsk t ((pq_ G i 1))) (fun _ => True)) (hk : k + 80 ≤ 601024) (hn : n + 9000 ≤ 7293033) (kk : LN_ E G Q i (k + 80) (n + 9000)) : aw E mL_law Q 872 (lvL G i) [] H k n := by
  obtain ⟨s', v, t', y, PP, hs, eB, hoa, hF, hZ, hP⟩ := hc
  have hfB : ev_fr E (lB G) := Nat.le_trans hg.1 (by have := hg.2.1; omega)
  have hfO : ev_fr E (lO G) := Nat.le_trans hg.1 (by have := hg; unfold ge_ at this; omega)
  refine aw_b (pc' := 878) (lv' := lvL G i) (st' := [.int (nI i + nI 1), .ref (lb G), .ref (lA G)]) [(872, .aload_n 1, 1, .null), (873, .aload_n 0, 1, .null), (874, .iload 5, 2, .null), (876, .iconst 1, 1, .int (nI 1)), (877, .iadd, 1, .null)] (by decide +kernel) rfl ?_
  refine aw_sld hb.1 (ib_in (sc_j hi hg.2.2.2.2.2 (by decide))) (by decide +kernel) ?_
  refine aw_b (pc' := 880) (lv' := lvL G i) (st' := [.ref (lO G), .int (pq_ G i 1), .ref (lA G)]) [(879, .aload_n 3, 1, .null)] (by decide +kernel) rfl ?_
  refine aw_csw (rest := []) (u := 1) (u6 := 6) (wL_addAsk hX hs (hA_ hb) hfO (fun H1 q => by obtain ⟨f', q1, -⟩ := hP H1 q; exact q1.2.2.2.2.1) (fun c e => by subst e; exact hoa.2)) rfl ckL_addAsk inL_ nmL_ lw_s_addAsk lw_l196 lw_n_addAsk rfl (by decide +kernel) rfl rfl rfl (Nat.le_of_ble_eq_true rfl) (by show _ ≤ 601024; omega) (by show _ ≤ 7293033; omega) (by decide +kernel) wq_r (fun r H1 _ hq => ?_)
  obtain ⟨kx, f', rfl, h1, n1, e6, hw⟩ := wq0 out_lo hg hoa hP hq
  show aw E mL_law Q 883 (lvL G i) [.int kx] H1 (k + 1) (n + 6)
  refine aw_b (pc' := 891) (lv' := (6, .int kx) :: lvL G i) (st' := [.int (nI i + nI 1), .ref (lb G), .ref (lB G)]) [(883, .istore 6, 2, .null), (885, .aload_n 2, 1, .null), (886, .aload_n 0, 1, .null), (887, .iload 5, 2, .null), (889, .iconst 1, 1, .int (nI 1)), (890, .iadd, 1, .null)] (by decide +kernel) rfl ?_
  refine aw_sld h1.1 (ib_in (sc_j hi hg.2.2.2.2.2 (by decide))) (by decide +kernel) ?_
  refine aw_cv (rest := []) (st1 := [.int y]) (lB G) 0 (kX8_addAsk eB h1.2.2.2.1 hfB) rfl rfl ckX8_addAsk lw_l198 h1.2.2.2.1 eo_O_0 ⟨_, _, rfl⟩ nkX8_addAsk rfl (by decide +kernel) rfl (Nat.le_of_ble_eq_true rfl) (by show _ ≤ 601024; omega) (by show _ ≤ 7293033; omega) (by decide +kernel) (fun H2 z => ?_)
  obtain ⟨z, hn2⟩ := z
  have h2 := h1.mod hg z hn2
  have n2 := n1.kept z (by have := hg; unfold ge_ at this; omega)
  have hw := hw.kept z (Or.inr (by have := hg; unfold ge_ at this; omega))
  refine aw_b (pc' := 898) (lv' := (7, .int y) :: (6, .int kx) :: lvL G i) (st' := [.ref (lB G)]) [(895, .istore 7, 2, .null), (897, .aload_n 2, 1, .null)] (by decide +kernel) rfl ?_
  refine aw_cv (rest := []) (st1 := [.int (t' 0 6)]) (lB G) 0 (kX8_thrown rfl h2.2.2.2.1) rfl rfl ckX8_thrown lw_l167 h2.2.2.2.1 eo_O_0 ⟨_, _, rfl⟩ nkX8_thrown rfl (by decide +kernel) rfl (Nat.le_of_ble_eq_true rfl) (by show _ ≤ 601024; omega) (by show _ ≤ 7293033; omega) (by decide +kernel) (fun H3 z => ?_)
  have h3 := h2.z z
  have n3 := n2.kept z (Nat.zero_le _)
  have hw := hw.kept z (Or.inr (Nat.zero_le _))
  refine aw_b (pc' := 903) (lv' := (7, .int y) :: (6, .int kx) :: lvL G i) (st' := [.int kx, .int (t' 0 6)]) [(901, .iload 6, 2, .null)] (by decide +kernel) rfl ?_
  refine aw_ic_eq (off := 5) 908 (by decide) (by decide +kernel) (fun _ => ?_) (fun hne => absurd e6 hne)
  refine aw_b (pc' := 910) (lv' := (7, .int y) :: (6, .int kx) :: lvL G i) (st' := [.int kx]) [(908, .iload 6, 2, .null)] (by decide +kernel) rfl ?_
  have fin : aw E mL_law Q 925 ((7, .int y) :: (6, .int kx) :: lvL G i) [] H3 (k + 1) (n + 6) := by
    refine aw_b (pc' := 3097) (lv' := (7, .int y) :: (6, .int kx) :: lvL G i) (st' := []) [(925, .goto 2172, 3, .null)] (by decide +kernel) rfl ?_
    refine aw_lv (lv' := lvL G i) [2, 3, 4, 5, 6, 7] rfl ?_
    exact aw_widen (by omega) (by omega) (kk H3 s' t' f' h3 n3 hF)
  refine aw_if_ne (off := 15) 925 (by decide) (by decide +kernel) (fun _ => fin) (fun h0 => ?_)
  obtain ⟨e, q1, f0, rfl, q2⟩ := hw h0
  refine aw_b (pc' := 915) (lv' := (7, .int y) :: (6, .int kx) :: lvL G i) (st' := [.int (nI 0), .ref (lO G)]) [(913, .aload_n 3, 1, .null), (914, .iconst 0, 1, .int (nI 0))] (by decide +kernel) rfl ?_
  refine aw_lald q1 (ib_in (by decide)) (by decide +kernel) ?_
  refine aw_b (pc' := 920) (lv' := (7, .int y) :: (6, .int kx) :: lvL G i) (st' := [.int (lg_cmp (f0 (Int32.toNatClampNeg (nI 0))) ((y).toInt64))]) [(916, .iload 7, 2, .null), (918, .i2l, 1, .null), (919, .lcmp, 1, .null)] (by decide +kernel) rfl ?_
  refine aw_if_eq (off := 5) 925 (by decide) (by decide +kernel) (fun _ => fin) (fun hne => absurd ?_ hne)
  rw [lg_cmp_eq]
  exact q2
theorem lw_l199 : Cond.methodLink RL 199 yX7_evenWeights ∈ uw_ := (uw_mem 705 (by decide +kernel) (by decide +kernel))
theorem lw_l202 : Cond.methodLink RL 202 yX8_evenWeights ∈ uw_ := (uw_mem 1712 (by decide +kernel) (by decide +kernel))
set_option maxHeartbeats 4000000 in
theorem lc_13 {E : ev_} {G : lx_} {H : Heap} {s t : st_} {f : Nat → Option Nat} {i k n : Nat} {Q : po_} (hg : ge_ E G) (hb : LB_ E G H s t f) (hs0 : SN_ E H (lP G + 1) f t) (hi : i + 4 ≤ lL G) (hc : CV_ E H (lA G) mX7_evenWeights [.ref (lA G)] t (fX8_evenWeights t)) (hk : k + 80 ≤ 601024) (hn : n + 9000 ≤ 7293033) (kk : LN_ E G Q i (k + 80) (n + 9000)) : aw E mL_law Q 928 (lvL G i) [] H k n := by
  obtain ⟨s', v, t', hs, eB, hF, he⟩ := hc
  have hfB : ev_fr E (lB G) := Nat.le_trans hg.1 (by have := hg.2.1; omega)
  refine aw_b (pc' := 929) (lv' := lvL G i) (st' := [.ref (lA G)]) [(928, .aload_n 1, 1, .null)] (by decide +kernel) rfl ?_
  refine aw_cv (rest := []) (st1 := [.int v]) (lA G) 0 hs rfl rfl ckX7_evenWeights lw_l199 hb.2.1 eo_M_0 ⟨_, _, rfl⟩ nkX7_evenWeights rfl (by decide +kernel) rfl (Nat.le_of_ble_eq_true rfl) (by show _ ≤ 601024; omega) (by show _ ≤ 7293033; omega) (by decide +kernel) (fun H1 z => ?_)
  have h1 := hb.cls hg z.1 z.2
  have n1 := (hs0.kept z.1 (by have := hg; unfold ge_ at this; omega)).md he
  refine aw_b (pc' := 933) (lv' := lvL G i) (st' := [.ref (lB G), .int v]) [(932, .aload_n 2, 1, .null)] (by decide +kernel) rfl ?_
  refine aw_cv (rest := [.int v]) (st1 := [.int v, .int v]) (lB G) 0 (kX8_evenWeights eB h1.2.2.2.1 hfB) rfl rfl ckX8_evenWeights lw_l202 h1.2.2.2.1 eo_O_0 ⟨_, _, rfl⟩ nkX8_evenWeights rfl (by decide +kernel) rfl (Nat.le_of_ble_eq_true rfl) (by show _ ≤ 601024; omega) (by show _ ≤ 7293033; omega) (by decide +kernel) (fun H2 z => ?_)
  obtain ⟨z, hn2⟩ := z
  have h2 := h1.mod hg z hn2
  have n2 := n1.kept z (by have := hg; unfold ge_ at this; omega)
  refine aw_ic_eq (off := 2161) 3097 (by decide) (by decide +kernel) (fun _ => ?_) (fun hne => absurd rfl hne)
  exact aw_widen (by omega) (by omega) (kk H2 s' t' f h2 n2 hF)
theorem lw_s_arm : Cond.static mL_arm.1 ∈ uw_ := (uw_mem 1082 (by decide +kernel) (by decide +kernel))
theorem lw_n_arm : nok_ mL_arm 4 := by decide +kernel
theorem lw_l203 : Cond.methodLink RL 203 yL_arm ∈ uw_ := (uw_mem 1081 (by decide +kernel) (by decide +kernel))
theorem lw_l205 : Cond.methodLink RL 205 yX8_arm ∈ uw_ := (uw_mem 1716 (by decide +kernel) (by decide +kernel))
set_option maxHeartbeats 4000000 in
theorem lc_14 {E : ev_} {G : lx_} {H : Heap} {s t : st_} {f : Nat → Option Nat} {i k n : Nat} {Q : po_} (hX : exo_ E) (hg : ge_ E G) (hb : LB_ E G H s t f) (hi : i + 4 ≤ lL G) (hc : CL_ E G H mX7_arm [.ref (lA G), .int (pq_ G i 1), .int (pq_ G i 2)] vi_ g2_ t (fX8_arm t ((pq_ G i 1)) ((pq_ G i 2))) (fun _ => True)) (hk : k + 80 ≤ 601024) (hn : n + 9000 ≤ 7293033) (kk : LN_ E G Q i (k + 80) (n + 9000)) : aw E mL_law Q 941 (lvL G i) [] H k n := by
  obtain ⟨s', v, t', y, PP, hs, eB, hoa, hF, hZ, hP⟩ := hc
  have hfB : ev_fr E (lB G) := Nat.le_trans hg.1 (by have := hg.2.1; omega)
  have hfO : ev_fr E (lO G) := Nat.le_trans hg.1 (by have := hg; unfold ge_ at this; omega)
  refine aw_b (pc' := 947) (lv' := lvL G i) (st' := [.int (nI i + nI 1), .ref (lb G), .ref (lA G)]) [(941, .aload_n 1, 1, .null), (942, .aload_n 0, 1, .null), (943, .iload 5, 2, .null), (945, .iconst 1, 1, .int (nI 1)), (946, .iadd, 1, .null)] (by decide +kernel) rfl ?_
  refine aw_sld hb.1 (ib_in (sc_j hi hg.2.2.2.2.2 (by decide))) (by decide +kernel) ?_
  refine aw_b (pc' := 953) (lv' := lvL G i) (st' := [.int (nI i + nI 2), .ref (lb G), .int (pq_ G i 1), .ref (lA G)]) [(948, .aload_n 0, 1, .null), (949, .iload 5, 2, .null), (951, .iconst 2, 1, .int (nI 2)), (952, .iadd, 1, .null)] (by decide +kernel) rfl ?_
  refine aw_sld hb.1 (ib_in (sc_j hi hg.2.2.2.2.2 (by decide))) (by decide +kernel) ?_
  refine aw_b (pc' := 955) (lv' := lvL G i) (st' := [.ref (lO G), .int (pq_ G i 2), .int (pq_ G i 1), .ref (lA G)]) [(954, .aload_n 3, 1, .null)] (by decide +kernel) rfl ?_
  refine aw_csw (rest := []) (u := 2) (u6 := 12) (wL_arm hX hs (hA_ hb) hfO (fun H1 q => by obtain ⟨f', q1, -⟩ := hP H1 q; exact q1.2.2.2.2.1) (fun c e => by subst e; exact hoa.2)) rfl ckL_arm inL_ nmL_ lw_s_arm lw_l203 lw_n_arm rfl (by decide +kernel) rfl rfl rfl (Nat.le_of_ble_eq_true rfl) (by show _ ≤ 601024; omega) (by show _ ≤ 7293033; omega) (by decide +kernel) wq_r (fun r H1 _ hq => ?_)
  obtain ⟨kx, f', rfl, h1, n1, e6, hw⟩ := wq0 out_lo hg hoa hP hq
  show aw E mL_law Q 958 (lvL G i) [.int kx] H1 (k + 2) (n + 12)
  refine aw_b (pc' := 966) (lv' := (6, .int kx) :: lvL G i) (st' := [.int (nI i + nI 1), .ref (lb G), .ref (lB G)]) [(958, .istore 6, 2, .null), (960, .aload_n 2, 1, .null), (961, .aload_n 0, 1, .null), (962, .iload 5, 2, .null), (964, .iconst 1, 1, .int (nI 1)), (965, .iadd, 1, .null)] (by decide +kernel) rfl ?_
  refine aw_sld h1.1 (ib_in (sc_j hi hg.2.2.2.2.2 (by decide))) (by decide +kernel) ?_
  refine aw_b (pc' := 972) (lv' := (6, .int kx) :: lvL G i) (st' := [.int (nI i + nI 2), .ref (lb G), .int (pq_ G i 1), .ref (lB G)]) [(967, .aload_n 0, 1, .null), (968, .iload 5, 2, .null), (970, .iconst 2, 1, .int (nI 2)), (971, .iadd, 1, .null)] (by decide +kernel) rfl ?_
  refine aw_sld h1.1 (ib_in (sc_j hi hg.2.2.2.2.2 (by decide))) (by decide +kernel) ?_
  refine aw_cv (rest := []) (st1 := [.int y]) (lB G) 0 (kX8_arm eB h1.2.2.2.1 hfB) rfl rfl ckX8_arm lw_l205 h1.2.2.2.1 eo_O_0 ⟨_, _, rfl⟩ nkX8_arm rfl (by decide +kernel) rfl (Nat.le_of_ble_eq_true rfl) (by show _ ≤ 601024; omega) (by show _ ≤ 7293033; omega) (by decide +kernel) (fun H2 z => ?_)
  obtain ⟨z, hn2⟩ := z
  have h2 := h1.mod hg z hn2
  have n2 := n1.kept z (by have := hg; unfold ge_ at this; omega)
  have hw := hw.kept z (Or.inr (by have := hg; unfold ge_ at this; omega))
  refine aw_b (pc' := 979) (lv' := (7, .int y) :: (6, .int kx) :: lvL G i) (st' := [.ref (lB G)]) [(976, .istore 7, 2, .null), (978, .aload_n 2, 1, .null)] (by decide +kernel) rfl ?_
  refine aw_cv (rest := []) (st1 := [.int (t' 0 6)]) (lB G) 0 (kX8_thrown rfl h2.2.2.2.1) rfl rfl ckX8_thrown lw_l167 h2.2.2.2.1 eo_O_0 ⟨_, _, rfl⟩ nkX8_thrown rfl (by decide +kernel) rfl (Nat.le_of_ble_eq_true rfl) (by show _ ≤ 601024; omega) (by show _ ≤ 7293033; omega) (by decide +kernel) (fun H3 z => ?_)
  have h3 := h2.z z
  have n3 := n2.kept z (Nat.zero_le _)
  have hw := hw.kept z (Or.inr (Nat.zero_le _))
  refine aw_b (pc' := 984) (lv' := (7, .int y) :: (6, .int kx) :: lvL G i) (st' := [.int kx, .int (t' 0 6)]) [(982, .iload 6, 2, .null)] (by decide +kernel) rfl ?_
  refine aw_ic_eq (off := 5) 989 (by decide) (by decide +kernel) (fun _ => ?_) (fun hne => absurd e6 hne)
  refine aw_b (pc' := 991) (lv' := (7, .int y) :: (6, .int kx) :: lvL G i) (st' := [.int kx]) [(989, .iload 6, 2, .null)] (by decide +kernel) rfl ?_
  have fin : aw E mL_law Q 1006 ((7, .int y) :: (6, .int kx) :: lvL G i) [] H3 (k + 2) (n + 12) := by
    refine aw_b (pc' := 3097) (lv' := (7, .int y) :: (6, .int kx) :: lvL G i) (st' := []) [(1006, .goto 2091, 3, .null)] (by decide +kernel) rfl ?_
    refine aw_lv (lv' := lvL G i) [2, 3, 4, 5, 6, 7] rfl ?_
    exact aw_widen (by omega) (by omega) (kk H3 s' t' f' h3 n3 hF)
  refine aw_if_ne (off := 15) 1006 (by decide) (by decide +kernel) (fun _ => fin) (fun h0 => ?_)
  obtain ⟨e, q1, f0, rfl, q2⟩ := hw h0
  refine aw_b (pc' := 996) (lv' := (7, .int y) :: (6, .int kx) :: lvL G i) (st' := [.int (nI 0), .ref (lO G)]) [(994, .aload_n 3, 1, .null), (995, .iconst 0, 1, .int (nI 0))] (by decide +kernel) rfl ?_
  refine aw_lald q1 (ib_in (by decide)) (by decide +kernel) ?_
  refine aw_b (pc' := 1001) (lv' := (7, .int y) :: (6, .int kx) :: lvL G i) (st' := [.int (lg_cmp (f0 (Int32.toNatClampNeg (nI 0))) ((y).toInt64))]) [(997, .iload 7, 2, .null), (999, .i2l, 1, .null), (1000, .lcmp, 1, .null)] (by decide +kernel) rfl ?_
  refine aw_if_eq (off := 5) 1006 (by decide) (by decide +kernel) (fun _ => fin) (fun hne => absurd ?_ hne)
  rw [lg_cmp_eq]
  exact q2
theorem lw_s_waiting : Cond.static mL_waiting.1 ∈ uw_ := (uw_mem 1099 (by decide +kernel) (by decide +kernel))
theorem lw_n_waiting : nok_ mL_waiting 5 := by decide +kernel
theorem lw_l206 : Cond.methodLink RL 206 yL_waiting ∈ uw_ := (uw_mem 1098 (by decide +kernel) (by decide +kernel))
theorem lw_l209 : Cond.methodLink RL 209 yX8_waiting ∈ uw_ := (uw_mem 1728 (by decide +kernel) (by decide +kernel))
set_option maxHeartbeats 4000000 in
theorem lc_15 {E : ev_} {G : lx_} {H : Heap} {s t : st_} {f : Nat → Option Nat} {i k n : Nat} {Q : po_} (hX : exo_ E) (hg : ge_ E G) (hb : LB_ E G H s t f) (hi : i + 4 ≤ lL G) (hc : CL_ E G H mX7_waiting [.ref (lA G), .int (pq_ G i 1), .int (pq_ G i 2), .int (pq_ G i 3)] vi_ g2_ t (fX8_waiting t ((pq_ G i 1)) ((pq_ G i 2)) ((pq_ G i 3))) (fun _ => True)) (hk : k + 80 ≤ 601024) (hn : n + 9000 ≤ 7293033) (kk : LN_ E G Q i (k + 80) (n + 9000)) : aw E mL_law Q 1009 (lvL G i) [] H k n := by
  obtain ⟨s', v, t', y, PP, hs, eB, hoa, hF, hZ, hP⟩ := hc
  have hfB : ev_fr E (lB G) := Nat.le_trans hg.1 (by have := hg.2.1; omega)
  have hfO : ev_fr E (lO G) := Nat.le_trans hg.1 (by have := hg; unfold ge_ at this; omega)
  refine aw_b (pc' := 1015) (lv' := lvL G i) (st' := [.int (nI i + nI 1), .ref (lb G), .ref (lA G)]) [(1009, .aload_n 1, 1, .null), (1010, .aload_n 0, 1, .null), (1011, .iload 5, 2, .null), (1013, .iconst 1, 1, .int (nI 1)), (1014, .iadd, 1, .null)] (by decide +kernel) rfl ?_
  refine aw_sld hb.1 (ib_in (sc_j hi hg.2.2.2.2.2 (by decide))) (by decide +kernel) ?_
  refine aw_b (pc' := 1021) (lv' := lvL G i) (st' := [.int (nI i + nI 2), .ref (lb G), .int (pq_ G i 1), .ref (lA G)]) [(1016, .aload_n 0, 1, .null), (1017, .iload 5, 2, .null), (1019, .iconst 2, 1, .int (nI 2)), (1020, .iadd, 1, .null)] (by decide +kernel) rfl ?_
  refine aw_sld hb.1 (ib_in (sc_j hi hg.2.2.2.2.2 (by decide))) (by decide +kernel) ?_
  refine aw_b (pc' := 1027) (lv' := lvL G i) (st' := [.int (nI i + nI 3), .ref (lb G), .int (pq_ G i 2), .int (pq_ G i 1), .ref (lA G)]) [(1022, .aload_n 0, 1, .null), (1023, .iload 5, 2, .null), (1025, .iconst 3, 1, .int (nI 3)), (1026, .iadd, 1, .null)] (by decide +kernel) rfl ?_
  refine aw_sld hb.1 (ib_in (sc_j hi hg.2.2.2.2.2 (by decide))) (by decide +kernel) ?_
  refine aw_b (pc' := 1029) (lv' := lvL G i) (st' := [.ref (lO G), .int (pq_ G i 3), .int (pq_ G i 2), .int (pq_ G i 1), .ref (lA G)]) [(1028, .aload_n 3, 1, .null)] (by decide +kernel) rfl ?_
  refine aw_csw (rest := []) (u := 2) (u6 := 12) (wL_waiting hX hs (hA_ hb) hfO (fun H1 q => by obtain ⟨f', q1, -⟩ := hP H1 q; exact q1.2.2.2.2.1) (fun c e => by subst e; exact hoa.2)) rfl ckL_waiting inL_ nmL_ lw_s_waiting lw_l206 lw_n_waiting rfl (by decide +kernel) rfl rfl rfl (Nat.le_of_ble_eq_true rfl) (by show _ ≤ 601024; omega) (by show _ ≤ 7293033; omega) (by decide +kernel) wq_r (fun r H1 _ hq => ?_)
  obtain ⟨kx, f', rfl, h1, n1, e6, hw⟩ := wq0 out_lo hg hoa hP hq
  show aw E mL_law Q 1032 (lvL G i) [.int kx] H1 (k + 2) (n + 12)
  refine aw_b (pc' := 1040) (lv' := (6, .int kx) :: lvL G i) (st' := [.int (nI i + nI 1), .ref (lb G), .ref (lB G)]) [(1032, .istore 6, 2, .null), (1034, .aload_n 2, 1, .null), (1035, .aload_n 0, 1, .null), (1036, .iload 5, 2, .null), (1038, .iconst 1, 1, .int (nI 1)), (1039, .iadd, 1, .null)] (by decide +kernel) rfl ?_
  refine aw_sld h1.1 (ib_in (sc_j hi hg.2.2.2.2.2 (by decide))) (by decide +kernel) ?_
  refine aw_b (pc' := 1046) (lv' := (6, .int kx) :: lvL G i) (st' := [.int (nI i + nI 2), .ref (lb G), .int (pq_ G i 1), .ref (lB G)]) [(1041, .aload_n 0, 1, .null), (1042, .iload 5, 2, .null), (1044, .iconst 2, 1, .int (nI 2)), (1045, .iadd, 1, .null)] (by decide +kernel) rfl ?_
  refine aw_sld h1.1 (ib_in (sc_j hi hg.2.2.2.2.2 (by decide))) (by decide +kernel) ?_
  refine aw_b (pc' := 1052) (lv' := (6, .int kx) :: lvL G i) (st' := [.int (nI i + nI 3), .ref (lb G), .int (pq_ G i 2), .int (pq_ G i 1), .ref (lB G)]) [(1047, .aload_n 0, 1, .null), (1048, .iload 5, 2, .null), (1050, .iconst 3, 1, .int (nI 3)), (1051, .iadd, 1, .null)] (by decide +kernel) rfl ?_
  refine aw_sld h1.1 (ib_in (sc_j hi hg.2.2.2.2.2 (by decide))) (by decide +kernel) ?_
  refine aw_cv (rest := []) (st1 := [.int y]) (lB G) 0 (kX8_waiting eB h1.2.2.2.1 hfB) rfl rfl ckX8_waiting lw_l209 h1.2.2.2.1 eo_O_0 ⟨_, _, rfl⟩ nkX8_waiting rfl (by decide +kernel) rfl (Nat.le_of_ble_eq_true rfl) (by show _ ≤ 601024; omega) (by show _ ≤ 7293033; omega) (by decide +kernel) (fun H2 z => ?_)
  obtain ⟨z, hn2⟩ := z
  have h2 := h1.mod hg z hn2
  have n2 := n1.kept z (by have := hg; unfold ge_ at this; omega)
  have hw := hw.kept z (Or.inr (by have := hg; unfold ge_ at this; omega))
  refine aw_b (pc' := 1059) (lv' := (7, .int y) :: (6, .int kx) :: lvL G i) (st' := [.ref (lB G)]) [(1056, .istore 7, 2, .null), (1058, .aload_n 2, 1, .null)] (by decide +kernel) rfl ?_
  refine aw_cv (rest := []) (st1 := [.int (t' 0 6)]) (lB G) 0 (kX8_thrown rfl h2.2.2.2.1) rfl rfl ckX8_thrown lw_l167 h2.2.2.2.1 eo_O_0 ⟨_, _, rfl⟩ nkX8_thrown rfl (by decide +kernel) rfl (Nat.le_of_ble_eq_true rfl) (by show _ ≤ 601024; omega) (by show _ ≤ 7293033; omega) (by decide +kernel) (fun H3 z => ?_)
  have h3 := h2.z z
  have n3 := n2.kept z (Nat.zero_le _)
  have hw := hw.kept z (Or.inr (Nat.zero_le _))
  refine aw_b (pc' := 1064) (lv' := (7, .int y) :: (6, .int kx) :: lvL G i) (st' := [.int kx, .int (t' 0 6)]) [(1062, .iload 6, 2, .null)] (by decide +kernel) rfl ?_
  refine aw_ic_eq (off := 5) 1069 (by decide) (by decide +kernel) (fun _ => ?_) (fun hne => absurd e6 hne)
  refine aw_b (pc' := 1071) (lv' := (7, .int y) :: (6, .int kx) :: lvL G i) (st' := [.int kx]) [(1069, .iload 6, 2, .null)] (by decide +kernel) rfl ?_
  have fin : aw E mL_law Q 1086 ((7, .int y) :: (6, .int kx) :: lvL G i) [] H3 (k + 2) (n + 12) := by
    refine aw_b (pc' := 3097) (lv' := (7, .int y) :: (6, .int kx) :: lvL G i) (st' := []) [(1086, .goto 2011, 3, .null)] (by decide +kernel) rfl ?_
    refine aw_lv (lv' := lvL G i) [2, 3, 4, 5, 6, 7] rfl ?_
    exact aw_widen (by omega) (by omega) (kk H3 s' t' f' h3 n3 hF)
  refine aw_if_ne (off := 15) 1086 (by decide) (by decide +kernel) (fun _ => fin) (fun h0 => ?_)
  obtain ⟨e, q1, f0, rfl, q2⟩ := hw h0
  refine aw_b (pc' := 1076) (lv' := (7, .int y) :: (6, .int kx) :: lvL G i) (st' := [.int (nI 0), .ref (lO G)]) [(1074, .aload_n 3, 1, .null), (1075, .iconst 0, 1, .int (nI 0))] (by decide +kernel) rfl ?_
  refine aw_lald q1 (ib_in (by decide)) (by decide +kernel) ?_
  refine aw_b (pc' := 1081) (lv' := (7, .int y) :: (6, .int kx) :: lvL G i) (st' := [.int (lg_cmp (f0 (Int32.toNatClampNeg (nI 0))) ((y).toInt64))]) [(1077, .iload 7, 2, .null), (1079, .i2l, 1, .null), (1080, .lcmp, 1, .null)] (by decide +kernel) rfl ?_
  refine aw_if_eq (off := 5) 1086 (by decide) (by decide +kernel) (fun _ => fin) (fun hne => absurd ?_ hne)
  rw [lg_cmp_eq]
  exact q2
theorem lw_s_wouldServe : Cond.static mL_wouldServe.1 ∈ uw_ := (uw_mem 1106 (by decide +kernel) (by decide +kernel))
theorem lw_n_wouldServe : nok_ mL_wouldServe 4 := by decide +kernel
theorem lw_l210 : Cond.methodLink RL 210 yL_wouldServe ∈ uw_ := (uw_mem 1105 (by decide +kernel) (by decide +kernel))
theorem lw_l212 : Cond.methodLink RL 212 yX8_wouldServe ∈ uw_ := (uw_mem 1732 (by decide +kernel) (by decide +kernel))
set_option maxHeartbeats 4000000 in
theorem lc_16 {E : ev_} {G : lx_} {H : Heap} {s t : st_} {f : Nat → Option Nat} {i k n : Nat} {Q : po_} (hX : exo_ E) (hg : ge_ E G) (hb : LB_ E G H s t f) (hi : i + 4 ≤ lL G) (hc : CL_ E G H mX7_wouldServe [.ref (lA G), .int (pq_ G i 1), .int (pq_ G i 2)] vi_ g1i_ t (fX8_wouldServe t ((pq_ G i 1)) ((pq_ G i 2))) (fun _ => True)) (hk : k + 80 ≤ 601024) (hn : n + 9000 ≤ 7293033) (kk : LN_ E G Q i (k + 80) (n + 9000)) : aw E mL_law Q 1089 (lvL G i) [] H k n := by
  obtain ⟨s', v, t', y, PP, hs, eB, hoa, hF, hZ, hP⟩ := hc
  have hfB : ev_fr E (lB G) := Nat.le_trans hg.1 (by have := hg.2.1; omega)
  have hfO : ev_fr E (lO G) := Nat.le_trans hg.1 (by have := hg; unfold ge_ at this; omega)
  refine aw_b (pc' := 1095) (lv' := lvL G i) (st' := [.int (nI i + nI 1), .ref (lb G), .ref (lA G)]) [(1089, .aload_n 1, 1, .null), (1090, .aload_n 0, 1, .null), (1091, .iload 5, 2, .null), (1093, .iconst 1, 1, .int (nI 1)), (1094, .iadd, 1, .null)] (by decide +kernel) rfl ?_
  refine aw_sld hb.1 (ib_in (sc_j hi hg.2.2.2.2.2 (by decide))) (by decide +kernel) ?_
  refine aw_b (pc' := 1101) (lv' := lvL G i) (st' := [.int (nI i + nI 2), .ref (lb G), .int (pq_ G i 1), .ref (lA G)]) [(1096, .aload_n 0, 1, .null), (1097, .iload 5, 2, .null), (1099, .iconst 2, 1, .int (nI 2)), (1100, .iadd, 1, .null)] (by decide +kernel) rfl ?_
  refine aw_sld hb.1 (ib_in (sc_j hi hg.2.2.2.2.2 (by decide))) (by decide +kernel) ?_
  refine aw_b (pc' := 1103) (lv' := lvL G i) (st' := [.ref (lO G), .int (pq_ G i 2), .int (pq_ G i 1), .ref (lA G)]) [(1102, .aload_n 3, 1, .null)] (by decide +kernel) rfl ?_
  refine aw_csw (rest := []) (u := 2) (u6 := 12) (wL_wouldServe hX hs (hA_ hb) hfO (fun H1 q => by obtain ⟨f', q1, -⟩ := hP H1 q; exact q1.2.2.2.2.1) (fun c e => by subst e; exact hoa.2)) rfl ckL_wouldServe inL_ nmL_ lw_s_wouldServe lw_l210 lw_n_wouldServe rfl (by decide +kernel) rfl rfl rfl (Nat.le_of_ble_eq_true rfl) (by show _ ≤ 601024; omega) (by show _ ≤ 7293033; omega) (by decide +kernel) wq_r (fun r H1 _ hq => ?_)
  obtain ⟨kx, f', rfl, h1, n1, e6, hw⟩ := wq0 out_lo hg hoa hP hq
  show aw E mL_law Q 1106 (lvL G i) [.int kx] H1 (k + 2) (n + 12)
  refine aw_b (pc' := 1114) (lv' := (6, .int kx) :: lvL G i) (st' := [.int (nI i + nI 1), .ref (lb G), .ref (lB G)]) [(1106, .istore 6, 2, .null), (1108, .aload_n 2, 1, .null), (1109, .aload_n 0, 1, .null), (1110, .iload 5, 2, .null), (1112, .iconst 1, 1, .int (nI 1)), (1113, .iadd, 1, .null)] (by decide +kernel) rfl ?_
  refine aw_sld h1.1 (ib_in (sc_j hi hg.2.2.2.2.2 (by decide))) (by decide +kernel) ?_
  refine aw_b (pc' := 1120) (lv' := (6, .int kx) :: lvL G i) (st' := [.int (nI i + nI 2), .ref (lb G), .int (pq_ G i 1), .ref (lB G)]) [(1115, .aload_n 0, 1, .null), (1116, .iload 5, 2, .null), (1118, .iconst 2, 1, .int (nI 2)), (1119, .iadd, 1, .null)] (by decide +kernel) rfl ?_
  refine aw_sld h1.1 (ib_in (sc_j hi hg.2.2.2.2.2 (by decide))) (by decide +kernel) ?_
  refine aw_cv (rest := []) (st1 := [.int y]) (lB G) 0 (kX8_wouldServe eB h1.2.2.2.1 hfB) rfl rfl ckX8_wouldServe lw_l212 h1.2.2.2.1 eo_O_0 ⟨_, _, rfl⟩ nkX8_wouldServe rfl (by decide +kernel) rfl (Nat.le_of_ble_eq_true rfl) (by show _ ≤ 601024; omega) (by show _ ≤ 7293033; omega) (by decide +kernel) (fun H2 z => ?_)
  obtain ⟨z, hn2⟩ := z
  have h2 := h1.mod hg z hn2
  have n2 := n1.kept z (by have := hg; unfold ge_ at this; omega)
  have hw := hw.kept z (Or.inr (by have := hg; unfold ge_ at this; omega))
  refine aw_b (pc' := 1127) (lv' := (7, .int y) :: (6, .int kx) :: lvL G i) (st' := [.ref (lB G)]) [(1124, .istore 7, 2, .null), (1126, .aload_n 2, 1, .null)] (by decide +kernel) rfl ?_
  refine aw_cv (rest := []) (st1 := [.int (t' 0 6)]) (lB G) 0 (kX8_thrown rfl h2.2.2.2.1) rfl rfl ckX8_thrown lw_l167 h2.2.2.2.1 eo_O_0 ⟨_, _, rfl⟩ nkX8_thrown rfl (by decide +kernel) rfl (Nat.le_of_ble_eq_true rfl) (by show _ ≤ 601024; omega) (by show _ ≤ 7293033; omega) (by decide +kernel) (fun H3 z => ?_)
  have h3 := h2.z z
  have n3 := n2.kept z (Nat.zero_le _)
  have hw := hw.kept z (Or.inr (Nat.zero_le _))
  refine aw_b (pc' := 1132) (lv' := (7, .int y) :: (6, .int kx) :: lvL G i) (st' := [.int kx, .int (t' 0 6)]) [(1130, .iload 6, 2, .null)] (by decide +kernel) rfl ?_
  refine aw_ic_eq (off := 5) 1137 (by decide) (by decide +kernel) (fun _ => ?_) (fun hne => absurd e6 hne)
  refine aw_b (pc' := 1139) (lv' := (7, .int y) :: (6, .int kx) :: lvL G i) (st' := [.int kx]) [(1137, .iload 6, 2, .null)] (by decide +kernel) rfl ?_
  have fin : aw E mL_law Q 1154 ((7, .int y) :: (6, .int kx) :: lvL G i) [] H3 (k + 2) (n + 12) := by
    refine aw_b (pc' := 3097) (lv' := (7, .int y) :: (6, .int kx) :: lvL G i) (st' := []) [(1154, .goto 1943, 3, .null)] (by decide +kernel) rfl ?_
    refine aw_lv (lv' := lvL G i) [2, 3, 4, 5, 6, 7] rfl ?_
    exact aw_widen (by omega) (by omega) (kk H3 s' t' f' h3 n3 hF)
  refine aw_if_ne (off := 15) 1154 (by decide) (by decide +kernel) (fun _ => fin) (fun h0 => ?_)
  obtain ⟨e, q1, f0, rfl, q2⟩ := hw h0
  refine aw_b (pc' := 1144) (lv' := (7, .int y) :: (6, .int kx) :: lvL G i) (st' := [.int (nI 0), .ref (lO G)]) [(1142, .aload_n 3, 1, .null), (1143, .iconst 0, 1, .int (nI 0))] (by decide +kernel) rfl ?_
  refine aw_lald q1 (ib_in (by decide)) (by decide +kernel) ?_
  refine aw_b (pc' := 1149) (lv' := (7, .int y) :: (6, .int kx) :: lvL G i) (st' := [.int (lg_cmp (f0 (Int32.toNatClampNeg (nI 0))) ((y).toInt64))]) [(1145, .iload 7, 2, .null), (1147, .i2l, 1, .null), (1148, .lcmp, 1, .null)] (by decide +kernel) rfl ?_
  refine aw_if_eq (off := 5) 1154 (by decide) (by decide +kernel) (fun _ => fin) (fun hne => absurd ?_ hne)
  rw [lg_cmp_eq]
  exact q2
theorem lw_s_optimum : Cond.static mL_optimum.1 ∈ uw_ := (uw_mem 1114 (by decide +kernel) (by decide +kernel))
theorem lw_n_optimum : nok_ mL_optimum 3 := by decide +kernel
theorem lw_l213 : Cond.methodLink RL 213 yL_optimum ∈ uw_ := (uw_mem 1113 (by decide +kernel) (by decide +kernel))
theorem lw_l215 : Cond.methodLink RL 215 yX8_optimum ∈ uw_ := (uw_mem 1912 (by decide +kernel) (by decide +kernel))
set_option maxHeartbeats 4000000 in
theorem lc_17 {E : ev_} {G : lx_} {H : Heap} {s t : st_} {f : Nat → Option Nat} {i k n : Nat} {Q : po_} (hX : exo_ E) (hg : ge_ E G) (hb : LB_ E G H s t f) (hi : i + 4 ≤ lL G) (hc : CL_ E G H mX7_optimum [.ref (lA G), .int (pq_ G i 1)] vi_ g1_ t (fX8_optimum t ((pq_ G i 1))) (fun _ => True)) (hk : k + 80 ≤ 601024) (hn : n + 9000 ≤ 7293033) (kk : LN_ E G Q i (k + 80) (n + 9000)) : aw E mL_law Q 1157 (lvL G i) [] H k n := by
  obtain ⟨s', v, t', y, PP, hs, eB, hoa, hF, hZ, hP⟩ := hc
  have hfB : ev_fr E (lB G) := Nat.le_trans hg.1 (by have := hg.2.1; omega)
  have hfO : ev_fr E (lO G) := Nat.le_trans hg.1 (by have := hg; unfold ge_ at this; omega)
  refine aw_b (pc' := 1163) (lv' := lvL G i) (st' := [.int (nI i + nI 1), .ref (lb G), .ref (lA G)]) [(1157, .aload_n 1, 1, .null), (1158, .aload_n 0, 1, .null), (1159, .iload 5, 2, .null), (1161, .iconst 1, 1, .int (nI 1)), (1162, .iadd, 1, .null)] (by decide +kernel) rfl ?_
  refine aw_sld hb.1 (ib_in (sc_j hi hg.2.2.2.2.2 (by decide))) (by decide +kernel) ?_
  refine aw_b (pc' := 1165) (lv' := lvL G i) (st' := [.ref (lO G), .int (pq_ G i 1), .ref (lA G)]) [(1164, .aload_n 3, 1, .null)] (by decide +kernel) rfl ?_
  refine aw_csw (rest := []) (u := 1) (u6 := 6) (wL_optimum hX hs (hA_ hb) hfO (fun H1 q => by obtain ⟨f', q1, -⟩ := hP H1 q; exact q1.2.2.2.2.1) (fun c e => by subst e; exact hoa.2)) rfl ckL_optimum inL_ nmL_ lw_s_optimum lw_l213 lw_n_optimum rfl (by decide +kernel) rfl rfl rfl (Nat.le_of_ble_eq_true rfl) (by show _ ≤ 601024; omega) (by show _ ≤ 7293033; omega) (by decide +kernel) wq_r (fun r H1 _ hq => ?_)
  obtain ⟨kx, f', rfl, h1, n1, e6, hw⟩ := wq0 out_lo hg hoa hP hq
  show aw E mL_law Q 1168 (lvL G i) [.int kx] H1 (k + 1) (n + 6)
  refine aw_b (pc' := 1176) (lv' := (6, .int kx) :: lvL G i) (st' := [.int (nI i + nI 1), .ref (lb G), .ref (lB G)]) [(1168, .istore 6, 2, .null), (1170, .aload_n 2, 1, .null), (1171, .aload_n 0, 1, .null), (1172, .iload 5, 2, .null), (1174, .iconst 1, 1, .int (nI 1)), (1175, .iadd, 1, .null)] (by decide +kernel) rfl ?_
  refine aw_sld h1.1 (ib_in (sc_j hi hg.2.2.2.2.2 (by decide))) (by decide +kernel) ?_
  refine aw_cv (rest := []) (st1 := [.int y]) (lB G) 0 (kX8_optimum eB h1.2.2.2.1 hfB) rfl rfl ckX8_optimum lw_l215 h1.2.2.2.1 eo_O_0 ⟨_, _, rfl⟩ nkX8_optimum rfl (by decide +kernel) rfl (Nat.le_of_ble_eq_true rfl) (by show _ ≤ 601024; omega) (by show _ ≤ 7293033; omega) (by decide +kernel) (fun H2 z => ?_)
  obtain ⟨z, hn2⟩ := z
  have h2 := h1.mod hg z hn2
  have n2 := n1.kept z (by have := hg; unfold ge_ at this; omega)
  have hw := hw.kept z (Or.inr (by have := hg; unfold ge_ at this; omega))
  refine aw_b (pc' := 1183) (lv' := (7, .int y) :: (6, .int kx) :: lvL G i) (st' := [.ref (lB G)]) [(1180, .istore 7, 2, .null), (1182, .aload_n 2, 1, .null)] (by decide +kernel) rfl ?_
  refine aw_cv (rest := []) (st1 := [.int (t' 0 6)]) (lB G) 0 (kX8_thrown rfl h2.2.2.2.1) rfl rfl ckX8_thrown lw_l167 h2.2.2.2.1 eo_O_0 ⟨_, _, rfl⟩ nkX8_thrown rfl (by decide +kernel) rfl (Nat.le_of_ble_eq_true rfl) (by show _ ≤ 601024; omega) (by show _ ≤ 7293033; omega) (by decide +kernel) (fun H3 z => ?_)
  have h3 := h2.z z
  have n3 := n2.kept z (Nat.zero_le _)
  have hw := hw.kept z (Or.inr (Nat.zero_le _))
  refine aw_b (pc' := 1188) (lv' := (7, .int y) :: (6, .int kx) :: lvL G i) (st' := [.int kx, .int (t' 0 6)]) [(1186, .iload 6, 2, .null)] (by decide +kernel) rfl ?_
  refine aw_ic_eq (off := 5) 1193 (by decide) (by decide +kernel) (fun _ => ?_) (fun hne => absurd e6 hne)
  refine aw_b (pc' := 1195) (lv' := (7, .int y) :: (6, .int kx) :: lvL G i) (st' := [.int kx]) [(1193, .iload 6, 2, .null)] (by decide +kernel) rfl ?_
  have fin : aw E mL_law Q 1210 ((7, .int y) :: (6, .int kx) :: lvL G i) [] H3 (k + 1) (n + 6) := by
    refine aw_b (pc' := 3097) (lv' := (7, .int y) :: (6, .int kx) :: lvL G i) (st' := []) [(1210, .goto 1887, 3, .null)] (by decide +kernel) rfl ?_
    refine aw_lv (lv' := lvL G i) [2, 3, 4, 5, 6, 7] rfl ?_
    exact aw_widen (by omega) (by omega) (kk H3 s' t' f' h3 n3 hF)
  refine aw_if_ne (off := 15) 1210 (by decide) (by decide +kernel) (fun _ => fin) (fun h0 => ?_)
  obtain ⟨e, q1, f0, rfl, q2⟩ := hw h0
  refine aw_b (pc' := 1200) (lv' := (7, .int y) :: (6, .int kx) :: lvL G i) (st' := [.int (nI 0), .ref (lO G)]) [(1198, .aload_n 3, 1, .null), (1199, .iconst 0, 1, .int (nI 0))] (by decide +kernel) rfl ?_
  refine aw_lald q1 (ib_in (by decide)) (by decide +kernel) ?_
  refine aw_b (pc' := 1205) (lv' := (7, .int y) :: (6, .int kx) :: lvL G i) (st' := [.int (lg_cmp (f0 (Int32.toNatClampNeg (nI 0))) ((y).toInt64))]) [(1201, .iload 7, 2, .null), (1203, .i2l, 1, .null), (1204, .lcmp, 1, .null)] (by decide +kernel) rfl ?_
  refine aw_if_eq (off := 5) 1210 (by decide) (by decide +kernel) (fun _ => fin) (fun hne => absurd ?_ hne)
  rw [lg_cmp_eq]
  exact q2
theorem lw_s_optimumAt : Cond.static mL_optimumAt.1 ∈ uw_ := (uw_mem 1140 (by decide +kernel) (by decide +kernel))
theorem lw_n_optimumAt : nok_ mL_optimumAt 4 := by decide +kernel
theorem lw_l216 : Cond.methodLink RL 216 yL_optimumAt ∈ uw_ := (uw_mem 1139 (by decide +kernel) (by decide +kernel))
theorem lw_l218 : Cond.methodLink RL 218 yX8_optimumAt ∈ uw_ := (uw_mem 1938 (by decide +kernel) (by decide +kernel))
set_option maxHeartbeats 4000000 in
theorem lc_18 {E : ev_} {G : lx_} {H : Heap} {s t : st_} {f : Nat → Option Nat} {i k n : Nat} {Q : po_} (hX : exo_ E) (hg : ge_ E G) (hb : LB_ E G H s t f) (hi : i + 4 ≤ lL G) (hc : CL_ E G H mX7_optimumAt [.ref (lA G), .int (pq_ G i 1), .int (pq_ G i 2)] vi_ g1_ t (fX8_optimumAt t ((pq_ G i 1)) ((pq_ G i 2))) (fun _ => True)) (hk : k + 80 ≤ 601024) (hn : n + 9000 ≤ 7293033) (kk : LN_ E G Q i (k + 80) (n + 9000)) : aw E mL_law Q 1213 (lvL G i) [] H k n := by
  obtain ⟨s', v, t', y, PP, hs, eB, hoa, hF, hZ, hP⟩ := hc
  have hfB : ev_fr E (lB G) := Nat.le_trans hg.1 (by have := hg.2.1; omega)
  have hfO : ev_fr E (lO G) := Nat.le_trans hg.1 (by have := hg; unfold ge_ at this; omega)
  refine aw_b (pc' := 1219) (lv' := lvL G i) (st' := [.int (nI i + nI 1), .ref (lb G), .ref (lA G)]) [(1213, .aload_n 1, 1, .null), (1214, .aload_n 0, 1, .null), (1215, .iload 5, 2, .null), (1217, .iconst 1, 1, .int (nI 1)), (1218, .iadd, 1, .null)] (by decide +kernel) rfl ?_
  refine aw_sld hb.1 (ib_in (sc_j hi hg.2.2.2.2.2 (by decide))) (by decide +kernel) ?_
  refine aw_b (pc' := 1225) (lv' := lvL G i) (st' := [.int (nI i + nI 2), .ref (lb G), .int (pq_ G i 1), .ref (lA G)]) [(1220, .aload_n 0, 1, .null), (1221, .iload 5, 2, .null), (1223, .iconst 2, 1, .int (nI 2)), (1224, .iadd, 1, .null)] (by decide +kernel) rfl ?_
  refine aw_sld hb.1 (ib_in (sc_j hi hg.2.2.2.2.2 (by decide))) (by decide +kernel) ?_
  refine aw_b (pc' := 1227) (lv' := lvL G i) (st' := [.ref (lO G), .int (pq_ G i 2), .int (pq_ G i 1), .ref (lA G)]) [(1226, .aload_n 3, 1, .null)] (by decide +kernel) rfl ?_
  refine aw_csw (rest := []) (u := 1) (u6 := 6) (wL_optimumAt hX hs (hA_ hb) hfO (fun H1 q => by obtain ⟨f', q1, -⟩ := hP H1 q; exact q1.2.2.2.2.1) (fun c e => by subst e; exact hoa.2)) rfl ckL_optimumAt inL_ nmL_ lw_s_optimumAt lw_l216 lw_n_optimumAt rfl (by decide +kernel) rfl rfl rfl (Nat.le_of_ble_eq_true rfl) (by show _ ≤ 601024; omega) (by show _ ≤ 7293033; omega) (by decide +kernel) wq_r (fun r H1 _ hq => ?_)
  obtain ⟨kx, f', rfl, h1, n1, e6, hw⟩ := wq0 out_lo hg hoa hP hq
  show aw E mL_law Q 1230 (lvL G i) [.int kx] H1 (k + 1) (n + 6)
  refine aw_b (pc' := 1238) (lv' := (6, .int kx) :: lvL G i) (st' := [.int (nI i + nI 1), .ref (lb G), .ref (lB G)]) [(1230, .istore 6, 2, .null), (1232, .aload_n 2, 1, .null), (1233, .aload_n 0, 1, .null), (1234, .iload 5, 2, .null), (1236, .iconst 1, 1, .int (nI 1)), (1237, .iadd, 1, .null)] (by decide +kernel) rfl ?_
  refine aw_sld h1.1 (ib_in (sc_j hi hg.2.2.2.2.2 (by decide))) (by decide +kernel) ?_
  refine aw_b (pc' := 1244) (lv' := (6, .int kx) :: lvL G i) (st' := [.int (nI i + nI 2), .ref (lb G), .int (pq_ G i 1), .ref (lB G)]) [(1239, .aload_n 0, 1, .null), (1240, .iload 5, 2, .null), (1242, .iconst 2, 1, .int (nI 2)), (1243, .iadd, 1, .null)] (by decide +kernel) rfl ?_
  refine aw_sld h1.1 (ib_in (sc_j hi hg.2.2.2.2.2 (by decide))) (by decide +kernel) ?_
  refine aw_cv (rest := []) (st1 := [.int y]) (lB G) 0 (kX8_optimumAt eB h1.2.2.2.1 hfB) rfl rfl ckX8_optimumAt lw_l218 h1.2.2.2.1 eo_O_0 ⟨_, _, rfl⟩ nkX8_optimumAt rfl (by decide +kernel) rfl (Nat.le_of_ble_eq_true rfl) (by show _ ≤ 601024; omega) (by show _ ≤ 7293033; omega) (by decide +kernel) (fun H2 z => ?_)
  obtain ⟨z, hn2⟩ := z
  have h2 := h1.mod hg z hn2
  have n2 := n1.kept z (by have := hg; unfold ge_ at this; omega)
  have hw := hw.kept z (Or.inr (by have := hg; unfold ge_ at this; omega))
  refine aw_b (pc' := 1251) (lv' := (7, .int y) :: (6, .int kx) :: lvL G i) (st' := [.ref (lB G)]) [(1248, .istore 7, 2, .null), (1250, .aload_n 2, 1, .null)] (by decide +kernel) rfl ?_
  refine aw_cv (rest := []) (st1 := [.int (t' 0 6)]) (lB G) 0 (kX8_thrown rfl h2.2.2.2.1) rfl rfl ckX8_thrown lw_l167 h2.2.2.2.1 eo_O_0 ⟨_, _, rfl⟩ nkX8_thrown rfl (by decide +kernel) rfl (Nat.le_of_ble_eq_true rfl) (by show _ ≤ 601024; omega) (by show _ ≤ 7293033; omega) (by decide +kernel) (fun H3 z => ?_)
  have h3 := h2.z z
  have n3 := n2.kept z (Nat.zero_le _)
  have hw := hw.kept z (Or.inr (Nat.zero_le _))
  refine aw_b (pc' := 1256) (lv' := (7, .int y) :: (6, .int kx) :: lvL G i) (st' := [.int kx, .int (t' 0 6)]) [(1254, .iload 6, 2, .null)] (by decide +kernel) rfl ?_
  refine aw_ic_eq (off := 5) 1261 (by decide) (by decide +kernel) (fun _ => ?_) (fun hne => absurd e6 hne)
  refine aw_b (pc' := 1263) (lv' := (7, .int y) :: (6, .int kx) :: lvL G i) (st' := [.int kx]) [(1261, .iload 6, 2, .null)] (by decide +kernel) rfl ?_
  have fin : aw E mL_law Q 1278 ((7, .int y) :: (6, .int kx) :: lvL G i) [] H3 (k + 1) (n + 6) := by
    refine aw_b (pc' := 3097) (lv' := (7, .int y) :: (6, .int kx) :: lvL G i) (st' := []) [(1278, .goto 1819, 3, .null)] (by decide +kernel) rfl ?_
    refine aw_lv (lv' := lvL G i) [2, 3, 4, 5, 6, 7] rfl ?_
    exact aw_widen (by omega) (by omega) (kk H3 s' t' f' h3 n3 hF)
  refine aw_if_ne (off := 15) 1278 (by decide) (by decide +kernel) (fun _ => fin) (fun h0 => ?_)
  obtain ⟨e, q1, f0, rfl, q2⟩ := hw h0
  refine aw_b (pc' := 1268) (lv' := (7, .int y) :: (6, .int kx) :: lvL G i) (st' := [.int (nI 0), .ref (lO G)]) [(1266, .aload_n 3, 1, .null), (1267, .iconst 0, 1, .int (nI 0))] (by decide +kernel) rfl ?_
  refine aw_lald q1 (ib_in (by decide)) (by decide +kernel) ?_
  refine aw_b (pc' := 1273) (lv' := (7, .int y) :: (6, .int kx) :: lvL G i) (st' := [.int (lg_cmp (f0 (Int32.toNatClampNeg (nI 0))) ((y).toInt64))]) [(1269, .iload 7, 2, .null), (1271, .i2l, 1, .null), (1272, .lcmp, 1, .null)] (by decide +kernel) rfl ?_
  refine aw_if_eq (off := 5) 1278 (by decide) (by decide +kernel) (fun _ => fin) (fun hne => absurd ?_ hne)
  rw [lg_cmp_eq]
  exact q2
theorem lw_l219 : Cond.methodLink RL 219 yX7_nextRule ∈ uw_ := (uw_mem 710 (by decide +kernel) (by decide +kernel))
theorem lw_l222 : Cond.methodLink RL 222 yX8_nextRule ∈ uw_ := (uw_mem 1765 (by decide +kernel) (by decide +kernel))
