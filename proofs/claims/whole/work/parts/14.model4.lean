/-! mirrors of methods, and that the methods do as they say: printed by wip/whole/gen_parts.py out of the listing -/
def mX8_meanCost : mt_ := (yX8_meanCost, cX8_meanCost, 2, some .double, [], { frames := 3, locals := 67, cells := 0, slots := 0 })
theorem ckX8_meanCost : cokV_ mX8_meanCost := ⟨⟨(uw_mem 1907 (by decide +kernel) (by decide +kernel)), (uw_mem 112 (by decide +kernel) (by decide +kernel)), by decide +kernel, by decide +kernel⟩, (uw_mem 1905 (by decide +kernel) (by decide +kernel)), (uw_mem 1906 (by decide +kernel) (by decide +kernel))⟩
theorem nkX8_meanCost : nok_ mX8_meanCost 1 := by decide +kernel
def fX8_meanCost_j18 (r1 : st_ × Int32) : Option (st_ × UInt64) :=
  some (r1.1, FP.dconst0)
def fX8_meanCost (s : st_) (i0 : Int32) : Option (st_ × UInt64) :=
  bn_ (fX8_noArm s i0) fun r1 =>
  if r1.2 = (0 : Int32) then (gd_ (ib_ (16 : Int32) 12584) <|
  if (r1.1 1 (ix_ (16 : Int32))) = (0 : Int32) then (fX8_meanCost_j18 r1)
  else (bn_ (fX8_told i0) fun r6 =>
  bn_ (fX8_armOf r1.1 r6 (3 : Int32)) fun r10 =>
  gd_ (ib_ (16 : Int32) 12584) <|
  gd_ (n64_ (FP.ddiv (FP.i2d r10) (FP.i2d (r1.1 1 (ix_ (16 : Int32)))))) <|
  some (r1.1, (FP.ddiv (FP.i2d r10) (FP.i2d (r1.1 1 (ix_ (16 : Int32))))))))
  else (fX8_meanCost_j18 r1)
set_option maxRecDepth 8000 in
theorem kX8_meanCost {E : ev_} {H : Heap} {a : Nat} {s : st_} {i0 : Int32} {r : st_ × UInt64} (hm : fX8_meanCost s i0 = some r) (h0 : has_ E H a ly_O s) (hf : ev_fr E a) : sp_ E mX8_meanCost [.ref a, .int i0] H (po1 (.inl (some (.double r.2))) (fun Hn => sm_ H Hn a 10 ∧ has_ E Hn a ly_O r.1)) := by
  refine sp_of (by decide +kernel) rfl rfl ?_
  generalize hQ : po1 _ _ = Q
  have hs : sm_ H H a 10 := sm_.rfl'
  unfold fX8_meanCost at hm
  refine aw_lv (lv' := [(0, .ref a), (1, .int i0)]) [0, 1] rfl ?_
  refine aw_b (pc' := 2) (lv' := [(0, .ref a), (1, .int i0)]) (st' := [.int i0, .ref a]) [(0, .aload_n 0, 1, .null), (1, .iload_n 1, 1, .null)] (by decide +kernel) rfl ?_
  obtain ⟨r1, e2, hm⟩ := bn_x hm
  refine aw_cv (rest := []) (st1 := [.int r1.2]) a 0 (kX8_noArm e2 h0 hf) rfl rfl ckX8_noArm lkX8_387 h0 eo_O_0 ⟨_, _, rfl⟩ nkX8_noArm rfl rfl rfl (Nat.le_of_ble_eq_true rfl) (Nat.zero_le _) (Nat.zero_le _) (by decide +kernel) (fun H3 z4 => ?_)
  obtain ⟨z4, hn⟩ := z4
  have h0 := hn
  have hs := hs.step z4 (by omega) (by omega)
  have J18 : ∀ (H_j18 : Heap), has_ E H_j18 a ly_O r1.1 → sm_ H H_j18 a 10 → fX8_meanCost_j18 r1 = some r → aw E mX8_meanCost Q 18 [] [] H_j18 0 0 := by
    intro H_j18 h0 hs hm
    unfold fX8_meanCost_j18 at hm
    refine aw_dc0 (by decide +kernel) ?_
    obtain rfl := Option.some.inj hm
    subst hQ
    exact aw_dret rfl (Nat.zero_le _) (Nat.zero_le _) (by decide +kernel) ⟨rfl, hs, h0⟩
  refine aw_if_ne (off := 13) 18 (by decide) (by decide +kernel) (fun hc => ?_) (fun hc => ?_)
  · have hm := (if_neg hc).symm.trans hm
    refine aw_lv (lv' := []) [] rfl ?_
    exact J18 H3 h0 hs hm
  · have hm := (if_pos hc).symm.trans hm
    refine aw_b (pc' := 9) (lv' := [(0, .ref a), (1, .int i0)]) (st' := [.ref a]) [(8, .aload_n 0, 1, .null)] (by decide +kernel) rfl ?_
    refine aw_gl (v := .ref (a + 1)) a 0 h0 eo_O_0 fgX8_9 rfl (by decide +kernel) ?_
    refine aw_b (pc' := 14) (lv' := [(0, .ref a), (1, .int i0)]) (st' := [.int (16 : Int32), .ref (a + 1)]) [(12, .bipush 16, 2, .int (16 : Int32))] (by decide +kernel) rfl ?_
    obtain ⟨g5, hm⟩ := gd_x hm
    refine aw_ial a 1 h0 rfl g5 (by decide +kernel) ?_
    refine aw_if_ne (off := 5) 20 (by decide) (by decide +kernel) (fun hc => ?_) (fun hc => ?_)
    · have hm := (if_neg hc).symm.trans hm
      refine aw_b (pc' := 22) (lv' := [(0, .ref a), (1, .int i0)]) (st' := [.int i0, .ref a]) [(20, .aload_n 0, 1, .null), (21, .iload_n 1, 1, .null)] (by decide +kernel) rfl ?_
      obtain ⟨r6, e7, hm⟩ := bn_x hm
      refine aw_cs (rest := [.ref a]) (st1 := [.int r6, .ref a]) (kX8_told e7) rfl rfl ckX8_told lkX8_392 nkX8_told rfl rfl rfl (Nat.le_of_ble_eq_true rfl) (Nat.zero_le _) (Nat.zero_le _) (by decide +kernel) (fun H8 z9 => ?_)
      have h0 := h0.kept0 z9
      have hs := hs.step0 z9
      refine aw_b (pc' := 26) (lv' := [(0, .ref a), (1, .int i0)]) (st' := [.int (3 : Int32), .int r6, .ref a]) [(25, .iconst 3, 1, .int (3 : Int32))] (by decide +kernel) rfl ?_
      obtain ⟨r10, e11, hm⟩ := bn_x hm
      refine aw_cv (rest := []) (st1 := [.int r10]) a 0 (kX8_armOf e11 h0) rfl rfl ckX8_armOf lkX8_232 h0 eo_O_0 ⟨_, _, rfl⟩ nkX8_armOf rfl rfl rfl (Nat.le_of_ble_eq_true rfl) (Nat.zero_le _) (Nat.zero_le _) (by decide +kernel) (fun H12 z13 => ?_)
      have h0 := h0.kept0 z13
      have hs := hs.step0 z13
      refine aw_b (pc' := 31) (lv' := [(0, .ref a), (1, .int i0)]) (st' := [.ref a, .double (FP.i2d r10)]) [(29, .i2d, 1, .null), (30, .aload_n 0, 1, .null)] (by decide +kernel) rfl ?_
      refine aw_gl (v := .ref (a + 1)) a 0 h0 eo_O_0 fgX8_9 rfl (by decide +kernel) ?_
      refine aw_b (pc' := 36) (lv' := [(0, .ref a), (1, .int i0)]) (st' := [.int (16 : Int32), .ref (a + 1), .double (FP.i2d r10)]) [(34, .bipush 16, 2, .int (16 : Int32))] (by decide +kernel) rfl ?_
      obtain ⟨g14, hm⟩ := gd_x hm
      refine aw_ial a 1 h0 rfl g14 (by decide +kernel) ?_
      refine aw_b (pc' := 38) (lv' := [(0, .ref a), (1, .int i0)]) (st' := [.double (FP.i2d (r1.1 1 (ix_ (16 : Int32)))), .double (FP.i2d r10)]) [(37, .i2d, 1, .null)] (by decide +kernel) rfl ?_
      obtain ⟨g15, hm⟩ := gd_x hm
      refine aw_ddiv (n64_x g15) (by decide +kernel) ?_
      obtain rfl := Option.some.inj hm
      subst hQ
      exact aw_dret rfl (Nat.zero_le _) (Nat.zero_le _) (by decide +kernel) ⟨rfl, hs, h0⟩
    · have hm := (if_pos hc).symm.trans hm
      refine aw_lv (lv' := []) [] rfl ?_
      exact J18 H3 h0 hs hm
def mX8_share : mt_ := (yX8_share, cX8_share, 2, some .float, [], { frames := 3, locals := 67, cells := 0, slots := 0 })
theorem ckX8_share : cokV_ mX8_share := ⟨⟨(uw_mem 1911 (by decide +kernel) (by decide +kernel)), (uw_mem 112 (by decide +kernel) (by decide +kernel)), by decide +kernel, by decide +kernel⟩, (uw_mem 1909 (by decide +kernel) (by decide +kernel)), (uw_mem 1910 (by decide +kernel) (by decide +kernel))⟩
theorem nkX8_share : nok_ mX8_share 1 := by decide +kernel
def fX8_share (s : st_) (i0 : Int32) : Option (st_ × UInt32) :=
  bn_ (fX8_noRule s i0) fun r1 =>
  if r1.2 = (0 : Int32) then (bn_ (fX8_of r1.1 i0 (2 : Int32)) fun r5 =>
  bn_ (fX8_weights r1.1) fun r9 =>
  gd_ (n32_ (FP.fdiv (FP.i2f r5) (FP.i2f r9))) <|
  some (r1.1, (FP.fdiv (FP.i2f r5) (FP.i2f r9))))
  else (some (r1.1, FP.fconst0))
set_option maxRecDepth 8000 in
theorem kX8_share {E : ev_} {H : Heap} {a : Nat} {s : st_} {i0 : Int32} {r : st_ × UInt32} (hm : fX8_share s i0 = some r) (h0 : has_ E H a ly_O s) (hf : ev_fr E a) : sp_ E mX8_share [.ref a, .int i0] H (po1 (.inl (some (.float r.2))) (fun Hn => sm_ H Hn a 10 ∧ has_ E Hn a ly_O r.1)) := by
  refine sp_of (by decide +kernel) rfl rfl ?_
  generalize hQ : po1 _ _ = Q
  have hs : sm_ H H a 10 := sm_.rfl'
  unfold fX8_share at hm
  refine aw_lv (lv' := [(0, .ref a), (1, .int i0)]) [0, 1] rfl ?_
  refine aw_b (pc' := 2) (lv' := [(0, .ref a), (1, .int i0)]) (st' := [.int i0, .ref a]) [(0, .aload_n 0, 1, .null), (1, .iload_n 1, 1, .null)] (by decide +kernel) rfl ?_
  obtain ⟨r1, e2, hm⟩ := bn_x hm
  refine aw_cv (rest := []) (st1 := [.int r1.2]) a 0 (kX8_noRule e2 h0 hf) rfl rfl ckX8_noRule lkX8_227 h0 eo_O_0 ⟨_, _, rfl⟩ nkX8_noRule rfl rfl rfl (Nat.le_of_ble_eq_true rfl) (Nat.zero_le _) (Nat.zero_le _) (by decide +kernel) (fun H3 z4 => ?_)
  obtain ⟨z4, hn⟩ := z4
  have h0 := hn
  have hs := hs.step z4 (by omega) (by omega)
  refine aw_if_eq (off := 7) 12 (by decide) (by decide +kernel) (fun hc => ?_) (fun hc => ?_)
  · have hm := (if_pos hc).symm.trans hm
    refine aw_b (pc' := 15) (lv' := [(0, .ref a), (1, .int i0)]) (st' := [.int (2 : Int32), .int i0, .ref a]) [(12, .aload_n 0, 1, .null), (13, .iload_n 1, 1, .null), (14, .iconst 2, 1, .int (2 : Int32))] (by decide +kernel) rfl ?_
    obtain ⟨r5, e6, hm⟩ := bn_x hm
    refine aw_cv (rest := []) (st1 := [.int r5]) a 0 (kX8_of e6 h0) rfl rfl ckX8_of lkX8_236 h0 eo_O_0 ⟨_, _, rfl⟩ nkX8_of rfl rfl rfl (Nat.le_of_ble_eq_true rfl) (Nat.zero_le _) (Nat.zero_le _) (by decide +kernel) (fun H7 z8 => ?_)
    have h0 := h0.kept0 z8
    have hs := hs.step0 z8
    refine aw_b (pc' := 20) (lv' := [(0, .ref a), (1, .int i0)]) (st' := [.ref a, .float (FP.i2f r5)]) [(18, .i2f, 1, .null), (19, .aload_n 0, 1, .null)] (by decide +kernel) rfl ?_
    obtain ⟨r9, e10, hm⟩ := bn_x hm
    refine aw_cv (rest := [.float (FP.i2f r5)]) (st1 := [.int r9, .float (FP.i2f r5)]) a 0 (kX8_weights e10 h0) rfl rfl ckX8_weights lkX8_319 h0 eo_O_0 ⟨_, _, rfl⟩ nkX8_weights rfl rfl rfl (Nat.le_of_ble_eq_true rfl) (Nat.zero_le _) (Nat.zero_le _) (by decide +kernel) (fun H11 z12 => ?_)
    have h0 := h0.kept0 z12
    have hs := hs.step0 z12
    refine aw_b (pc' := 24) (lv' := [(0, .ref a), (1, .int i0)]) (st' := [.float (FP.i2f r9), .float (FP.i2f r5)]) [(23, .i2f, 1, .null)] (by decide +kernel) rfl ?_
    obtain ⟨g13, hm⟩ := gd_x hm
    refine aw_fdiv (n32_x g13) (by decide +kernel) ?_
    obtain rfl := Option.some.inj hm
    subst hQ
    exact aw_fret rfl (Nat.zero_le _) (Nat.zero_le _) (by decide +kernel) ⟨rfl, hs, h0⟩
  · have hm := (if_neg hc).symm.trans hm
    refine aw_fc0 (by decide +kernel) ?_
    refine aw_b (pc' := 25) (lv' := [(0, .ref a), (1, .int i0)]) (st' := [.float FP.fconst0]) [(9, .goto 16, 3, .null)] (by decide +kernel) rfl ?_
    obtain rfl := Option.some.inj hm
    subst hQ
    exact aw_fret rfl (Nat.zero_le _) (Nat.zero_le _) (by decide +kernel) ⟨rfl, hs, h0⟩
def mX8_restAt : mt_ := (yX8_restAt, cX8_restAt, 2, some .int, [], { frames := 0, locals := 0, cells := 0, slots := 0 })
theorem ckX8_restAt : cokS_ mX8_restAt := ⟨⟨(uw_mem 1923 (by decide +kernel) (by decide +kernel)), (uw_mem 112 (by decide +kernel) (by decide +kernel)), by decide +kernel, by decide +kernel⟩, (uw_mem 1922 (by decide +kernel) (by decide +kernel))⟩
theorem nkX8_restAt : nok_ mX8_restAt 2 := by decide +kernel
def fX8_restAt (i0 : Int32) (i1 : Int32) : Option (Int32) :=
  some (((9 : Int32) * i0) + i1)
set_option maxRecDepth 8000 in
theorem kX8_restAt {E : ev_} {H : Heap} {i0 : Int32} {i1 : Int32} {r : Int32} (hm : fX8_restAt i0 i1 = some r) : sp_ E mX8_restAt [.int i0, .int i1] H (po1 (.inl (some (.int r))) (fun Hn => sm_ H Hn 0 0)) := by
  refine sp_of (by decide +kernel) rfl rfl ?_
  generalize hQ : po1 _ _ = Q
  have hs : sm_ H H 0 0 := sm_.rfl'
  unfold fX8_restAt at hm
  refine aw_lv (lv' := [(0, .int i0), (1, .int i1)]) [0, 1] rfl ?_
  refine aw_b (pc' := 6) (lv' := [(0, .int i0), (1, .int i1)]) (st' := [.int (((9 : Int32) * i0) + i1)]) [(0, .bipush 9, 2, .int (9 : Int32)), (2, .iload_n 0, 1, .null), (3, .imul, 1, .null), (4, .iload_n 1, 1, .null), (5, .iadd, 1, .null)] (by decide +kernel) rfl ?_
  obtain rfl := Option.some.inj hm
  subst hQ
  exact aw_iret rfl (Nat.zero_le _) (Nat.zero_le _) (by decide +kernel) ⟨rfl, hs⟩
def mX8_wayTo : mt_ := (yX8_wayTo, cX8_wayTo, 4, some .int, [], { frames := 2, locals := 42, cells := 0, slots := 0 })
theorem ckX8_wayTo : cokV_ mX8_wayTo := ⟨⟨(uw_mem 1932 (by decide +kernel) (by decide +kernel)), (uw_mem 112 (by decide +kernel) (by decide +kernel)), by decide +kernel, by decide +kernel⟩, (uw_mem 1931 (by decide +kernel) (by decide +kernel)), (uw_mem 80 (by decide +kernel) (by decide +kernel))⟩
theorem nkX8_wayTo : nok_ mX8_wayTo 2 := by decide +kernel
def fX8_wayTo_j23 (s : st_) (i1 : Int32) (z0_j23 : Int32) : Option (Int32) :=
  bn_ (fX8_cylinderOf s (6 : Int32) i1) fun r1 =>
  bn_ (fX8_costOf s (if (0 : Int32) ≤ (r1 - z0_j23) then (r1 - z0_j23) else (0 : Int32) - (r1 - z0_j23))) fun r5 =>
  some r5
def fX8_wayTo (s : st_) (i0 : Int32) (i1 : Int32) : Option (Int32) :=
  if i0 = (8 : Int32) then (bn_ (fX8_armOf s (6 : Int32) (0 : Int32)) fun r13 =>
  fX8_wayTo_j23 s i1 r13)
  else (bn_ (fX8_cylinderOf s (6 : Int32) i0) fun r9 =>
  fX8_wayTo_j23 s i1 r9)
set_option maxRecDepth 8000 in
theorem kX8_wayTo {E : ev_} {H : Heap} {a : Nat} {s : st_} {i0 : Int32} {i1 : Int32} {r : Int32} (hm : fX8_wayTo s i0 i1 = some r) (h0 : has_ E H a ly_O s) : sp_ E mX8_wayTo [.ref a, .int i0, .int i1] H (po1 (.inl (some (.int r))) (fun Hn => sm_ H Hn 0 0)) := by
  refine sp_of (by decide +kernel) rfl rfl ?_
  generalize hQ : po1 _ _ = Q
  have hs : sm_ H H 0 0 := sm_.rfl'
  unfold fX8_wayTo at hm
  refine aw_lv (lv' := [(0, .ref a), (1, .int i0), (2, .int i1)]) [0, 1, 2] rfl ?_
  refine aw_b (pc' := 3) (lv' := [(0, .ref a), (1, .int i0), (2, .int i1)]) (st' := [.int (8 : Int32), .int i0]) [(0, .iload_n 1, 1, .null), (1, .bipush 8, 2, .int (8 : Int32))] (by decide +kernel) rfl ?_
  have J23 : ∀ (z0_j23 : Int32) (H_j23 : Heap), has_ E H_j23 a ly_O s → sm_ H H_j23 0 0 → fX8_wayTo_j23 s i1 z0_j23 = some r → aw E mX8_wayTo Q 23 [(0, .ref a), (2, .int i1)] [.int z0_j23] H_j23 0 0 := by
    intro z0_j23 H_j23 h0 hs hm
    unfold fX8_wayTo_j23 at hm
    refine aw_b (pc' := 29) (lv' := [(3, .int z0_j23), (0, .ref a), (2, .int i1)]) (st' := [.int i1, .int (6 : Int32), .ref a, .ref a]) [(23, .istore_n 3, 1, .null), (24, .aload_n 0, 1, .null), (25, .aload_n 0, 1, .null), (26, .bipush 6, 2, .int (6 : Int32)), (28, .iload_n 2, 1, .null)] (by decide +kernel) rfl ?_
    obtain ⟨r1, e2, hm⟩ := bn_x hm
    refine aw_cv (rest := [.ref a]) (st1 := [.int r1, .ref a]) a 0 (kX8_cylinderOf e2 h0) rfl rfl ckX8_cylinderOf lkX8_267 h0 eo_O_0 ⟨_, _, rfl⟩ nkX8_cylinderOf rfl rfl rfl (Nat.le_of_ble_eq_true rfl) (Nat.zero_le _) (Nat.zero_le _) (by decide +kernel) (fun H3 z4 => ?_)
    have h0 := h0.kept0 z4
    have hs := hs.step0 z4
    refine aw_b (pc' := 34) (lv' := [(3, .int z0_j23), (0, .ref a), (2, .int i1)]) (st' := [.int (r1 - z0_j23), .ref a]) [(32, .iload_n 3, 1, .null), (33, .isub, 1, .null)] (by decide +kernel) rfl ?_
    refine aw_mab (rest := [.ref a]) mtX8_270 rfl (Nat.le_of_ble_eq_true rfl) (Nat.zero_le _) (Nat.zero_le _) (by decide +kernel) ?_
    obtain ⟨r5, e6, hm⟩ := bn_x hm
    refine aw_cv (rest := []) (st1 := [.int r5]) a 0 (kX8_costOf e6 h0) rfl rfl ckX8_costOf lkX8_295 h0 eo_O_0 ⟨_, _, rfl⟩ nkX8_costOf rfl rfl rfl (Nat.le_of_ble_eq_true rfl) (Nat.zero_le _) (Nat.zero_le _) (by decide +kernel) (fun H7 z8 => ?_)
    have h0 := h0.kept0 z8
    have hs := hs.step0 z8
    obtain rfl := Option.some.inj hm
    subst hQ
    exact aw_iret rfl (Nat.zero_le _) (Nat.zero_le _) (by decide +kernel) ⟨rfl, hs⟩
  refine aw_ic_ne (off := 13) 16 (by decide) (by decide +kernel) (fun hc => ?_) (fun hc => ?_)
  · have hm := (if_neg hc).symm.trans hm
    refine aw_b (pc' := 20) (lv' := [(0, .ref a), (1, .int i0), (2, .int i1)]) (st' := [.int i0, .int (6 : Int32), .ref a]) [(16, .aload_n 0, 1, .null), (17, .bipush 6, 2, .int (6 : Int32)), (19, .iload_n 1, 1, .null)] (by decide +kernel) rfl ?_
    obtain ⟨r9, e10, hm⟩ := bn_x hm
    refine aw_cv (rest := []) (st1 := [.int r9]) a 0 (kX8_cylinderOf e10 h0) rfl rfl ckX8_cylinderOf lkX8_267 h0 eo_O_0 ⟨_, _, rfl⟩ nkX8_cylinderOf rfl rfl rfl (Nat.le_of_ble_eq_true rfl) (Nat.zero_le _) (Nat.zero_le _) (by decide +kernel) (fun H11 z12 => ?_)
    have h0 := h0.kept0 z12
    have hs := hs.step0 z12
    refine aw_lv (lv' := [(0, .ref a), (2, .int i1)]) [0, 2] rfl ?_
    exact J23 r9 H11 h0 hs hm
  · have hm := (if_pos hc).symm.trans hm
    refine aw_b (pc' := 10) (lv' := [(0, .ref a), (1, .int i0), (2, .int i1)]) (st' := [.int (0 : Int32), .int (6 : Int32), .ref a]) [(6, .aload_n 0, 1, .null), (7, .bipush 6, 2, .int (6 : Int32)), (9, .iconst 0, 1, .int (0 : Int32))] (by decide +kernel) rfl ?_
    obtain ⟨r13, e14, hm⟩ := bn_x hm
    refine aw_cv (rest := []) (st1 := [.int r13]) a 0 (kX8_armOf e14 h0) rfl rfl ckX8_armOf lkX8_232 h0 eo_O_0 ⟨_, _, rfl⟩ nkX8_armOf rfl rfl rfl (Nat.le_of_ble_eq_true rfl) (Nat.zero_le _) (Nat.zero_le _) (by decide +kernel) (fun H15 z16 => ?_)
    have h0 := h0.kept0 z16
    have hs := hs.step0 z16
    refine aw_b (pc' := 23) (lv' := [(0, .ref a), (1, .int i0), (2, .int i1)]) (st' := [.int r13]) [(13, .goto 10, 3, .null)] (by decide +kernel) rfl ?_
    refine aw_lv (lv' := [(0, .ref a), (2, .int i1)]) [0, 2] rfl ?_
    exact J23 r13 H15 h0 hs hm
def mX8_through : mt_ := (yX8_through, cX8_through, 4, some .int, [], { frames := 3, locals := 65, cells := 0, slots := 0 })
theorem ckX8_through : cokV_ mX8_through := ⟨⟨(uw_mem 1928 (by decide +kernel) (by decide +kernel)), (uw_mem 112 (by decide +kernel) (by decide +kernel)), by decide +kernel, by decide +kernel⟩, (uw_mem 1927 (by decide +kernel) (by decide +kernel)), (uw_mem 79 (by decide +kernel) (by decide +kernel))⟩
theorem nkX8_through : nok_ mX8_through 3 := by decide +kernel
theorem lkX8_428 : Cond.methodLink RX8 428 yX8_wayTo ∈ uw_ := (uw_mem 1929 (by decide +kernel) (by decide +kernel))
theorem fgX8_35 : fok_ RX8 35 8 18 := ⟨_, _, _, rfl, by decide, (uw_mem 1453 (by decide +kernel) (by decide +kernel)), wkX8⟩
theorem lkX8_431 : Cond.methodLink RX8 431 yX8_restAt ∈ uw_ := (uw_mem 1921 (by decide +kernel) (by decide +kernel))
def fX8_through (s : st_) (i0 : Int32) (i1 : Int32) (i2 : Int32) : Option (Int32) :=
  bn_ (fX8_wayTo s i1 i2) fun r1 =>
  bn_ (fX8_restAt (i0 ||| ((1 : Int32) <<< (i2 &&& 31))) i2) fun r5 =>
  gd_ (ib_ r5 2304) <|
  some (r1 + (s 9 (ix_ r5)))
set_option maxRecDepth 8000 in
theorem kX8_through {E : ev_} {H : Heap} {a : Nat} {s : st_} {i0 : Int32} {i1 : Int32} {i2 : Int32} {r : Int32} (hm : fX8_through s i0 i1 i2 = some r) (h0 : has_ E H a ly_O s) : sp_ E mX8_through [.ref a, .int i0, .int i1, .int i2] H (po1 (.inl (some (.int r))) (fun Hn => sm_ H Hn 0 0)) := by
  refine sp_of (by decide +kernel) rfl rfl ?_
  generalize hQ : po1 _ _ = Q
  have hs : sm_ H H 0 0 := sm_.rfl'
  unfold fX8_through at hm
  refine aw_lv (lv' := [(0, .ref a), (1, .int i0), (2, .int i1), (3, .int i2)]) [0, 1, 2, 3] rfl ?_
  refine aw_b (pc' := 3) (lv' := [(0, .ref a), (1, .int i0), (2, .int i1), (3, .int i2)]) (st' := [.int i2, .int i1, .ref a]) [(0, .aload_n 0, 1, .null), (1, .iload_n 2, 1, .null), (2, .iload_n 3, 1, .null)] (by decide +kernel) rfl ?_
  obtain ⟨r1, e2, hm⟩ := bn_x hm
  refine aw_cv (rest := []) (st1 := [.int r1]) a 0 (kX8_wayTo e2 h0) rfl rfl ckX8_wayTo lkX8_428 h0 eo_O_0 ⟨_, _, rfl⟩ nkX8_wayTo rfl rfl rfl (Nat.le_of_ble_eq_true rfl) (Nat.zero_le _) (Nat.zero_le _) (by decide +kernel) (fun H3 z4 => ?_)
  have h0 := h0.kept0 z4
  have hs := hs.step0 z4
  refine aw_b (pc' := 7) (lv' := [(0, .ref a), (1, .int i0), (2, .int i1), (3, .int i2)]) (st' := [.ref a, .int r1]) [(6, .aload_n 0, 1, .null)] (by decide +kernel) rfl ?_
  refine aw_gl (v := .ref (a + 9)) a 0 h0 eo_O_0 fgX8_35 rfl (by decide +kernel) ?_
  refine aw_b (pc' := 16) (lv' := [(0, .ref a), (1, .int i0), (2, .int i1), (3, .int i2)]) (st' := [.int i2, .int (i0 ||| ((1 : Int32) <<< (i2 &&& 31))), .ref (a + 9), .int r1]) [(10, .iload_n 1, 1, .null), (11, .iconst 1, 1, .int (1 : Int32)), (12, .iload_n 3, 1, .null), (13, .ishl, 1, .null), (14, .ior, 1, .null), (15, .iload_n 3, 1, .null)] (by decide +kernel) rfl ?_
  obtain ⟨r5, e6, hm⟩ := bn_x hm
  refine aw_cs (rest := [.ref (a + 9), .int r1]) (st1 := [.int r5, .ref (a + 9), .int r1]) (kX8_restAt e6) rfl rfl ckX8_restAt lkX8_431 nkX8_restAt rfl rfl rfl (Nat.le_of_ble_eq_true rfl) (Nat.zero_le _) (Nat.zero_le _) (by decide +kernel) (fun H7 z8 => ?_)
  have h0 := h0.kept0 z8
  have hs := hs.step0 z8
  obtain ⟨g9, hm⟩ := gd_x hm
  refine aw_ial a 9 h0 rfl g9 (by decide +kernel) ?_
  refine aw_b (pc' := 21) (lv' := [(0, .ref a), (1, .int i0), (2, .int i1), (3, .int i2)]) (st' := [.int (r1 + (s 9 (ix_ r5)))]) [(20, .iadd, 1, .null)] (by decide +kernel) rfl ?_
  obtain rfl := Option.some.inj hm
  subst hQ
  exact aw_iret rfl (Nat.zero_le _) (Nat.zero_le _) (by decide +kernel) ⟨rfl, hs⟩
def mX8_laysRest : mt_ := (yX8_laysRest, cX8_laysRest, 7, none, [], { frames := 4, locals := 88, cells := 0, slots := 0 })
theorem ckX8_laysRest : cokV_ mX8_laysRest := ⟨⟨(uw_mem 1920 (by decide +kernel) (by decide +kernel)), (uw_mem 112 (by decide +kernel) (by decide +kernel)), by decide +kernel, by decide +kernel⟩, (uw_mem 1919 (by decide +kernel) (by decide +kernel)), (uw_mem 78 (by decide +kernel) (by decide +kernel))⟩
theorem nkX8_laysRest : nok_ mX8_laysRest 1 := by decide +kernel
theorem lkX8_434 : Cond.methodLink RX8 434 yX8_through ∈ uw_ := (uw_mem 1925 (by decide +kernel) (by decide +kernel))
def fX8_laysRest_x35_138 (s_x35_138 : st_) : Option (st_) :=
  some s_x35_138
def fX8_laysRest_k35 (x : st_) : Option (st_) :=
  fX8_laysRest_x35_138 x
def fX8_laysRest_x42_132 (v3_b35 : Int32) (s_x42_132 : st_) : Option ((Int32 × st_) ⊕ (st_)) :=
  some (.inl ((v3_b35 + (-1 : Int32)), s_x42_132))
def fX8_laysRest_k42 (v3_b35 : Int32) (x : st_) : Option ((Int32 × st_) ⊕ (st_)) :=
  fX8_laysRest_x42_132 v3_b35 x
def fX8_laysRest_j126 (v4_b42 : Int32) (s_j126 : st_) : Option ((Int32 × st_) ⊕ (st_)) :=
  some (.inl ((v4_b42 + (1 : Int32)), s_j126))
def fX8_laysRest_x76_113 (v3_b35 : Int32) (v4_b42 : Int32) (s_b42 : st_) (v5_x76_113 : Int32) : Option ((Int32 × st_) ⊕ (st_)) :=
  bn_ (fX8_restAt v3_b35 v4_b42) fun r1 =>
  gd_ (ib_ r1 2304) <|
  bd_ (pt_ s_b42 9 (ix_ r1) v5_x76_113) fun s6 =>
  fX8_laysRest_j126 v4_b42 s6
def fX8_laysRest_k76 (v3_b35 : Int32) (v4_b42 : Int32) (s_b42 : st_) (x : Int32) : Option ((Int32 × st_) ⊕ (st_)) :=
  fX8_laysRest_x76_113 v3_b35 v4_b42 s_b42 x
def fX8_laysRest_j107 (v6_b76 : Int32) (v5_j107 : Int32) : Option ((Int32 × Int32) ⊕ (Int32)) :=
  some (.inl (v5_j107, (v6_b76 + (1 : Int32))))
def fX8_laysRest_b76 (i0 : Int32) (v3_b35 : Int32) (v4_b42 : Int32) (s_b42 : st_) (v5_b76 : Int32) (v6_b76 : Int32) : Option ((Int32 × Int32) ⊕ (Int32)) :=
  if i0 ≤ v6_b76 then (some (.inr v5_b76))
  else (if ((v3_b35 >>> (v6_b76 &&& 31)) &&& (1 : Int32)) = (0 : Int32) then (bn_ (fX8_through s_b42 v3_b35 v4_b42 v6_b76) fun r10 =>
  fX8_laysRest_j107 v6_b76 (if r10 < v5_b76 then r10 else v5_b76))
  else (fX8_laysRest_j107 v6_b76 v5_b76))
def fX8_laysRest_l76 (i0 : Int32) (v3_b35 : Int32) (v4_b42 : Int32) (s_b42 : st_) : Nat → (Int32 × Int32) → Option (Int32) :=
  it_ (fun v => fX8_laysRest_b76 i0 v3_b35 v4_b42 s_b42 v.1 v.2)
def fX8_laysRest_j68 (i0 : Int32) (v3_b35 : Int32) (v4_b42 : Int32) (s_b42 : st_) : Option ((Int32 × st_) ⊕ (st_)) :=
  bn_ (fX8_laysRest_l76 i0 v3_b35 v4_b42 s_b42 FU_ ((2147483647 : Int32), (0 : Int32))) (fX8_laysRest_k76 v3_b35 v4_b42 s_b42)
def fX8_laysRest_b42 (i0 : Int32) (v3_b35 : Int32) (v4_b42 : Int32) (s_b42 : st_) : Option ((Int32 × st_) ⊕ (st_)) :=
  if (8 : Int32) < v4_b42 then (some (.inr s_b42))
  else (if (8 : Int32) ≤ v4_b42 then (fX8_laysRest_j68 i0 v3_b35 v4_b42 s_b42)
  else (if ((v3_b35 >>> (v4_b42 &&& 31)) &&& (1 : Int32)) = (0 : Int32) then (fX8_laysRest_j126 v4_b42 s_b42)
  else (fX8_laysRest_j68 i0 v3_b35 v4_b42 s_b42)))
def fX8_laysRest_l42 (i0 : Int32) (v3_b35 : Int32) : Nat → (Int32 × st_) → Option (st_) :=
  it_ (fun v => fX8_laysRest_b42 i0 v3_b35 v.1 v.2)
def fX8_laysRest_b35 (i0 : Int32) (v3_b35 : Int32) (s_b35 : st_) : Option ((Int32 × st_) ⊕ (st_)) :=
  if v3_b35 < (0 : Int32) then (some (.inr s_b35))
  else (bn_ (fX8_laysRest_l42 i0 v3_b35 FU_ ((0 : Int32), s_b35)) (fX8_laysRest_k42 v3_b35))
def fX8_laysRest_l35 (i0 : Int32) : Nat → (Int32 × st_) → Option (st_) :=
  it_ (fun v => fX8_laysRest_b35 i0 v.1 v.2)
def fX8_laysRest_x8_31 (i0 : Int32) (s_x8_31 : st_) : Option (st_) :=
  bn_ (fX8_laysRest_l35 i0 FU_ (((((1 : Int32) <<< (i0 &&& 31)) - (1 : Int32)) - (1 : Int32)), s_x8_31)) (fX8_laysRest_k35)
def fX8_laysRest_k8 (i0 : Int32) (x : st_) : Option (st_) :=
  fX8_laysRest_x8_31 i0 x
def fX8_laysRest_b8 (i0 : Int32) (v3_b8 : Int32) (s_b8 : st_) : Option ((Int32 × st_) ⊕ (st_)) :=
  if (8 : Int32) < v3_b8 then (some (.inr s_b8))
  else (bn_ (fX8_restAt (((1 : Int32) <<< (i0 &&& 31)) - (1 : Int32)) v3_b8) fun r14 =>
  gd_ (ib_ r14 2304) <|
  bd_ (pt_ s_b8 9 (ix_ r14) (0 : Int32)) fun s19 =>
  some (.inl ((v3_b8 + (1 : Int32)), s19)))
def fX8_laysRest_l8 (i0 : Int32) : Nat → (Int32 × st_) → Option (st_) :=
  it_ (fun v => fX8_laysRest_b8 i0 v.1 v.2)
def fX8_laysRest (s : st_) (i0 : Int32) : Option (st_) :=
  bn_ (fX8_laysRest_l8 i0 FU_ ((0 : Int32), s)) (fX8_laysRest_k8 i0)
set_option maxRecDepth 8000 in
theorem kX8_laysRest {E : ev_} {H : Heap} {a : Nat} {s : st_} {i0 : Int32} {r : st_} (hm : fX8_laysRest s i0 = some r) (h0 : has_ E H a ly_O s) (hf : ev_fr E a) : sp_ E mX8_laysRest [.ref a, .int i0] H (po1 (.inl (none)) (fun Hn => sm_ H Hn a 10 ∧ has_ E Hn a ly_O r)) := by
  refine sp_of (by decide +kernel) rfl rfl ?_
  generalize hQ : po1 _ _ = Q
  have hs : sm_ H H a 10 := sm_.rfl'
  unfold fX8_laysRest at hm
  refine aw_lv (lv' := [(0, .ref a), (1, .int i0)]) [0, 1] rfl ?_
  refine aw_b (pc' := 8) (lv' := [(3, .int (0 : Int32)), (2, .int (((1 : Int32) <<< (i0 &&& 31)) - (1 : Int32))), (0, .ref a), (1, .int i0)]) (st' := []) [(0, .iconst 1, 1, .int (1 : Int32)), (1, .iload_n 1, 1, .null), (2, .ishl, 1, .null), (3, .iconst 1, 1, .int (1 : Int32)), (4, .isub, 1, .null), (5, .istore_n 2, 1, .null), (6, .iconst 0, 1, .int (0 : Int32)), (7, .istore_n 3, 1, .null)] (by decide +kernel) rfl ?_
  obtain ⟨x8, hx8, hr8⟩ := bn_x hm
  have X8_31 : ∀ (s_x8_31 : st_) (H_x8_31 : Heap), has_ E H_x8_31 a ly_O s_x8_31 → sm_ H H_x8_31 a 10 → fX8_laysRest_x8_31 i0 s_x8_31 = some r → aw E mX8_laysRest Q 31 [(0, .ref a), (1, .int i0), (2, .int (((1 : Int32) <<< (i0 &&& 31)) - (1 : Int32)))] [] H_x8_31 0 0 := by
    intro s_x8_31 H_x8_31 h0 hs hm
    unfold fX8_laysRest_x8_31 at hm
    refine aw_b (pc' := 35) (lv' := [(3, .int ((((1 : Int32) <<< (i0 &&& 31)) - (1 : Int32)) - (1 : Int32))), (0, .ref a), (1, .int i0), (2, .int (((1 : Int32) <<< (i0 &&& 31)) - (1 : Int32)))]) (st' := []) [(31, .iload_n 2, 1, .null), (32, .iconst 1, 1, .int (1 : Int32)), (33, .isub, 1, .null), (34, .istore_n 3, 1, .null)] (by decide +kernel) rfl ?_
    obtain ⟨x35, hx35, hr35⟩ := bn_x hm
    have X35_138 : ∀ (s_x35_138 : st_) (H_x35_138 : Heap), has_ E H_x35_138 a ly_O s_x35_138 → sm_ H H_x35_138 a 10 → fX8_laysRest_x35_138 s_x35_138 = some r → aw E mX8_laysRest Q 138 [] [] H_x35_138 0 0 := by
      intro s_x35_138 H_x35_138 h0 hs hm
      unfold fX8_laysRest_x35_138 at hm
      obtain rfl := Option.some.inj hm
      subst hQ
      exact aw_vret rfl (Nat.zero_le _) (Nat.zero_le _) (by decide +kernel) ⟨rfl, hs, h0⟩
    have L35 : ∀ (fu : Nat) (v3_b35 : Int32) (s_b35 : st_) (H_b35 : Heap), has_ E H_b35 a ly_O s_b35 → sm_ H H_b35 a 10 → fX8_laysRest_l35 i0 fu (v3_b35, s_b35) = some x35 → aw E mX8_laysRest Q 35 [(0, .ref a), (1, .int i0), (3, .int v3_b35)] [] H_b35 0 0 := by
      intro fu
      induction fu with
      | zero =>
        intro v3_b35 s_b35 H_b35 h0 hs hm
        exact (it_0 hm).elim
      | succ fu ih35 =>
        intro v3_b35 s_b35 H_b35 h0 hs hm
        obtain ⟨y35, hm, hk35⟩ := it_s hm
        have hm : fX8_laysRest_b35 i0 v3_b35 s_b35 = some y35 := hm
        unfold fX8_laysRest_b35 at hm
        refine aw_b (pc' := 36) (lv' := [(0, .ref a), (1, .int i0), (3, .int v3_b35)]) (st' := [.int v3_b35]) [(35, .iload_n 3, 1, .null)] (by decide +kernel) rfl ?_
        refine aw_if_lt (off := 102) 138 (by decide) (by decide +kernel) (fun hc => ?_) (fun hc => ?_)
        · have hm := (if_pos hc).symm.trans hm
          cases hm
          refine aw_lv (lv' := []) [] rfl ?_
          exact X35_138 s_b35 H_b35 h0 hs ((congrArg fX8_laysRest_k35 (show (s_b35) = x35 from hk35)).trans hr35)
        · have hm := (if_neg hc).symm.trans hm
          refine aw_b (pc' := 42) (lv' := [(4, .int (0 : Int32)), (0, .ref a), (1, .int i0), (3, .int v3_b35)]) (st' := []) [(39, .iconst 0, 1, .int (0 : Int32)), (40, .istore 4, 2, .null)] (by decide +kernel) rfl ?_
          obtain ⟨x42, hx42, hr42⟩ := bn_x hm
          have X42_132 : ∀ (s_x42_132 : st_) (H_x42_132 : Heap), has_ E H_x42_132 a ly_O s_x42_132 → sm_ H H_x42_132 a 10 → fX8_laysRest_x42_132 v3_b35 s_x42_132 = some y35 → aw E mX8_laysRest Q 132 [(0, .ref a), (1, .int i0), (3, .int v3_b35)] [] H_x42_132 0 0 := by
            intro s_x42_132 H_x42_132 h0 hs hm
            unfold fX8_laysRest_x42_132 at hm
            refine aw_b (pc' := 35) (lv' := [(3, .int (v3_b35 + (-1 : Int32))), (0, .ref a), (1, .int i0)]) (st' := []) [(132, .iinc 3 (-1), 3, .int (-1 : Int32)), (135, .goto (-100), 3, .null)] (by decide +kernel) rfl ?_
            cases hm
            refine aw_lv (lv' := [(0, .ref a), (1, .int i0), (3, .int (v3_b35 + (-1 : Int32)))]) [1, 2, 0] rfl ?_
            exact ih35 (v3_b35 + (-1 : Int32)) s_x42_132 H_x42_132 h0 hs hk35
          have L42 : ∀ (fu : Nat) (v4_b42 : Int32) (s_b42 : st_) (H_b42 : Heap), has_ E H_b42 a ly_O s_b42 → sm_ H H_b42 a 10 → fX8_laysRest_l42 i0 v3_b35 fu (v4_b42, s_b42) = some x42 → aw E mX8_laysRest Q 42 [(0, .ref a), (1, .int i0), (3, .int v3_b35), (4, .int v4_b42)] [] H_b42 0 0 := by
            intro fu
            induction fu with
            | zero =>
              intro v4_b42 s_b42 H_b42 h0 hs hm
              exact (it_0 hm).elim
            | succ fu ih42 =>
              intro v4_b42 s_b42 H_b42 h0 hs hm
              obtain ⟨y42, hm, hk42⟩ := it_s hm
              have hm : fX8_laysRest_b42 i0 v3_b35 v4_b42 s_b42 = some y42 := hm
              unfold fX8_laysRest_b42 at hm
              refine aw_b (pc' := 46) (lv' := [(0, .ref a), (1, .int i0), (3, .int v3_b35), (4, .int v4_b42)]) (st' := [.int (8 : Int32), .int v4_b42]) [(42, .iload 4, 2, .null), (44, .bipush 8, 2, .int (8 : Int32))] (by decide +kernel) rfl ?_
              refine aw_ic_gt (off := 86) 132 (by decide) (by decide +kernel) (fun hc => ?_) (fun hc => ?_)
              · have hm := (if_pos hc).symm.trans hm
                cases hm
                refine aw_lv (lv' := [(0, .ref a), (1, .int i0), (3, .int v3_b35)]) [0, 1, 2] rfl ?_
                exact X42_132 s_b42 H_b42 h0 hs ((congrArg (fX8_laysRest_k42 v3_b35) (show (s_b42) = x42 from hk42)).trans hr42)
              · have hm := (if_neg hc).symm.trans hm
                refine aw_b (pc' := 53) (lv' := [(0, .ref a), (1, .int i0), (3, .int v3_b35), (4, .int v4_b42)]) (st' := [.int (8 : Int32), .int v4_b42]) [(49, .iload 4, 2, .null), (51, .bipush 8, 2, .int (8 : Int32))] (by decide +kernel) rfl ?_
                have J126 : ∀ (s_j126 : st_) (H_j126 : Heap), has_ E H_j126 a ly_O s_j126 → sm_ H H_j126 a 10 → fX8_laysRest_j126 v4_b42 s_j126 = some y42 → aw E mX8_laysRest Q 126 [(0, .ref a), (1, .int i0), (3, .int v3_b35), (4, .int v4_b42)] [] H_j126 0 0 := by
                  intro s_j126 H_j126 h0 hs hm
                  unfold fX8_laysRest_j126 at hm
                  refine aw_b (pc' := 42) (lv' := [(4, .int (v4_b42 + (1 : Int32))), (0, .ref a), (1, .int i0), (3, .int v3_b35)]) (st' := []) [(126, .iinc 4 1, 3, .int (1 : Int32)), (129, .goto (-87), 3, .null)] (by decide +kernel) rfl ?_
                  cases hm
                  refine aw_lv (lv' := [(0, .ref a), (1, .int i0), (3, .int v3_b35), (4, .int (v4_b42 + (1 : Int32)))]) [1, 2, 3, 0] rfl ?_
                  exact ih42 (v4_b42 + (1 : Int32)) s_j126 H_j126 h0 hs hk42
                have J68 : ∀ (H_j68 : Heap), has_ E H_j68 a ly_O s_b42 → sm_ H H_j68 a 10 → fX8_laysRest_j68 i0 v3_b35 v4_b42 s_b42 = some y42 → aw E mX8_laysRest Q 68 [(0, .ref a), (1, .int i0), (3, .int v3_b35), (4, .int v4_b42)] [] H_j68 0 0 := by
                  intro H_j68 h0 hs hm
                  unfold fX8_laysRest_j68 at hm
                  refine aw_ldcw (v := (2147483647 : Int32)) kwX8_337 (by decide +kernel) ?_
                  refine aw_b (pc' := 76) (lv' := [(6, .int (0 : Int32)), (5, .int (2147483647 : Int32)), (0, .ref a), (1, .int i0), (3, .int v3_b35), (4, .int v4_b42)]) (st' := []) [(71, .istore 5, 2, .null), (73, .iconst 0, 1, .int (0 : Int32)), (74, .istore 6, 2, .null)] (by decide +kernel) rfl ?_
                  obtain ⟨x76, hx76, hr76⟩ := bn_x hm
                  have X76_113 : ∀ (v5_x76_113 : Int32) (H_x76_113 : Heap), has_ E H_x76_113 a ly_O s_b42 → sm_ H H_x76_113 a 10 → fX8_laysRest_x76_113 v3_b35 v4_b42 s_b42 v5_x76_113 = some y42 → aw E mX8_laysRest Q 113 [(0, .ref a), (1, .int i0), (3, .int v3_b35), (4, .int v4_b42), (5, .int v5_x76_113)] [] H_x76_113 0 0 := by
                    intro v5_x76_113 H_x76_113 h0 hs hm
                    unfold fX8_laysRest_x76_113 at hm
                    refine aw_b (pc' := 114) (lv' := [(0, .ref a), (1, .int i0), (3, .int v3_b35), (4, .int v4_b42), (5, .int v5_x76_113)]) (st' := [.ref a]) [(113, .aload_n 0, 1, .null)] (by decide +kernel) rfl ?_
                    refine aw_gl (v := .ref (a + 9)) a 0 h0 eo_O_0 fgX8_35 rfl (by decide +kernel) ?_
                    refine aw_b (pc' := 120) (lv' := [(0, .ref a), (1, .int i0), (3, .int v3_b35), (4, .int v4_b42), (5, .int v5_x76_113)]) (st' := [.int v4_b42, .int v3_b35, .ref (a + 9)]) [(117, .iload_n 3, 1, .null), (118, .iload 4, 2, .null)] (by decide +kernel) rfl ?_
                    obtain ⟨r1, e2, hm⟩ := bn_x hm
                    refine aw_cs (rest := [.ref (a + 9)]) (st1 := [.int r1, .ref (a + 9)]) (kX8_restAt e2) rfl rfl ckX8_restAt lkX8_431 nkX8_restAt rfl rfl rfl (Nat.le_of_ble_eq_true rfl) (Nat.zero_le _) (Nat.zero_le _) (by decide +kernel) (fun H3 z4 => ?_)
                    have h0 := h0.kept0 z4
                    have hs := hs.step0 z4
                    refine aw_b (pc' := 125) (lv' := [(0, .ref a), (1, .int i0), (3, .int v3_b35), (4, .int v4_b42), (5, .int v5_x76_113)]) (st' := [.int v5_x76_113, .int r1, .ref (a + 9)]) [(123, .iload 5, 2, .null)] (by decide +kernel) rfl ?_
                    obtain ⟨g5, hm⟩ := gd_x hm
                    obtain ⟨s6, e7, hm⟩ := bd_x hm
                    refine aw_isl a 9 h0 rfl hf g5 e7 (by decide +kernel) (fun H8 h0 z9 => ?_)
                    have hs := hs.step z9 (by omega) (by omega)
                    refine aw_lv (lv' := [(0, .ref a), (1, .int i0), (3, .int v3_b35), (4, .int v4_b42)]) [0, 1, 2, 3] rfl ?_
                    exact J126 s6 H8 h0 hs hm
                  have L76 : ∀ (fu : Nat) (v5_b76 : Int32) (v6_b76 : Int32) (H_b76 : Heap), has_ E H_b76 a ly_O s_b42 → sm_ H H_b76 a 10 → fX8_laysRest_l76 i0 v3_b35 v4_b42 s_b42 fu (v5_b76, v6_b76) = some x76 → aw E mX8_laysRest Q 76 [(0, .ref a), (1, .int i0), (3, .int v3_b35), (4, .int v4_b42), (5, .int v5_b76), (6, .int v6_b76)] [] H_b76 0 0 := by
                    intro fu
                    induction fu with
                    | zero =>
                      intro v5_b76 v6_b76 H_b76 h0 hs hm
                      exact (it_0 hm).elim
                    | succ fu ih76 =>
                      intro v5_b76 v6_b76 H_b76 h0 hs hm
                      obtain ⟨y76, hm, hk76⟩ := it_s hm
                      have hm : fX8_laysRest_b76 i0 v3_b35 v4_b42 s_b42 v5_b76 v6_b76 = some y76 := hm
                      unfold fX8_laysRest_b76 at hm
                      refine aw_b (pc' := 79) (lv' := [(0, .ref a), (1, .int i0), (3, .int v3_b35), (4, .int v4_b42), (5, .int v5_b76), (6, .int v6_b76)]) (st' := [.int i0, .int v6_b76]) [(76, .iload 6, 2, .null), (78, .iload_n 1, 1, .null)] (by decide +kernel) rfl ?_
                      refine aw_ic_ge (off := 34) 113 (by decide) (by decide +kernel) (fun hc => ?_) (fun hc => ?_)
                      · have hm := (if_pos hc).symm.trans hm
                        cases hm
                        refine aw_lv (lv' := [(0, .ref a), (1, .int i0), (3, .int v3_b35), (4, .int v4_b42), (5, .int v5_b76)]) [0, 1, 2, 3, 4] rfl ?_
                        exact X76_113 v5_b76 H_b76 h0 hs ((congrArg (fX8_laysRest_k76 v3_b35 v4_b42 s_b42) (show (v5_b76) = x76 from hk76)).trans hr76)
                      · have hm := (if_neg hc).symm.trans hm
                        refine aw_b (pc' := 88) (lv' := [(0, .ref a), (1, .int i0), (3, .int v3_b35), (4, .int v4_b42), (5, .int v5_b76), (6, .int v6_b76)]) (st' := [.int ((v3_b35 >>> (v6_b76 &&& 31)) &&& (1 : Int32))]) [(82, .iload_n 3, 1, .null), (83, .iload 6, 2, .null), (85, .ishr, 1, .null), (86, .iconst 1, 1, .int (1 : Int32)), (87, .iand, 1, .null)] (by decide +kernel) rfl ?_
                        have J107 : ∀ (v5_j107 : Int32) (H_j107 : Heap), has_ E H_j107 a ly_O s_b42 → sm_ H H_j107 a 10 → fX8_laysRest_j107 v6_b76 v5_j107 = some y76 → aw E mX8_laysRest Q 107 [(0, .ref a), (1, .int i0), (3, .int v3_b35), (4, .int v4_b42), (5, .int v5_j107), (6, .int v6_b76)] [] H_j107 0 0 := by
                          intro v5_j107 H_j107 h0 hs hm
                          unfold fX8_laysRest_j107 at hm
                          refine aw_b (pc' := 76) (lv' := [(6, .int (v6_b76 + (1 : Int32))), (0, .ref a), (1, .int i0), (3, .int v3_b35), (4, .int v4_b42), (5, .int v5_j107)]) (st' := []) [(107, .iinc 6 1, 3, .int (1 : Int32)), (110, .goto (-34), 3, .null)] (by decide +kernel) rfl ?_
                          cases hm
                          refine aw_lv (lv' := [(0, .ref a), (1, .int i0), (3, .int v3_b35), (4, .int v4_b42), (5, .int v5_j107), (6, .int (v6_b76 + (1 : Int32)))]) [1, 2, 3, 4, 5, 0] rfl ?_
                          exact ih76 v5_j107 (v6_b76 + (1 : Int32)) H_j107 h0 hs hk76
                        refine aw_if_ne (off := 19) 107 (by decide) (by decide +kernel) (fun hc => ?_) (fun hc => ?_)
                        · have hm := (if_neg hc).symm.trans hm
                          exact J107 v5_b76 H_b76 h0 hs hm
                        · have hm := (if_pos hc).symm.trans hm
                          refine aw_b (pc' := 99) (lv' := [(0, .ref a), (1, .int i0), (3, .int v3_b35), (4, .int v4_b42), (5, .int v5_b76), (6, .int v6_b76)]) (st' := [.int v6_b76, .int v4_b42, .int v3_b35, .ref a, .int v5_b76]) [(91, .iload 5, 2, .null), (93, .aload_n 0, 1, .null), (94, .iload_n 3, 1, .null), (95, .iload 4, 2, .null), (97, .iload 6, 2, .null)] (by decide +kernel) rfl ?_
                          obtain ⟨r10, e11, hm⟩ := bn_x hm
                          refine aw_cv (rest := [.int v5_b76]) (st1 := [.int r10, .int v5_b76]) a 0 (kX8_through e11 h0) rfl rfl ckX8_through lkX8_434 h0 eo_O_0 ⟨_, _, rfl⟩ nkX8_through rfl rfl rfl (Nat.le_of_ble_eq_true rfl) (Nat.zero_le _) (Nat.zero_le _) (by decide +kernel) (fun H12 z13 => ?_)
                          have h0 := h0.kept0 z13
                          have hs := hs.step0 z13
                          refine aw_mn (rest := []) mtX8_308 rfl (Nat.le_of_ble_eq_true rfl) (Nat.zero_le _) (Nat.zero_le _) (by decide +kernel) ?_
                          refine aw_b (pc' := 107) (lv' := [(5, .int (if r10 < v5_b76 then r10 else v5_b76)), (0, .ref a), (1, .int i0), (3, .int v3_b35), (4, .int v4_b42), (6, .int v6_b76)]) (st' := []) [(105, .istore 5, 2, .null)] (by decide +kernel) rfl ?_
                          refine aw_lv (lv' := [(0, .ref a), (1, .int i0), (3, .int v3_b35), (4, .int v4_b42), (5, .int (if r10 < v5_b76 then r10 else v5_b76)), (6, .int v6_b76)]) [1, 2, 3, 4, 0, 5] rfl ?_
                          exact J107 (if r10 < v5_b76 then r10 else v5_b76) H12 h0 hs hm
                  refine aw_lv (lv' := [(0, .ref a), (1, .int i0), (3, .int v3_b35), (4, .int v4_b42), (5, .int (2147483647 : Int32)), (6, .int (0 : Int32))]) [2, 3, 4, 5, 1, 0] rfl ?_
                  exact L76 FU_ (2147483647 : Int32) (0 : Int32) H_j68 h0 hs hx76
                refine aw_ic_ge (off := 15) 68 (by decide) (by decide +kernel) (fun hc => ?_) (fun hc => ?_)
                · have hm := (if_pos hc).symm.trans hm
                  exact J68 H_b42 h0 hs hm
                · have hm := (if_neg hc).symm.trans hm
                  refine aw_b (pc' := 62) (lv' := [(0, .ref a), (1, .int i0), (3, .int v3_b35), (4, .int v4_b42)]) (st' := [.int ((v3_b35 >>> (v4_b42 &&& 31)) &&& (1 : Int32))]) [(56, .iload_n 3, 1, .null), (57, .iload 4, 2, .null), (59, .ishr, 1, .null), (60, .iconst 1, 1, .int (1 : Int32)), (61, .iand, 1, .null)] (by decide +kernel) rfl ?_
                  refine aw_if_ne (off := 6) 68 (by decide) (by decide +kernel) (fun hc => ?_) (fun hc => ?_)
                  · have hm := (if_neg hc).symm.trans hm
                    exact J68 H_b42 h0 hs hm
                  · have hm := (if_pos hc).symm.trans hm
                    refine aw_b (pc' := 126) (lv' := [(0, .ref a), (1, .int i0), (3, .int v3_b35), (4, .int v4_b42)]) (st' := []) [(65, .goto 61, 3, .null)] (by decide +kernel) rfl ?_
                    exact J126 s_b42 H_b42 h0 hs hm
          refine aw_lv (lv' := [(0, .ref a), (1, .int i0), (3, .int v3_b35), (4, .int (0 : Int32))]) [1, 2, 3, 0] rfl ?_
          exact L42 FU_ (0 : Int32) s_b35 H_b35 h0 hs hx42
    refine aw_lv (lv' := [(0, .ref a), (1, .int i0), (3, .int ((((1 : Int32) <<< (i0 &&& 31)) - (1 : Int32)) - (1 : Int32)))]) [1, 2, 0] rfl ?_
    exact L35 FU_ ((((1 : Int32) <<< (i0 &&& 31)) - (1 : Int32)) - (1 : Int32)) s_x8_31 H_x8_31 h0 hs hx35
  have L8 : ∀ (fu : Nat) (v3_b8 : Int32) (s_b8 : st_) (H_b8 : Heap), has_ E H_b8 a ly_O s_b8 → sm_ H H_b8 a 10 → fX8_laysRest_l8 i0 fu (v3_b8, s_b8) = some x8 → aw E mX8_laysRest Q 8 [(0, .ref a), (1, .int i0), (2, .int (((1 : Int32) <<< (i0 &&& 31)) - (1 : Int32))), (3, .int v3_b8)] [] H_b8 0 0 := by
    intro fu
    induction fu with
    | zero =>
      intro v3_b8 s_b8 H_b8 h0 hs hm
      exact (it_0 hm).elim
    | succ fu ih8 =>
      intro v3_b8 s_b8 H_b8 h0 hs hm
      obtain ⟨y8, hm, hk8⟩ := it_s hm
      have hm : fX8_laysRest_b8 i0 v3_b8 s_b8 = some y8 := hm
      unfold fX8_laysRest_b8 at hm
      refine aw_b (pc' := 11) (lv' := [(0, .ref a), (1, .int i0), (2, .int (((1 : Int32) <<< (i0 &&& 31)) - (1 : Int32))), (3, .int v3_b8)]) (st' := [.int (8 : Int32), .int v3_b8]) [(8, .iload_n 3, 1, .null), (9, .bipush 8, 2, .int (8 : Int32))] (by decide +kernel) rfl ?_
      refine aw_ic_gt (off := 20) 31 (by decide) (by decide +kernel) (fun hc => ?_) (fun hc => ?_)
      · have hm := (if_pos hc).symm.trans hm
        cases hm
        refine aw_lv (lv' := [(0, .ref a), (1, .int i0), (2, .int (((1 : Int32) <<< (i0 &&& 31)) - (1 : Int32)))]) [0, 1, 2] rfl ?_
        exact X8_31 s_b8 H_b8 h0 hs ((congrArg (fX8_laysRest_k8 i0) (show (s_b8) = x8 from hk8)).trans hr8)
      · have hm := (if_neg hc).symm.trans hm
        refine aw_b (pc' := 15) (lv' := [(0, .ref a), (1, .int i0), (2, .int (((1 : Int32) <<< (i0 &&& 31)) - (1 : Int32))), (3, .int v3_b8)]) (st' := [.ref a]) [(14, .aload_n 0, 1, .null)] (by decide +kernel) rfl ?_
        refine aw_gl (v := .ref (a + 9)) a 0 h0 eo_O_0 fgX8_35 rfl (by decide +kernel) ?_
        refine aw_b (pc' := 20) (lv' := [(0, .ref a), (1, .int i0), (2, .int (((1 : Int32) <<< (i0 &&& 31)) - (1 : Int32))), (3, .int v3_b8)]) (st' := [.int v3_b8, .int (((1 : Int32) <<< (i0 &&& 31)) - (1 : Int32)), .ref (a + 9)]) [(18, .iload_n 2, 1, .null), (19, .iload_n 3, 1, .null)] (by decide +kernel) rfl ?_
        obtain ⟨r14, e15, hm⟩ := bn_x hm
        refine aw_cs (rest := [.ref (a + 9)]) (st1 := [.int r14, .ref (a + 9)]) (kX8_restAt e15) rfl rfl ckX8_restAt lkX8_431 nkX8_restAt rfl rfl rfl (Nat.le_of_ble_eq_true rfl) (Nat.zero_le _) (Nat.zero_le _) (by decide +kernel) (fun H16 z17 => ?_)
        have h0 := h0.kept0 z17
        have hs := hs.step0 z17
        refine aw_b (pc' := 24) (lv' := [(0, .ref a), (1, .int i0), (2, .int (((1 : Int32) <<< (i0 &&& 31)) - (1 : Int32))), (3, .int v3_b8)]) (st' := [.int (0 : Int32), .int r14, .ref (a + 9)]) [(23, .iconst 0, 1, .int (0 : Int32))] (by decide +kernel) rfl ?_
        obtain ⟨g18, hm⟩ := gd_x hm
        obtain ⟨s19, e20, hm⟩ := bd_x hm
        refine aw_isl a 9 h0 rfl hf g18 e20 (by decide +kernel) (fun H21 h0 z22 => ?_)
        have hs := hs.step z22 (by omega) (by omega)
        refine aw_b (pc' := 8) (lv' := [(3, .int (v3_b8 + (1 : Int32))), (0, .ref a), (1, .int i0), (2, .int (((1 : Int32) <<< (i0 &&& 31)) - (1 : Int32)))]) (st' := []) [(25, .iinc 3 1, 3, .int (1 : Int32)), (28, .goto (-20), 3, .null)] (by decide +kernel) rfl ?_
        cases hm
        refine aw_lv (lv' := [(0, .ref a), (1, .int i0), (2, .int (((1 : Int32) <<< (i0 &&& 31)) - (1 : Int32))), (3, .int (v3_b8 + (1 : Int32)))]) [1, 2, 3, 0] rfl ?_
        exact ih8 (v3_b8 + (1 : Int32)) s19 H21 h0 hs hk8
  refine aw_lv (lv' := [(0, .ref a), (1, .int i0), (2, .int (((1 : Int32) <<< (i0 &&& 31)) - (1 : Int32))), (3, .int (0 : Int32))]) [2, 3, 1, 0] rfl ?_
  exact L8 FU_ (0 : Int32) s H h0 hs hx8
def mX8_optimum : mt_ := (yX8_optimum, cX8_optimum, 2, some .int, [], { frames := 5, locals := 114, cells := 0, slots := 0 })
theorem ckX8_optimum : cokV_ mX8_optimum := ⟨⟨(uw_mem 1915 (by decide +kernel) (by decide +kernel)), (uw_mem 112 (by decide +kernel) (by decide +kernel)), by decide +kernel, by decide +kernel⟩, (uw_mem 1913 (by decide +kernel) (by decide +kernel)), (uw_mem 1914 (by decide +kernel) (by decide +kernel))⟩
theorem nkX8_optimum : nok_ mX8_optimum 1 := by decide +kernel
theorem kwX8_437 : Cond.constantLong RX8 437 (8 : Int64) ∈ uw_ := (uw_mem 1916 (by decide +kernel) (by decide +kernel))
theorem lkX8_439 : Cond.methodLink RX8 439 yX8_laysRest ∈ uw_ := (uw_mem 1917 (by decide +kernel) (by decide +kernel))
def fX8_optimum_j18 (s : st_) (i0 : Int32) (z1_j18 : Int32) : Option (st_ × Int32) :=
  bn_ (fX8_wrong s z1_j18) fun r5 =>
  if r5.2 = (0 : Int32) then (bn_ (fX8_armOf r5.1 (6 : Int32) (2 : Int32)) fun r9 =>
  if i0 ≤ r9 then (bn_ (fX8_laysRest r5.1 i0) fun r13 =>
  bn_ (fX8_restAt (0 : Int32) (8 : Int32)) fun r17 =>
  gd_ (ib_ r17 2304) <|
  some (r13, (r13 9 (ix_ r17))))
  else (some (r5.1, (-1 : Int32))))
  else (some (r5.1, (0 : Int32)))
def fX8_optimum (s : st_) (i0 : Int32) : Option (st_ × Int32) :=
  bn_ (fX8_in (Int32.toInt64 i0) (0 : Int64) (8 : Int64)) fun r1 =>
  if r1 = (0 : Int32) then (fX8_optimum_j18 s i0 (1 : Int32))
  else (fX8_optimum_j18 s i0 (0 : Int32))
set_option maxRecDepth 8000 in
theorem kX8_optimum {E : ev_} {H : Heap} {a : Nat} {s : st_} {i0 : Int32} {r : st_ × Int32} (hm : fX8_optimum s i0 = some r) (h0 : has_ E H a ly_O s) (hf : ev_fr E a) : sp_ E mX8_optimum [.ref a, .int i0] H (po1 (.inl (some (.int r.2))) (fun Hn => sm_ H Hn a 10 ∧ has_ E Hn a ly_O r.1)) := by
  refine sp_of (by decide +kernel) rfl rfl ?_
  generalize hQ : po1 _ _ = Q
  have hs : sm_ H H a 10 := sm_.rfl'
  unfold fX8_optimum at hm
  refine aw_lv (lv' := [(0, .ref a), (1, .int i0)]) [0, 1] rfl ?_
  refine aw_b (pc' := 4) (lv' := [(0, .ref a), (1, .int i0)]) (st' := [.long (0 : Int64), .long (Int32.toInt64 i0), .ref a]) [(0, .aload_n 0, 1, .null), (1, .iload_n 1, 1, .null), (2, .i2l, 1, .null), (3, .lconst 0, 1, .long (0 : Int64))] (by decide +kernel) rfl ?_
  refine aw_ldc2 (v := (8 : Int64)) kwX8_437 (by decide +kernel) ?_
  obtain ⟨r1, e2, hm⟩ := bn_x hm
  refine aw_cs (rest := [.ref a]) (st1 := [.int r1, .ref a]) (kX8_in e2) rfl rfl ckX8_in lkX8_70 nkX8_in rfl rfl rfl (Nat.le_of_ble_eq_true rfl) (Nat.zero_le _) (Nat.zero_le _) (by decide +kernel) (fun H3 z4 => ?_)
  have h0 := h0.kept0 z4
  have hs := hs.step0 z4
  have J18 : ∀ (z1_j18 : Int32) (H_j18 : Heap), has_ E H_j18 a ly_O s → sm_ H H_j18 a 10 → fX8_optimum_j18 s i0 z1_j18 = some r → aw E mX8_optimum Q 18 [(0, .ref a), (1, .int i0)] [.int z1_j18, .ref a] H_j18 0 0 := by
    intro z1_j18 H_j18 h0 hs hm
    unfold fX8_optimum_j18 at hm
    obtain ⟨r5, e6, hm⟩ := bn_x hm
    refine aw_cv (rest := []) (st1 := [.int r5.2]) a 0 (kX8_wrong e6 h0 hf) rfl rfl ckX8_wrong lkX8_221 h0 eo_O_0 ⟨_, _, rfl⟩ nkX8_wrong rfl rfl rfl (Nat.le_of_ble_eq_true rfl) (Nat.zero_le _) (Nat.zero_le _) (by decide +kernel) (fun H7 z8 => ?_)
    obtain ⟨z8, hn⟩ := z8
    have h0 := hn
    have hs := hs.step z8 (by omega) (by omega)
    refine aw_if_eq (off := 5) 26 (by decide) (by decide +kernel) (fun hc => ?_) (fun hc => ?_)
    · have hm := (if_pos hc).symm.trans hm
      refine aw_b (pc' := 30) (lv' := [(0, .ref a), (1, .int i0)]) (st' := [.int (2 : Int32), .int (6 : Int32), .ref a]) [(26, .aload_n 0, 1, .null), (27, .bipush 6, 2, .int (6 : Int32)), (29, .iconst 2, 1, .int (2 : Int32))] (by decide +kernel) rfl ?_
      obtain ⟨r9, e10, hm⟩ := bn_x hm
      refine aw_cv (rest := []) (st1 := [.int r9]) a 0 (kX8_armOf e10 h0) rfl rfl ckX8_armOf lkX8_232 h0 eo_O_0 ⟨_, _, rfl⟩ nkX8_armOf rfl rfl rfl (Nat.le_of_ble_eq_true rfl) (Nat.zero_le _) (Nat.zero_le _) (by decide +kernel) (fun H11 z12 => ?_)
      have h0 := h0.kept0 z12
      have hs := hs.step0 z12
      refine aw_b (pc' := 34) (lv' := [(0, .ref a), (1, .int i0)]) (st' := [.int i0, .int r9]) [(33, .iload_n 1, 1, .null)] (by decide +kernel) rfl ?_
      refine aw_ic_ge (off := 5) 39 (by decide) (by decide +kernel) (fun hc => ?_) (fun hc => ?_)
      · have hm := (if_pos hc).symm.trans hm
        refine aw_b (pc' := 41) (lv' := [(0, .ref a), (1, .int i0)]) (st' := [.int i0, .ref a]) [(39, .aload_n 0, 1, .null), (40, .iload_n 1, 1, .null)] (by decide +kernel) rfl ?_
        obtain ⟨r13, e14, hm⟩ := bn_x hm
        refine aw_cv (rest := []) (st1 := []) a 0 (kX8_laysRest e14 h0 hf) rfl rfl ckX8_laysRest lkX8_439 h0 eo_O_0 ⟨_, _, rfl⟩ nkX8_laysRest rfl rfl rfl (Nat.le_of_ble_eq_true rfl) (Nat.zero_le _) (Nat.zero_le _) (by decide +kernel) (fun H15 z16 => ?_)
        obtain ⟨z16, hn⟩ := z16
        have h0 := hn
        have hs := hs.step z16 (by omega) (by omega)
        refine aw_b (pc' := 45) (lv' := [(0, .ref a), (1, .int i0)]) (st' := [.ref a]) [(44, .aload_n 0, 1, .null)] (by decide +kernel) rfl ?_
        refine aw_gl (v := .ref (a + 9)) a 0 h0 eo_O_0 fgX8_35 rfl (by decide +kernel) ?_
        refine aw_b (pc' := 51) (lv' := [(0, .ref a), (1, .int i0)]) (st' := [.int (8 : Int32), .int (0 : Int32), .ref (a + 9)]) [(48, .iconst 0, 1, .int (0 : Int32)), (49, .bipush 8, 2, .int (8 : Int32))] (by decide +kernel) rfl ?_
        obtain ⟨r17, e18, hm⟩ := bn_x hm
        refine aw_cs (rest := [.ref (a + 9)]) (st1 := [.int r17, .ref (a + 9)]) (kX8_restAt e18) rfl rfl ckX8_restAt lkX8_431 nkX8_restAt rfl rfl rfl (Nat.le_of_ble_eq_true rfl) (Nat.zero_le _) (Nat.zero_le _) (by decide +kernel) (fun H19 z20 => ?_)
        have h0 := h0.kept0 z20
        have hs := hs.step0 z20
        obtain ⟨g21, hm⟩ := gd_x hm
        refine aw_ial a 9 h0 rfl g21 (by decide +kernel) ?_
        obtain rfl := Option.some.inj hm
        subst hQ
        exact aw_iret rfl (Nat.zero_le _) (Nat.zero_le _) (by decide +kernel) ⟨rfl, hs, h0⟩
      · have hm := (if_neg hc).symm.trans hm
        refine aw_b (pc' := 38) (lv' := [(0, .ref a), (1, .int i0)]) (st' := [.int (-1 : Int32)]) [(37, .iconst (-1), 1, .int (-1 : Int32))] (by decide +kernel) rfl ?_
        obtain rfl := Option.some.inj hm
        subst hQ
        exact aw_iret rfl (Nat.zero_le _) (Nat.zero_le _) (by decide +kernel) ⟨rfl, hs, h0⟩
    · have hm := (if_neg hc).symm.trans hm
      refine aw_b (pc' := 25) (lv' := [(0, .ref a), (1, .int i0)]) (st' := [.int (0 : Int32)]) [(24, .iconst 0, 1, .int (0 : Int32))] (by decide +kernel) rfl ?_
      obtain rfl := Option.some.inj hm
      subst hQ
      exact aw_iret rfl (Nat.zero_le _) (Nat.zero_le _) (by decide +kernel) ⟨rfl, hs, h0⟩
  refine aw_if_ne (off := 7) 17 (by decide) (by decide +kernel) (fun hc => ?_) (fun hc => ?_)
  · have hm := (if_neg hc).symm.trans hm
    refine aw_b (pc' := 18) (lv' := [(0, .ref a), (1, .int i0)]) (st' := [.int (0 : Int32), .ref a]) [(17, .iconst 0, 1, .int (0 : Int32))] (by decide +kernel) rfl ?_
    exact J18 (0 : Int32) H3 h0 hs hm
  · have hm := (if_pos hc).symm.trans hm
    refine aw_b (pc' := 18) (lv' := [(0, .ref a), (1, .int i0)]) (st' := [.int (1 : Int32), .ref a]) [(13, .iconst 1, 1, .int (1 : Int32)), (14, .goto 4, 3, .null)] (by decide +kernel) rfl ?_
    exact J18 (1 : Int32) H3 h0 hs hm
def mX8_optimumAt : mt_ := (yX8_optimumAt, cX8_optimumAt, 7, some .int, [], { frames := 5, locals := 114, cells := 0, slots := 0 })
theorem ckX8_optimumAt : cokV_ mX8_optimumAt := ⟨⟨(uw_mem 1941 (by decide +kernel) (by decide +kernel)), (uw_mem 112 (by decide +kernel) (by decide +kernel)), by decide +kernel, by decide +kernel⟩, (uw_mem 1939 (by decide +kernel) (by decide +kernel)), (uw_mem 1940 (by decide +kernel) (by decide +kernel))⟩
theorem nkX8_optimumAt : nok_ mX8_optimumAt 2 := by decide +kernel
def fX8_optimumAt_x66_131 (r17 : st_) (v4_x66_131 : Int32) : Option (st_ × Int32) :=
  some (r17, v4_x66_131)
def fX8_optimumAt_k66 (r17 : st_) (x : Int32) : Option (st_ × Int32) :=
  fX8_optimumAt_x66_131 r17 x
def fX8_optimumAt_x75_114 (v3_b66 : Int32) (v5_b66 : Int32) (v6_x75_114 : Int32) : Option ((Int32 × Int32 × Int32) ⊕ (Int32)) :=
  some (.inl ((v3_b66 ||| ((1 : Int32) <<< (v6_x75_114 &&& 31))), v6_x75_114, (v5_b66 + (1 : Int32))))
def fX8_optimumAt_k75 (v3_b66 : Int32) (v5_b66 : Int32) (x : Int32) : Option ((Int32 × Int32 × Int32) ⊕ (Int32)) :=
  fX8_optimumAt_x75_114 v3_b66 v5_b66 x
def fX8_optimumAt_j108 (v6_b75 : Int32) : Option ((Int32) ⊕ (Int32)) :=
  some (.inl (v6_b75 + (1 : Int32)))
def fX8_optimumAt_b75 (r17 : st_) (v3_b66 : Int32) (v4_b66 : Int32) (v6_b75 : Int32) : Option ((Int32) ⊕ (Int32)) :=
  if ((v3_b66 >>> (v6_b75 &&& 31)) &&& (1 : Int32)) = (1 : Int32) then (fX8_optimumAt_j108 v6_b75)
  else (bn_ (fX8_through r17 v3_b66 v4_b66 v6_b75) fun r21 =>
  bn_ (fX8_restAt v3_b66 v4_b66) fun r25 =>
  gd_ (ib_ r25 2304) <|
  if r21 = (r17 9 (ix_ r25)) then (some (.inr v6_b75))
  else (fX8_optimumAt_j108 v6_b75))
def fX8_optimumAt_l75 (r17 : st_) (v3_b66 : Int32) (v4_b66 : Int32) : Nat → Int32 → Option (Int32) :=
  it_ (fun v => fX8_optimumAt_b75 r17 v3_b66 v4_b66 v)
def fX8_optimumAt_b66 (i1 : Int32) (r17 : st_) (v3_b66 : Int32) (v4_b66 : Int32) (v5_b66 : Int32) : Option ((Int32 × Int32 × Int32) ⊕ (Int32)) :=
  if i1 < v5_b66 then (some (.inr v4_b66))
  else (bn_ (fX8_optimumAt_l75 r17 v3_b66 v4_b66 FU_ (0 : Int32)) (fX8_optimumAt_k75 v3_b66 v5_b66))
def fX8_optimumAt_l66 (i1 : Int32) (r17 : st_) : Nat → (Int32 × Int32 × Int32) → Option (Int32) :=
  it_ (fun v => fX8_optimumAt_b66 i1 r17 v.1 v.2.1 v.2.2)
def fX8_optimumAt_j18 (s : st_) (i0 : Int32) (i1 : Int32) (z1_j18 : Int32) : Option (st_ × Int32) :=
  bn_ (fX8_wrong s z1_j18) fun r5 =>
  if r5.2 = (0 : Int32) then (bn_ (fX8_armOf r5.1 (6 : Int32) (2 : Int32)) fun r9 =>
  if r9 < i0 then (some (r5.1, (-1 : Int32)))
  else (bn_ (fX8_in (Int32.toInt64 i1) (0 : Int64) (Int32.toInt64 (i0 - (1 : Int32)))) fun r13 =>
  if r13 = (0 : Int32) then (some (r5.1, (-1 : Int32)))
  else (bn_ (fX8_laysRest r5.1 i0) fun r17 =>
  bn_ (fX8_optimumAt_l66 i1 r17 FU_ ((0 : Int32), (8 : Int32), (0 : Int32))) (fX8_optimumAt_k66 r17))))
  else (some (r5.1, (0 : Int32)))
def fX8_optimumAt (s : st_) (i0 : Int32) (i1 : Int32) : Option (st_ × Int32) :=
  bn_ (fX8_in (Int32.toInt64 i0) (1 : Int64) (8 : Int64)) fun r1 =>
  if r1 = (0 : Int32) then (fX8_optimumAt_j18 s i0 i1 (1 : Int32))
  else (fX8_optimumAt_j18 s i0 i1 (0 : Int32))
set_option maxRecDepth 8000 in
theorem kX8_optimumAt {E : ev_} {H : Heap} {a : Nat} {s : st_} {i0 : Int32} {i1 : Int32} {r : st_ × Int32} (hm : fX8_optimumAt s i0 i1 = some r) (h0 : has_ E H a ly_O s) (hf : ev_fr E a) : sp_ E mX8_optimumAt [.ref a, .int i0, .int i1] H (po1 (.inl (some (.int r.2))) (fun Hn => sm_ H Hn a 10 ∧ has_ E Hn a ly_O r.1)) := by
  refine sp_of (by decide +kernel) rfl rfl ?_
  generalize hQ : po1 _ _ = Q
  have hs : sm_ H H a 10 := sm_.rfl'
  unfold fX8_optimumAt at hm
  refine aw_lv (lv' := [(0, .ref a), (1, .int i0), (2, .int i1)]) [0, 1, 2] rfl ?_
  refine aw_b (pc' := 4) (lv' := [(0, .ref a), (1, .int i0), (2, .int i1)]) (st' := [.long (1 : Int64), .long (Int32.toInt64 i0), .ref a]) [(0, .aload_n 0, 1, .null), (1, .iload_n 1, 1, .null), (2, .i2l, 1, .null), (3, .lconst 1, 1, .long (1 : Int64))] (by decide +kernel) rfl ?_
  refine aw_ldc2 (v := (8 : Int64)) kwX8_437 (by decide +kernel) ?_
  obtain ⟨r1, e2, hm⟩ := bn_x hm
  refine aw_cs (rest := [.ref a]) (st1 := [.int r1, .ref a]) (kX8_in e2) rfl rfl ckX8_in lkX8_70 nkX8_in rfl rfl rfl (Nat.le_of_ble_eq_true rfl) (Nat.zero_le _) (Nat.zero_le _) (by decide +kernel) (fun H3 z4 => ?_)
  have h0 := h0.kept0 z4
  have hs := hs.step0 z4
  have J18 : ∀ (z1_j18 : Int32) (H_j18 : Heap), has_ E H_j18 a ly_O s → sm_ H H_j18 a 10 → fX8_optimumAt_j18 s i0 i1 z1_j18 = some r → aw E mX8_optimumAt Q 18 [(0, .ref a), (1, .int i0), (2, .int i1)] [.int z1_j18, .ref a] H_j18 0 0 := by
    intro z1_j18 H_j18 h0 hs hm
    unfold fX8_optimumAt_j18 at hm
    obtain ⟨r5, e6, hm⟩ := bn_x hm
    refine aw_cv (rest := []) (st1 := [.int r5.2]) a 0 (kX8_wrong e6 h0 hf) rfl rfl ckX8_wrong lkX8_221 h0 eo_O_0 ⟨_, _, rfl⟩ nkX8_wrong rfl rfl rfl (Nat.le_of_ble_eq_true rfl) (Nat.zero_le _) (Nat.zero_le _) (by decide +kernel) (fun H7 z8 => ?_)
    obtain ⟨z8, hn⟩ := z8
    have h0 := hn
    have hs := hs.step z8 (by omega) (by omega)
    refine aw_if_eq (off := 5) 26 (by decide) (by decide +kernel) (fun hc => ?_) (fun hc => ?_)
    · have hm := (if_pos hc).symm.trans hm
      refine aw_b (pc' := 30) (lv' := [(0, .ref a), (1, .int i0), (2, .int i1)]) (st' := [.int (2 : Int32), .int (6 : Int32), .ref a]) [(26, .aload_n 0, 1, .null), (27, .bipush 6, 2, .int (6 : Int32)), (29, .iconst 2, 1, .int (2 : Int32))] (by decide +kernel) rfl ?_
      obtain ⟨r9, e10, hm⟩ := bn_x hm
      refine aw_cv (rest := []) (st1 := [.int r9]) a 0 (kX8_armOf e10 h0) rfl rfl ckX8_armOf lkX8_232 h0 eo_O_0 ⟨_, _, rfl⟩ nkX8_armOf rfl rfl rfl (Nat.le_of_ble_eq_true rfl) (Nat.zero_le _) (Nat.zero_le _) (by decide +kernel) (fun H11 z12 => ?_)
      have h0 := h0.kept0 z12
      have hs := hs.step0 z12
      refine aw_b (pc' := 34) (lv' := [(0, .ref a), (1, .int i0), (2, .int i1)]) (st' := [.int i0, .int r9]) [(33, .iload_n 1, 1, .null)] (by decide +kernel) rfl ?_
      refine aw_ic_lt (off := 16) 50 (by decide) (by decide +kernel) (fun hc => ?_) (fun hc => ?_)
      · have hm := (if_pos hc).symm.trans hm
        refine aw_b (pc' := 51) (lv' := [(0, .ref a), (1, .int i0), (2, .int i1)]) (st' := [.int (-1 : Int32)]) [(50, .iconst (-1), 1, .int (-1 : Int32))] (by decide +kernel) rfl ?_
        obtain rfl := Option.some.inj hm
        subst hQ
        exact aw_iret rfl (Nat.zero_le _) (Nat.zero_le _) (by decide +kernel) ⟨rfl, hs, h0⟩
      · have hm := (if_neg hc).symm.trans hm
        refine aw_b (pc' := 44) (lv' := [(0, .ref a), (1, .int i0), (2, .int i1)]) (st' := [.long (Int32.toInt64 (i0 - (1 : Int32))), .long (0 : Int64), .long (Int32.toInt64 i1)]) [(37, .iload_n 2, 1, .null), (38, .i2l, 1, .null), (39, .lconst 0, 1, .long (0 : Int64)), (40, .iload_n 1, 1, .null), (41, .iconst 1, 1, .int (1 : Int32)), (42, .isub, 1, .null), (43, .i2l, 1, .null)] (by decide +kernel) rfl ?_
        obtain ⟨r13, e14, hm⟩ := bn_x hm
        refine aw_cs (rest := []) (st1 := [.int r13]) (kX8_in e14) rfl rfl ckX8_in lkX8_70 nkX8_in rfl rfl rfl (Nat.le_of_ble_eq_true rfl) (Nat.zero_le _) (Nat.zero_le _) (by decide +kernel) (fun H15 z16 => ?_)
        have h0 := h0.kept0 z16
        have hs := hs.step0 z16
        refine aw_if_ne (off := 5) 52 (by decide) (by decide +kernel) (fun hc => ?_) (fun hc => ?_)
        · have hm := (if_neg hc).symm.trans hm
          refine aw_b (pc' := 54) (lv' := [(0, .ref a), (1, .int i0), (2, .int i1)]) (st' := [.int i0, .ref a]) [(52, .aload_n 0, 1, .null), (53, .iload_n 1, 1, .null)] (by decide +kernel) rfl ?_
          obtain ⟨r17, e18, hm⟩ := bn_x hm
          refine aw_cv (rest := []) (st1 := []) a 0 (kX8_laysRest e18 h0 hf) rfl rfl ckX8_laysRest lkX8_439 h0 eo_O_0 ⟨_, _, rfl⟩ nkX8_laysRest rfl rfl rfl (Nat.le_of_ble_eq_true rfl) (Nat.zero_le _) (Nat.zero_le _) (by decide +kernel) (fun H19 z20 => ?_)
          obtain ⟨z20, hn⟩ := z20
          have h0 := hn
          have hs := hs.step z20 (by omega) (by omega)
          refine aw_b (pc' := 66) (lv' := [(5, .int (0 : Int32)), (4, .int (8 : Int32)), (3, .int (0 : Int32)), (0, .ref a), (1, .int i0), (2, .int i1)]) (st' := []) [(57, .iconst 0, 1, .int (0 : Int32)), (58, .istore_n 3, 1, .null), (59, .bipush 8, 2, .int (8 : Int32)), (61, .istore 4, 2, .null), (63, .iconst 0, 1, .int (0 : Int32)), (64, .istore 5, 2, .null)] (by decide +kernel) rfl ?_
          obtain ⟨x66, hx66, hr66⟩ := bn_x hm
          have X66_131 : ∀ (v4_x66_131 : Int32) (H_x66_131 : Heap), has_ E H_x66_131 a ly_O r17 → sm_ H H_x66_131 a 10 → fX8_optimumAt_x66_131 r17 v4_x66_131 = some r → aw E mX8_optimumAt Q 131 [(4, .int v4_x66_131)] [] H_x66_131 0 0 := by
            intro v4_x66_131 H_x66_131 h0 hs hm
            unfold fX8_optimumAt_x66_131 at hm
            refine aw_b (pc' := 133) (lv' := [(4, .int v4_x66_131)]) (st' := [.int v4_x66_131]) [(131, .iload 4, 2, .null)] (by decide +kernel) rfl ?_
            obtain rfl := Option.some.inj hm
            subst hQ
            exact aw_iret rfl (Nat.zero_le _) (Nat.zero_le _) (by decide +kernel) ⟨rfl, hs, h0⟩
          have L66 : ∀ (fu : Nat) (v3_b66 : Int32) (v4_b66 : Int32) (v5_b66 : Int32) (H_b66 : Heap), has_ E H_b66 a ly_O r17 → sm_ H H_b66 a 10 → fX8_optimumAt_l66 i1 r17 fu (v3_b66, v4_b66, v5_b66) = some x66 → aw E mX8_optimumAt Q 66 [(0, .ref a), (2, .int i1), (3, .int v3_b66), (4, .int v4_b66), (5, .int v5_b66)] [] H_b66 0 0 := by
            intro fu
            induction fu with
            | zero =>
              intro v3_b66 v4_b66 v5_b66 H_b66 h0 hs hm
              exact (it_0 hm).elim
            | succ fu ih66 =>
              intro v3_b66 v4_b66 v5_b66 H_b66 h0 hs hm
              obtain ⟨y66, hm, hk66⟩ := it_s hm
              have hm : fX8_optimumAt_b66 i1 r17 v3_b66 v4_b66 v5_b66 = some y66 := hm
              unfold fX8_optimumAt_b66 at hm
              refine aw_b (pc' := 69) (lv' := [(0, .ref a), (2, .int i1), (3, .int v3_b66), (4, .int v4_b66), (5, .int v5_b66)]) (st' := [.int i1, .int v5_b66]) [(66, .iload 5, 2, .null), (68, .iload_n 2, 1, .null)] (by decide +kernel) rfl ?_
              refine aw_ic_gt (off := 62) 131 (by decide) (by decide +kernel) (fun hc => ?_) (fun hc => ?_)
              · have hm := (if_pos hc).symm.trans hm
                cases hm
                refine aw_lv (lv' := [(4, .int v4_b66)]) [3] rfl ?_
                exact X66_131 v4_b66 H_b66 h0 hs ((congrArg (fX8_optimumAt_k66 r17) (show (v4_b66) = x66 from hk66)).trans hr66)
              · have hm := (if_neg hc).symm.trans hm
                refine aw_b (pc' := 75) (lv' := [(6, .int (0 : Int32)), (0, .ref a), (2, .int i1), (3, .int v3_b66), (4, .int v4_b66), (5, .int v5_b66)]) (st' := []) [(72, .iconst 0, 1, .int (0 : Int32)), (73, .istore 6, 2, .null)] (by decide +kernel) rfl ?_
                obtain ⟨x75, hx75, hr75⟩ := bn_x hm
                have X75_114 : ∀ (v6_x75_114 : Int32) (H_x75_114 : Heap), has_ E H_x75_114 a ly_O r17 → sm_ H H_x75_114 a 10 → fX8_optimumAt_x75_114 v3_b66 v5_b66 v6_x75_114 = some y66 → aw E mX8_optimumAt Q 114 [(0, .ref a), (2, .int i1), (3, .int v3_b66), (5, .int v5_b66), (6, .int v6_x75_114)] [] H_x75_114 0 0 := by
                  intro v6_x75_114 H_x75_114 h0 hs hm
                  unfold fX8_optimumAt_x75_114 at hm
                  refine aw_b (pc' := 66) (lv' := [(5, .int (v5_b66 + (1 : Int32))), (4, .int v6_x75_114), (3, .int (v3_b66 ||| ((1 : Int32) <<< (v6_x75_114 &&& 31)))), (0, .ref a), (2, .int i1), (6, .int v6_x75_114)]) (st' := []) [(114, .iload_n 3, 1, .null), (115, .iconst 1, 1, .int (1 : Int32)), (116, .iload 6, 2, .null), (118, .ishl, 1, .null), (119, .ior, 1, .null), (120, .istore_n 3, 1, .null), (121, .iload 6, 2, .null), (123, .istore 4, 2, .null), (125, .iinc 5 1, 3, .int (1 : Int32)), (128, .goto (-62), 3, .null)] (by decide +kernel) rfl ?_
                  cases hm
                  refine aw_lv (lv' := [(0, .ref a), (2, .int i1), (3, .int (v3_b66 ||| ((1 : Int32) <<< (v6_x75_114 &&& 31)))), (4, .int v6_x75_114), (5, .int (v5_b66 + (1 : Int32)))]) [3, 4, 2, 1, 0] rfl ?_
                  exact ih66 (v3_b66 ||| ((1 : Int32) <<< (v6_x75_114 &&& 31))) v6_x75_114 (v5_b66 + (1 : Int32)) H_x75_114 h0 hs hk66
                have L75 : ∀ (fu : Nat) (v6_b75 : Int32) (H_b75 : Heap), has_ E H_b75 a ly_O r17 → sm_ H H_b75 a 10 → fX8_optimumAt_l75 r17 v3_b66 v4_b66 fu v6_b75 = some x75 → aw E mX8_optimumAt Q 75 [(0, .ref a), (2, .int i1), (3, .int v3_b66), (4, .int v4_b66), (5, .int v5_b66), (6, .int v6_b75)] [] H_b75 0 0 := by
                  intro fu
                  induction fu with
                  | zero =>
                    intro v6_b75 H_b75 h0 hs hm
                    exact (it_0 hm).elim
                  | succ fu ih75 =>
                    intro v6_b75 H_b75 h0 hs hm
                    obtain ⟨y75, hm, hk75⟩ := it_s hm
                    have hm : fX8_optimumAt_b75 r17 v3_b66 v4_b66 v6_b75 = some y75 := hm
                    unfold fX8_optimumAt_b75 at hm
                    refine aw_b (pc' := 82) (lv' := [(0, .ref a), (2, .int i1), (3, .int v3_b66), (4, .int v4_b66), (5, .int v5_b66), (6, .int v6_b75)]) (st' := [.int (1 : Int32), .int ((v3_b66 >>> (v6_b75 &&& 31)) &&& (1 : Int32))]) [(75, .iload_n 3, 1, .null), (76, .iload 6, 2, .null), (78, .ishr, 1, .null), (79, .iconst 1, 1, .int (1 : Int32)), (80, .iand, 1, .null), (81, .iconst 1, 1, .int (1 : Int32))] (by decide +kernel) rfl ?_
                    have J108 : ∀ (H_j108 : Heap), has_ E H_j108 a ly_O r17 → sm_ H H_j108 a 10 → fX8_optimumAt_j108 v6_b75 = some y75 → aw E mX8_optimumAt Q 108 [(0, .ref a), (2, .int i1), (3, .int v3_b66), (4, .int v4_b66), (5, .int v5_b66), (6, .int v6_b75)] [] H_j108 0 0 := by
                      intro H_j108 h0 hs hm
                      unfold fX8_optimumAt_j108 at hm
                      refine aw_b (pc' := 75) (lv' := [(6, .int (v6_b75 + (1 : Int32))), (0, .ref a), (2, .int i1), (3, .int v3_b66), (4, .int v4_b66), (5, .int v5_b66)]) (st' := []) [(108, .iinc 6 1, 3, .int (1 : Int32)), (111, .goto (-36), 3, .null)] (by decide +kernel) rfl ?_
                      cases hm
                      refine aw_lv (lv' := [(0, .ref a), (2, .int i1), (3, .int v3_b66), (4, .int v4_b66), (5, .int v5_b66), (6, .int (v6_b75 + (1 : Int32)))]) [1, 2, 3, 4, 5, 0] rfl ?_
                      exact ih75 (v6_b75 + (1 : Int32)) H_j108 h0 hs hk75
                    refine aw_ic_eq (off := 26) 108 (by decide) (by decide +kernel) (fun hc => ?_) (fun hc => ?_)
                    · have hm := (if_pos hc).symm.trans hm
                      exact J108 H_b75 h0 hs hm
                    · have hm := (if_neg hc).symm.trans hm
                      refine aw_b (pc' := 91) (lv' := [(0, .ref a), (2, .int i1), (3, .int v3_b66), (4, .int v4_b66), (5, .int v5_b66), (6, .int v6_b75)]) (st' := [.int v6_b75, .int v4_b66, .int v3_b66, .ref a]) [(85, .aload_n 0, 1, .null), (86, .iload_n 3, 1, .null), (87, .iload 4, 2, .null), (89, .iload 6, 2, .null)] (by decide +kernel) rfl ?_
                      obtain ⟨r21, e22, hm⟩ := bn_x hm
                      refine aw_cv (rest := []) (st1 := [.int r21]) a 0 (kX8_through e22 h0) rfl rfl ckX8_through lkX8_434 h0 eo_O_0 ⟨_, _, rfl⟩ nkX8_through rfl rfl rfl (Nat.le_of_ble_eq_true rfl) (Nat.zero_le _) (Nat.zero_le _) (by decide +kernel) (fun H23 z24 => ?_)
                      have h0 := h0.kept0 z24
                      have hs := hs.step0 z24
                      refine aw_b (pc' := 95) (lv' := [(0, .ref a), (2, .int i1), (3, .int v3_b66), (4, .int v4_b66), (5, .int v5_b66), (6, .int v6_b75)]) (st' := [.ref a, .int r21]) [(94, .aload_n 0, 1, .null)] (by decide +kernel) rfl ?_
                      refine aw_gl (v := .ref (a + 9)) a 0 h0 eo_O_0 fgX8_35 rfl (by decide +kernel) ?_
                      refine aw_b (pc' := 101) (lv' := [(0, .ref a), (2, .int i1), (3, .int v3_b66), (4, .int v4_b66), (5, .int v5_b66), (6, .int v6_b75)]) (st' := [.int v4_b66, .int v3_b66, .ref (a + 9), .int r21]) [(98, .iload_n 3, 1, .null), (99, .iload 4, 2, .null)] (by decide +kernel) rfl ?_
                      obtain ⟨r25, e26, hm⟩ := bn_x hm
                      refine aw_cs (rest := [.ref (a + 9), .int r21]) (st1 := [.int r25, .ref (a + 9), .int r21]) (kX8_restAt e26) rfl rfl ckX8_restAt lkX8_431 nkX8_restAt rfl rfl rfl (Nat.le_of_ble_eq_true rfl) (Nat.zero_le _) (Nat.zero_le _) (by decide +kernel) (fun H27 z28 => ?_)
                      have h0 := h0.kept0 z28
                      have hs := hs.step0 z28
                      obtain ⟨g29, hm⟩ := gd_x hm
                      refine aw_ial a 9 h0 rfl g29 (by decide +kernel) ?_
                      refine aw_ic_eq (off := 9) 114 (by decide) (by decide +kernel) (fun hc => ?_) (fun hc => ?_)
                      · have hm := (if_pos hc).symm.trans hm
                        cases hm
                        refine aw_lv (lv' := [(0, .ref a), (2, .int i1), (3, .int v3_b66), (5, .int v5_b66), (6, .int v6_b75)]) [0, 1, 2, 4, 5] rfl ?_
                        exact X75_114 v6_b75 H27 h0 hs ((congrArg (fX8_optimumAt_k75 v3_b66 v5_b66) (show (v6_b75) = x75 from hk75)).trans hr75)
                      · have hm := (if_neg hc).symm.trans hm
                        exact J108 H27 h0 hs hm
                refine aw_lv (lv' := [(0, .ref a), (2, .int i1), (3, .int v3_b66), (4, .int v4_b66), (5, .int v5_b66), (6, .int (0 : Int32))]) [1, 2, 3, 4, 5, 0] rfl ?_
                exact L75 FU_ (0 : Int32) H_b66 h0 hs hx75
          refine aw_lv (lv' := [(0, .ref a), (2, .int i1), (3, .int (0 : Int32)), (4, .int (8 : Int32)), (5, .int (0 : Int32))]) [3, 5, 2, 1, 0] rfl ?_
          exact L66 FU_ (0 : Int32) (8 : Int32) (0 : Int32) H19 h0 hs hx66
        · have hm := (if_pos hc).symm.trans hm
          refine aw_b (pc' := 51) (lv' := [(0, .ref a), (1, .int i0), (2, .int i1)]) (st' := [.int (-1 : Int32)]) [(50, .iconst (-1), 1, .int (-1 : Int32))] (by decide +kernel) rfl ?_
          obtain rfl := Option.some.inj hm
          subst hQ
          exact aw_iret rfl (Nat.zero_le _) (Nat.zero_le _) (by decide +kernel) ⟨rfl, hs, h0⟩
    · have hm := (if_neg hc).symm.trans hm
      refine aw_b (pc' := 25) (lv' := [(0, .ref a), (1, .int i0), (2, .int i1)]) (st' := [.int (0 : Int32)]) [(24, .iconst 0, 1, .int (0 : Int32))] (by decide +kernel) rfl ?_
      obtain rfl := Option.some.inj hm
      subst hQ
      exact aw_iret rfl (Nat.zero_le _) (Nat.zero_le _) (by decide +kernel) ⟨rfl, hs, h0⟩
  refine aw_if_ne (off := 7) 17 (by decide) (by decide +kernel) (fun hc => ?_) (fun hc => ?_)
  · have hm := (if_neg hc).symm.trans hm
    refine aw_b (pc' := 18) (lv' := [(0, .ref a), (1, .int i0), (2, .int i1)]) (st' := [.int (0 : Int32), .ref a]) [(17, .iconst 0, 1, .int (0 : Int32))] (by decide +kernel) rfl ?_
    exact J18 (0 : Int32) H3 h0 hs hm
  · have hm := (if_pos hc).symm.trans hm
    refine aw_b (pc' := 18) (lv' := [(0, .ref a), (1, .int i0), (2, .int i1)]) (st' := [.int (1 : Int32), .ref a]) [(13, .iconst 1, 1, .int (1 : Int32)), (14, .goto 4, 3, .null)] (by decide +kernel) rfl ?_
    exact J18 (1 : Int32) H3 h0 hs hm
def mX8_swapCost : mt_ := (yX8_swapCost, cX8_swapCost, 3, some .int, [], { frames := 3, locals := 67, cells := 0, slots := 0 })
theorem ckX8_swapCost : cokV_ mX8_swapCost := ⟨⟨(uw_mem 1945 (by decide +kernel) (by decide +kernel)), (uw_mem 112 (by decide +kernel) (by decide +kernel)), by decide +kernel, by decide +kernel⟩, (uw_mem 1943 (by decide +kernel) (by decide +kernel)), (uw_mem 1944 (by decide +kernel) (by decide +kernel))⟩
theorem nkX8_swapCost : nok_ mX8_swapCost 2 := by decide +kernel
def fX8_swapCost_j29 (s_j29 : st_) : Option (st_ × Int32) :=
  some (s_j29, (0 : Int32))
def fX8_swapCost_j22 (i0 : Int32) (i1 : Int32) (r1 : st_ × Int32) (z1_j22 : Int32) : Option (st_ × Int32) :=
  bn_ (fX8_throwsIf r1.1 z1_j22 (1 : Int32)) fun r9 =>
  if r9.2 = (0 : Int32) then (bn_ (fX8_swapAt i0 i1) fun r13 =>
  gd_ (ib_ r13 12584) <|
  some (r9.1, (r9.1 1 (ix_ r13))))
  else (fX8_swapCost_j29 r9.1)
def fX8_swapCost (s : st_) (i0 : Int32) (i1 : Int32) : Option (st_ × Int32) :=
  bn_ (fX8_noRule s i0) fun r1 =>
  if r1.2 = (0 : Int32) then (bn_ (fX8_isRule r1.1 i1) fun r5 =>
  if r5 = (0 : Int32) then (fX8_swapCost_j22 i0 i1 r1 (1 : Int32))
  else (fX8_swapCost_j22 i0 i1 r1 (0 : Int32)))
  else (fX8_swapCost_j29 r1.1)
set_option maxRecDepth 8000 in
theorem kX8_swapCost {E : ev_} {H : Heap} {a : Nat} {s : st_} {i0 : Int32} {i1 : Int32} {r : st_ × Int32} (hm : fX8_swapCost s i0 i1 = some r) (h0 : has_ E H a ly_O s) (hf : ev_fr E a) : sp_ E mX8_swapCost [.ref a, .int i0, .int i1] H (po1 (.inl (some (.int r.2))) (fun Hn => sm_ H Hn a 10 ∧ has_ E Hn a ly_O r.1)) := by
  refine sp_of (by decide +kernel) rfl rfl ?_
  generalize hQ : po1 _ _ = Q
  have hs : sm_ H H a 10 := sm_.rfl'
  unfold fX8_swapCost at hm
  refine aw_lv (lv' := [(0, .ref a), (1, .int i0), (2, .int i1)]) [0, 1, 2] rfl ?_
  refine aw_b (pc' := 2) (lv' := [(0, .ref a), (1, .int i0), (2, .int i1)]) (st' := [.int i0, .ref a]) [(0, .aload_n 0, 1, .null), (1, .iload_n 1, 1, .null)] (by decide +kernel) rfl ?_
  obtain ⟨r1, e2, hm⟩ := bn_x hm
  refine aw_cv (rest := []) (st1 := [.int r1.2]) a 0 (kX8_noRule e2 h0 hf) rfl rfl ckX8_noRule lkX8_227 h0 eo_O_0 ⟨_, _, rfl⟩ nkX8_noRule rfl rfl rfl (Nat.le_of_ble_eq_true rfl) (Nat.zero_le _) (Nat.zero_le _) (by decide +kernel) (fun H3 z4 => ?_)
  obtain ⟨z4, hn⟩ := z4
  have h0 := hn
  have hs := hs.step z4 (by omega) (by omega)
  have J29 : ∀ (s_j29 : st_) (H_j29 : Heap), has_ E H_j29 a ly_O s_j29 → sm_ H H_j29 a 10 → fX8_swapCost_j29 s_j29 = some r → aw E mX8_swapCost Q 29 [] [] H_j29 0 0 := by
    intro s_j29 H_j29 h0 hs hm
    unfold fX8_swapCost_j29 at hm
    refine aw_b (pc' := 43) (lv' := []) (st' := [.int (0 : Int32)]) [(29, .iconst 0, 1, .int (0 : Int32)), (30, .goto 13, 3, .null)] (by decide +kernel) rfl ?_
    obtain rfl := Option.some.inj hm
    subst hQ
    exact aw_iret rfl (Nat.zero_le _) (Nat.zero_le _) (by decide +kernel) ⟨rfl, hs, h0⟩
  refine aw_if_ne (off := 24) 29 (by decide) (by decide +kernel) (fun hc => ?_) (fun hc => ?_)
  · have hm := (if_neg hc).symm.trans hm
    refine aw_lv (lv' := []) [] rfl ?_
    exact J29 r1.1 H3 h0 hs hm
  · have hm := (if_pos hc).symm.trans hm
    refine aw_b (pc' := 11) (lv' := [(0, .ref a), (1, .int i0), (2, .int i1)]) (st' := [.int i1, .ref a, .ref a]) [(8, .aload_n 0, 1, .null), (9, .aload_n 0, 1, .null), (10, .iload_n 2, 1, .null)] (by decide +kernel) rfl ?_
    obtain ⟨r5, e6, hm⟩ := bn_x hm
    refine aw_cv (rest := [.ref a]) (st1 := [.int r5, .ref a]) a 0 (kX8_isRule e6 h0) rfl rfl ckX8_isRule lkX8_218 h0 eo_O_0 ⟨_, _, rfl⟩ nkX8_isRule rfl rfl rfl (Nat.le_of_ble_eq_true rfl) (Nat.zero_le _) (Nat.zero_le _) (by decide +kernel) (fun H7 z8 => ?_)
    have h0 := h0.kept0 z8
    have hs := hs.step0 z8
    have J22 : ∀ (z1_j22 : Int32) (H_j22 : Heap), has_ E H_j22 a ly_O r1.1 → sm_ H H_j22 a 10 → fX8_swapCost_j22 i0 i1 r1 z1_j22 = some r → aw E mX8_swapCost Q 22 [(0, .ref a), (1, .int i0), (2, .int i1)] [.int z1_j22, .ref a] H_j22 0 0 := by
      intro z1_j22 H_j22 h0 hs hm
      unfold fX8_swapCost_j22 at hm
      refine aw_b (pc' := 23) (lv' := [(0, .ref a), (1, .int i0), (2, .int i1)]) (st' := [.int (1 : Int32), .int z1_j22, .ref a]) [(22, .iconst 1, 1, .int (1 : Int32))] (by decide +kernel) rfl ?_
      obtain ⟨r9, e10, hm⟩ := bn_x hm
      refine aw_cv (rest := []) (st1 := [.int r9.2]) a 0 (kX8_throwsIf e10 h0 hf) rfl rfl ckX8_throwsIf lkX8_49 h0 eo_O_0 ⟨_, _, rfl⟩ nkX8_throwsIf rfl rfl rfl (Nat.le_of_ble_eq_true rfl) (Nat.zero_le _) (Nat.zero_le _) (by decide +kernel) (fun H11 z12 => ?_)
      obtain ⟨z12, hn⟩ := z12
      have h0 := hn
      have hs := hs.step z12 (by omega) (by omega)
      refine aw_if_eq (off := 7) 33 (by decide) (by decide +kernel) (fun hc => ?_) (fun hc => ?_)
      · have hm := (if_pos hc).symm.trans hm
        refine aw_b (pc' := 34) (lv' := [(0, .ref a), (1, .int i0), (2, .int i1)]) (st' := [.ref a]) [(33, .aload_n 0, 1, .null)] (by decide +kernel) rfl ?_
        refine aw_gl (v := .ref (a + 1)) a 0 h0 eo_O_0 fgX8_9 rfl (by decide +kernel) ?_
        refine aw_b (pc' := 39) (lv' := [(0, .ref a), (1, .int i0), (2, .int i1)]) (st' := [.int i1, .int i0, .ref (a + 1)]) [(37, .iload_n 1, 1, .null), (38, .iload_n 2, 1, .null)] (by decide +kernel) rfl ?_
        obtain ⟨r13, e14, hm⟩ := bn_x hm
        refine aw_cs (rest := [.ref (a + 1)]) (st1 := [.int r13, .ref (a + 1)]) (kX8_swapAt e14) rfl rfl ckX8_swapAt lkX8_368 nkX8_swapAt rfl rfl rfl (Nat.le_of_ble_eq_true rfl) (Nat.zero_le _) (Nat.zero_le _) (by decide +kernel) (fun H15 z16 => ?_)
        have h0 := h0.kept0 z16
        have hs := hs.step0 z16
        obtain ⟨g17, hm⟩ := gd_x hm
        refine aw_ial a 1 h0 rfl g17 (by decide +kernel) ?_
        obtain rfl := Option.some.inj hm
        subst hQ
        exact aw_iret rfl (Nat.zero_le _) (Nat.zero_le _) (by decide +kernel) ⟨rfl, hs, h0⟩
      · have hm := (if_neg hc).symm.trans hm
        refine aw_lv (lv' := []) [] rfl ?_
        exact J29 r9.1 H11 h0 hs hm
    refine aw_if_ne (off := 7) 21 (by decide) (by decide +kernel) (fun hc => ?_) (fun hc => ?_)
    · have hm := (if_neg hc).symm.trans hm
      refine aw_b (pc' := 22) (lv' := [(0, .ref a), (1, .int i0), (2, .int i1)]) (st' := [.int (0 : Int32), .ref a]) [(21, .iconst 0, 1, .int (0 : Int32))] (by decide +kernel) rfl ?_
      exact J22 (0 : Int32) H7 h0 hs hm
    · have hm := (if_pos hc).symm.trans hm
      refine aw_b (pc' := 22) (lv' := [(0, .ref a), (1, .int i0), (2, .int i1)]) (st' := [.int (1 : Int32), .ref a]) [(17, .iconst 1, 1, .int (1 : Int32)), (18, .goto 4, 3, .null)] (by decide +kernel) rfl ?_
      exact J22 (1 : Int32) H7 h0 hs hm
def mX8_bestSwapOf : mt_ := (yX8_bestSwapOf, cX8_bestSwapOf, 4, some .int, [], { frames := 1, locals := 21, cells := 0, slots := 0 })
theorem ckX8_bestSwapOf : cokV_ mX8_bestSwapOf := ⟨⟨(uw_mem 1956 (by decide +kernel) (by decide +kernel)), (uw_mem 112 (by decide +kernel) (by decide +kernel)), by decide +kernel, by decide +kernel⟩, (uw_mem 1955 (by decide +kernel) (by decide +kernel)), (uw_mem 82 (by decide +kernel) (by decide +kernel))⟩
theorem nkX8_bestSwapOf : nok_ mX8_bestSwapOf 1 := by decide +kernel
def fX8_bestSwapOf_x4_49 (v2_x4_49 : Int32) : Option (Int32) :=
  some v2_x4_49
def fX8_bestSwapOf_k4 (x : Int32) : Option (Int32) :=
  fX8_bestSwapOf_x4_49 x
def fX8_bestSwapOf_j42 (v3_b4 : Int32) (z0_j42 : Int32) : Option ((Int32 × Int32) ⊕ (Int32)) :=
  some (.inl (z0_j42, (v3_b4 + (1 : Int32))))
def fX8_bestSwapOf_b4 (s : st_) (i0 : Int32) (v2_b4 : Int32) (v3_b4 : Int32) : Option ((Int32 × Int32) ⊕ (Int32)) :=
  gd_ (ib_ (4 : Int32) 12584) <|
  if (s 1 (ix_ (4 : Int32))) ≤ v3_b4 then (some (.inr v2_b4))
  else (bn_ (fX8_swapAt i0 v3_b4) fun r2 =>
  gd_ (ib_ r2 12584) <|
  bn_ (fX8_swapAt i0 v2_b4) fun r7 =>
  gd_ (ib_ r7 12584) <|
  if (s 1 (ix_ r7)) ≤ (s 1 (ix_ r2)) then (fX8_bestSwapOf_j42 v3_b4 v2_b4)
  else (fX8_bestSwapOf_j42 v3_b4 v3_b4))
def fX8_bestSwapOf_l4 (s : st_) (i0 : Int32) : Nat → (Int32 × Int32) → Option (Int32) :=
  it_ (fun v => fX8_bestSwapOf_b4 s i0 v.1 v.2)
def fX8_bestSwapOf (s : st_) (i0 : Int32) : Option (Int32) :=
  bn_ (fX8_bestSwapOf_l4 s i0 FU_ ((0 : Int32), (1 : Int32))) (fX8_bestSwapOf_k4)
set_option maxRecDepth 8000 in
theorem kX8_bestSwapOf {E : ev_} {H : Heap} {a : Nat} {s : st_} {i0 : Int32} {r : Int32} (hm : fX8_bestSwapOf s i0 = some r) (h0 : has_ E H a ly_O s) : sp_ E mX8_bestSwapOf [.ref a, .int i0] H (po1 (.inl (some (.int r))) (fun Hn => sm_ H Hn 0 0)) := by
  refine sp_of (by decide +kernel) rfl rfl ?_
  generalize hQ : po1 _ _ = Q
  have hs : sm_ H H 0 0 := sm_.rfl'
  unfold fX8_bestSwapOf at hm
  refine aw_lv (lv' := [(0, .ref a), (1, .int i0)]) [0, 1] rfl ?_
  refine aw_b (pc' := 4) (lv' := [(3, .int (1 : Int32)), (2, .int (0 : Int32)), (0, .ref a), (1, .int i0)]) (st' := []) [(0, .iconst 0, 1, .int (0 : Int32)), (1, .istore_n 2, 1, .null), (2, .iconst 1, 1, .int (1 : Int32)), (3, .istore_n 3, 1, .null)] (by decide +kernel) rfl ?_
  obtain ⟨x4, hx4, hr4⟩ := bn_x hm
  have X4_49 : ∀ (v2_x4_49 : Int32) (H_x4_49 : Heap), has_ E H_x4_49 a ly_O s → sm_ H H_x4_49 0 0 → fX8_bestSwapOf_x4_49 v2_x4_49 = some r → aw E mX8_bestSwapOf Q 49 [(2, .int v2_x4_49)] [] H_x4_49 0 0 := by
    intro v2_x4_49 H_x4_49 h0 hs hm
    unfold fX8_bestSwapOf_x4_49 at hm
    refine aw_b (pc' := 50) (lv' := [(2, .int v2_x4_49)]) (st' := [.int v2_x4_49]) [(49, .iload_n 2, 1, .null)] (by decide +kernel) rfl ?_
    obtain rfl := Option.some.inj hm
    subst hQ
    exact aw_iret rfl (Nat.zero_le _) (Nat.zero_le _) (by decide +kernel) ⟨rfl, hs⟩
  have L4 : ∀ (fu : Nat) (v2_b4 : Int32) (v3_b4 : Int32) (H_b4 : Heap), has_ E H_b4 a ly_O s → sm_ H H_b4 0 0 → fX8_bestSwapOf_l4 s i0 fu (v2_b4, v3_b4) = some x4 → aw E mX8_bestSwapOf Q 4 [(0, .ref a), (1, .int i0), (2, .int v2_b4), (3, .int v3_b4)] [] H_b4 0 0 := by
    intro fu
    induction fu with
    | zero =>
      intro v2_b4 v3_b4 H_b4 h0 hs hm
      exact (it_0 hm).elim
    | succ fu ih4 =>
      intro v2_b4 v3_b4 H_b4 h0 hs hm
      obtain ⟨y4, hm, hk4⟩ := it_s hm
      have hm : fX8_bestSwapOf_b4 s i0 v2_b4 v3_b4 = some y4 := hm
      unfold fX8_bestSwapOf_b4 at hm
      refine aw_b (pc' := 6) (lv' := [(0, .ref a), (1, .int i0), (2, .int v2_b4), (3, .int v3_b4)]) (st' := [.ref a, .int v3_b4]) [(4, .iload_n 3, 1, .null), (5, .aload_n 0, 1, .null)] (by decide +kernel) rfl ?_
      refine aw_gl (v := .ref (a + 1)) a 0 h0 eo_O_0 fgX8_9 rfl (by decide +kernel) ?_
      refine aw_b (pc' := 10) (lv' := [(0, .ref a), (1, .int i0), (2, .int v2_b4), (3, .int v3_b4)]) (st' := [.int (4 : Int32), .ref (a + 1), .int v3_b4]) [(9, .iconst 4, 1, .int (4 : Int32))] (by decide +kernel) rfl ?_
      obtain ⟨g1, hm⟩ := gd_x hm
      refine aw_ial a 1 h0 rfl g1 (by decide +kernel) ?_
      refine aw_ic_ge (off := 38) 49 (by decide) (by decide +kernel) (fun hc => ?_) (fun hc => ?_)
      · have hm := (if_pos hc).symm.trans hm
        cases hm
        refine aw_lv (lv' := [(2, .int v2_b4)]) [2] rfl ?_
        exact X4_49 v2_b4 H_b4 h0 hs ((congrArg fX8_bestSwapOf_k4 (show (v2_b4) = x4 from hk4)).trans hr4)
      · have hm := (if_neg hc).symm.trans hm
        refine aw_b (pc' := 15) (lv' := [(0, .ref a), (1, .int i0), (2, .int v2_b4), (3, .int v3_b4)]) (st' := [.ref a]) [(14, .aload_n 0, 1, .null)] (by decide +kernel) rfl ?_
        refine aw_gl (v := .ref (a + 1)) a 0 h0 eo_O_0 fgX8_9 rfl (by decide +kernel) ?_
        refine aw_b (pc' := 20) (lv' := [(0, .ref a), (1, .int i0), (2, .int v2_b4), (3, .int v3_b4)]) (st' := [.int v3_b4, .int i0, .ref (a + 1)]) [(18, .iload_n 1, 1, .null), (19, .iload_n 3, 1, .null)] (by decide +kernel) rfl ?_
        obtain ⟨r2, e3, hm⟩ := bn_x hm
        refine aw_cs (rest := [.ref (a + 1)]) (st1 := [.int r2, .ref (a + 1)]) (kX8_swapAt e3) rfl rfl ckX8_swapAt lkX8_368 nkX8_swapAt rfl rfl rfl (Nat.le_of_ble_eq_true rfl) (Nat.zero_le _) (Nat.zero_le _) (by decide +kernel) (fun H4 z5 => ?_)
        have h0 := h0.kept0 z5
        have hs := hs.step0 z5
        obtain ⟨g6, hm⟩ := gd_x hm
        refine aw_ial a 1 h0 rfl g6 (by decide +kernel) ?_
        refine aw_b (pc' := 25) (lv' := [(0, .ref a), (1, .int i0), (2, .int v2_b4), (3, .int v3_b4)]) (st' := [.ref a, .int (s 1 (ix_ r2))]) [(24, .aload_n 0, 1, .null)] (by decide +kernel) rfl ?_
        refine aw_gl (v := .ref (a + 1)) a 0 h0 eo_O_0 fgX8_9 rfl (by decide +kernel) ?_
        refine aw_b (pc' := 30) (lv' := [(0, .ref a), (1, .int i0), (2, .int v2_b4), (3, .int v3_b4)]) (st' := [.int v2_b4, .int i0, .ref (a + 1), .int (s 1 (ix_ r2))]) [(28, .iload_n 1, 1, .null), (29, .iload_n 2, 1, .null)] (by decide +kernel) rfl ?_
        obtain ⟨r7, e8, hm⟩ := bn_x hm
        refine aw_cs (rest := [.ref (a + 1), .int (s 1 (ix_ r2))]) (st1 := [.int r7, .ref (a + 1), .int (s 1 (ix_ r2))]) (kX8_swapAt e8) rfl rfl ckX8_swapAt lkX8_368 nkX8_swapAt rfl rfl rfl (Nat.le_of_ble_eq_true rfl) (Nat.zero_le _) (Nat.zero_le _) (by decide +kernel) (fun H9 z10 => ?_)
        have h0 := h0.kept0 z10
        have hs := hs.step0 z10
        obtain ⟨g11, hm⟩ := gd_x hm
        refine aw_ial a 1 h0 rfl g11 (by decide +kernel) ?_
        have J42 : ∀ (z0_j42 : Int32) (H_j42 : Heap), has_ E H_j42 a ly_O s → sm_ H H_j42 0 0 → fX8_bestSwapOf_j42 v3_b4 z0_j42 = some y4 → aw E mX8_bestSwapOf Q 42 [(0, .ref a), (1, .int i0), (3, .int v3_b4)] [.int z0_j42] H_j42 0 0 := by
          intro z0_j42 H_j42 h0 hs hm
          unfold fX8_bestSwapOf_j42 at hm
          refine aw_b (pc' := 4) (lv' := [(3, .int (v3_b4 + (1 : Int32))), (2, .int z0_j42), (0, .ref a), (1, .int i0)]) (st' := []) [(42, .istore_n 2, 1, .null), (43, .iinc 3 1, 3, .int (1 : Int32)), (46, .goto (-42), 3, .null)] (by decide +kernel) rfl ?_
          cases hm
          refine aw_lv (lv' := [(0, .ref a), (1, .int i0), (2, .int z0_j42), (3, .int (v3_b4 + (1 : Int32)))]) [2, 3, 1, 0] rfl ?_
          exact ih4 z0_j42 (v3_b4 + (1 : Int32)) H_j42 h0 hs hk4
        refine aw_ic_ge (off := 7) 41 (by decide) (by decide +kernel) (fun hc => ?_) (fun hc => ?_)
        · have hm := (if_pos hc).symm.trans hm
          refine aw_b (pc' := 42) (lv' := [(0, .ref a), (1, .int i0), (2, .int v2_b4), (3, .int v3_b4)]) (st' := [.int v2_b4]) [(41, .iload_n 2, 1, .null)] (by decide +kernel) rfl ?_
          refine aw_lv (lv' := [(0, .ref a), (1, .int i0), (3, .int v3_b4)]) [0, 1, 3] rfl ?_
          exact J42 v2_b4 H9 h0 hs hm
        · have hm := (if_neg hc).symm.trans hm
          refine aw_b (pc' := 42) (lv' := [(0, .ref a), (1, .int i0), (2, .int v2_b4), (3, .int v3_b4)]) (st' := [.int v3_b4]) [(37, .iload_n 3, 1, .null), (38, .goto 4, 3, .null)] (by decide +kernel) rfl ?_
          refine aw_lv (lv' := [(0, .ref a), (1, .int i0), (3, .int v3_b4)]) [0, 1, 3] rfl ?_
          exact J42 v3_b4 H9 h0 hs hm
  refine aw_lv (lv' := [(0, .ref a), (1, .int i0), (2, .int (0 : Int32)), (3, .int (1 : Int32))]) [2, 3, 1, 0] rfl ?_
  exact L4 FU_ (0 : Int32) (1 : Int32) H h0 hs hx4
def mX8_bestSwap : mt_ := (yX8_bestSwap, cX8_bestSwap, 2, some .int, [], { frames := 3, locals := 67, cells := 0, slots := 0 })
theorem ckX8_bestSwap : cokV_ mX8_bestSwap := ⟨⟨(uw_mem 1952 (by decide +kernel) (by decide +kernel)), (uw_mem 112 (by decide +kernel) (by decide +kernel)), by decide +kernel, by decide +kernel⟩, (uw_mem 1950 (by decide +kernel) (by decide +kernel)), (uw_mem 1951 (by decide +kernel) (by decide +kernel))⟩
theorem nkX8_bestSwap : nok_ mX8_bestSwap 1 := by decide +kernel
theorem lkX8_442 : Cond.methodLink RX8 442 yX8_bestSwapOf ∈ uw_ := (uw_mem 1953 (by decide +kernel) (by decide +kernel))
def fX8_bestSwap (s : st_) (i0 : Int32) : Option (st_ × Int32) :=
  bn_ (fX8_noRule s i0) fun r1 =>
  if r1.2 = (0 : Int32) then (bn_ (fX8_bestSwapOf r1.1 i0) fun r5 =>
  some (r1.1, r5))
  else (some (r1.1, (0 : Int32)))
set_option maxRecDepth 8000 in
theorem kX8_bestSwap {E : ev_} {H : Heap} {a : Nat} {s : st_} {i0 : Int32} {r : st_ × Int32} (hm : fX8_bestSwap s i0 = some r) (h0 : has_ E H a ly_O s) (hf : ev_fr E a) : sp_ E mX8_bestSwap [.ref a, .int i0] H (po1 (.inl (some (.int r.2))) (fun Hn => sm_ H Hn a 10 ∧ has_ E Hn a ly_O r.1)) := by
  refine sp_of (by decide +kernel) rfl rfl ?_
  generalize hQ : po1 _ _ = Q
  have hs : sm_ H H a 10 := sm_.rfl'
  unfold fX8_bestSwap at hm
  refine aw_lv (lv' := [(0, .ref a), (1, .int i0)]) [0, 1] rfl ?_
  refine aw_b (pc' := 2) (lv' := [(0, .ref a), (1, .int i0)]) (st' := [.int i0, .ref a]) [(0, .aload_n 0, 1, .null), (1, .iload_n 1, 1, .null)] (by decide +kernel) rfl ?_
  obtain ⟨r1, e2, hm⟩ := bn_x hm
  refine aw_cv (rest := []) (st1 := [.int r1.2]) a 0 (kX8_noRule e2 h0 hf) rfl rfl ckX8_noRule lkX8_227 h0 eo_O_0 ⟨_, _, rfl⟩ nkX8_noRule rfl rfl rfl (Nat.le_of_ble_eq_true rfl) (Nat.zero_le _) (Nat.zero_le _) (by decide +kernel) (fun H3 z4 => ?_)
  obtain ⟨z4, hn⟩ := z4
  have h0 := hn
  have hs := hs.step z4 (by omega) (by omega)
  refine aw_if_eq (off := 7) 12 (by decide) (by decide +kernel) (fun hc => ?_) (fun hc => ?_)
  · have hm := (if_pos hc).symm.trans hm
    refine aw_b (pc' := 14) (lv' := [(0, .ref a), (1, .int i0)]) (st' := [.int i0, .ref a]) [(12, .aload_n 0, 1, .null), (13, .iload_n 1, 1, .null)] (by decide +kernel) rfl ?_
    obtain ⟨r5, e6, hm⟩ := bn_x hm
    refine aw_cv (rest := []) (st1 := [.int r5]) a 0 (kX8_bestSwapOf e6 h0) rfl rfl ckX8_bestSwapOf lkX8_442 h0 eo_O_0 ⟨_, _, rfl⟩ nkX8_bestSwapOf rfl rfl rfl (Nat.le_of_ble_eq_true rfl) (Nat.zero_le _) (Nat.zero_le _) (by decide +kernel) (fun H7 z8 => ?_)
    have h0 := h0.kept0 z8
    have hs := hs.step0 z8
    obtain rfl := Option.some.inj hm
    subst hQ
    exact aw_iret rfl (Nat.zero_le _) (Nat.zero_le _) (by decide +kernel) ⟨rfl, hs, h0⟩
  · have hm := (if_neg hc).symm.trans hm
    refine aw_b (pc' := 17) (lv' := [(0, .ref a), (1, .int i0)]) (st' := [.int (0 : Int32)]) [(8, .iconst 0, 1, .int (0 : Int32)), (9, .goto 8, 3, .null)] (by decide +kernel) rfl ?_
    obtain rfl := Option.some.inj hm
    subst hQ
    exact aw_iret rfl (Nat.zero_le _) (Nat.zero_le _) (by decide +kernel) ⟨rfl, hs, h0⟩
def mX8_swapRegret : mt_ := (yX8_swapRegret, cX8_swapRegret, 3, some .int, [], { frames := 2, locals := 44, cells := 0, slots := 0 })
theorem ckX8_swapRegret : cokV_ mX8_swapRegret := ⟨⟨(uw_mem 1960 (by decide +kernel) (by decide +kernel)), (uw_mem 112 (by decide +kernel) (by decide +kernel)), by decide +kernel, by decide +kernel⟩, (uw_mem 1958 (by decide +kernel) (by decide +kernel)), (uw_mem 1959 (by decide +kernel) (by decide +kernel))⟩
theorem nkX8_swapRegret : nok_ mX8_swapRegret 0 := by decide +kernel
def fX8_swapRegret_x9_53 (s1 : st_) (v1_x9_53 : Int32) : Option (st_ × Int32) :=
  some (s1, v1_x9_53)
def fX8_swapRegret_k9 (s1 : st_) (x : Int32) : Option (st_ × Int32) :=
  fX8_swapRegret_x9_53 s1 x
def fX8_swapRegret_b9 (s1 : st_) (v1_b9 : Int32) (v2_b9 : Int32) : Option ((Int32 × Int32) ⊕ (Int32)) :=
  gd_ (ib_ (4 : Int32) 12584) <|
  if (s1 1 (ix_ (4 : Int32))) ≤ v2_b9 then (some (.inr v1_b9))
  else (bn_ (fX8_swapAt v2_b9 v2_b9) fun r6 =>
  gd_ (ib_ r6 12584) <|
  bn_ (fX8_bestSwapOf s1 v2_b9) fun r11 =>
  bn_ (fX8_swapAt v2_b9 r11) fun r15 =>
  gd_ (ib_ r15 12584) <|
  some (.inl ((v1_b9 + ((s1 1 (ix_ r6)) - (s1 1 (ix_ r15)))), (v2_b9 + (1 : Int32)))))
def fX8_swapRegret_l9 (s1 : st_) : Nat → (Int32 × Int32) → Option (Int32) :=
  it_ (fun v => fX8_swapRegret_b9 s1 v.1 v.2)
def fX8_swapRegret (s : st_) : Option (st_ × Int32) :=
  bd_ (pt_ s 0 6 (0 : Int32)) fun s1 =>
  bn_ (fX8_swapRegret_l9 s1 FU_ ((0 : Int32), (0 : Int32))) (fX8_swapRegret_k9 s1)
set_option maxRecDepth 8000 in
theorem kX8_swapRegret {E : ev_} {H : Heap} {a : Nat} {s : st_} {r : st_ × Int32} (hm : fX8_swapRegret s = some r) (h0 : has_ E H a ly_O s) (hf : ev_fr E a) : sp_ E mX8_swapRegret [.ref a] H (po1 (.inl (some (.int r.2))) (fun Hn => sm_ H Hn a 10 ∧ has_ E Hn a ly_O r.1)) := by
  refine sp_of (by decide +kernel) rfl rfl ?_
  generalize hQ : po1 _ _ = Q
  have hs : sm_ H H a 10 := sm_.rfl'
  unfold fX8_swapRegret at hm
  refine aw_lv (lv' := [(0, .ref a)]) [0] rfl ?_
  refine aw_b (pc' := 2) (lv' := [(0, .ref a)]) (st' := [.int (0 : Int32), .ref a]) [(0, .aload_n 0, 1, .null), (1, .iconst 0, 1, .int (0 : Int32))] (by decide +kernel) rfl ?_
  obtain ⟨s1, e2, hm⟩ := bd_x hm
  refine aw_pl a 0 h0 eo_O_0 fsq_8_6 fpX8_45 hf rfl rfl e2 (by decide +kernel) (fun H3 h0 z4 => ?_)
  have hs := hs.step z4 (by omega) (by omega)
  refine aw_b (pc' := 9) (lv' := [(2, .int (0 : Int32)), (1, .int (0 : Int32)), (0, .ref a)]) (st' := []) [(5, .iconst 0, 1, .int (0 : Int32)), (6, .istore_n 1, 1, .null), (7, .iconst 0, 1, .int (0 : Int32)), (8, .istore_n 2, 1, .null)] (by decide +kernel) rfl ?_
  obtain ⟨x9, hx9, hr9⟩ := bn_x hm
  have X9_53 : ∀ (v1_x9_53 : Int32) (H_x9_53 : Heap), has_ E H_x9_53 a ly_O s1 → sm_ H H_x9_53 a 10 → fX8_swapRegret_x9_53 s1 v1_x9_53 = some r → aw E mX8_swapRegret Q 53 [(1, .int v1_x9_53)] [] H_x9_53 0 0 := by
    intro v1_x9_53 H_x9_53 h0 hs hm
    unfold fX8_swapRegret_x9_53 at hm
    refine aw_b (pc' := 54) (lv' := [(1, .int v1_x9_53)]) (st' := [.int v1_x9_53]) [(53, .iload_n 1, 1, .null)] (by decide +kernel) rfl ?_
    obtain rfl := Option.some.inj hm
    subst hQ
    exact aw_iret rfl (Nat.zero_le _) (Nat.zero_le _) (by decide +kernel) ⟨rfl, hs, h0⟩
  have L9 : ∀ (fu : Nat) (v1_b9 : Int32) (v2_b9 : Int32) (H_b9 : Heap), has_ E H_b9 a ly_O s1 → sm_ H H_b9 a 10 → fX8_swapRegret_l9 s1 fu (v1_b9, v2_b9) = some x9 → aw E mX8_swapRegret Q 9 [(0, .ref a), (1, .int v1_b9), (2, .int v2_b9)] [] H_b9 0 0 := by
    intro fu
    induction fu with
    | zero =>
      intro v1_b9 v2_b9 H_b9 h0 hs hm
      exact (it_0 hm).elim
    | succ fu ih9 =>
      intro v1_b9 v2_b9 H_b9 h0 hs hm
      obtain ⟨y9, hm, hk9⟩ := it_s hm
      have hm : fX8_swapRegret_b9 s1 v1_b9 v2_b9 = some y9 := hm
      unfold fX8_swapRegret_b9 at hm
      refine aw_b (pc' := 11) (lv' := [(0, .ref a), (1, .int v1_b9), (2, .int v2_b9)]) (st' := [.ref a, .int v2_b9]) [(9, .iload_n 2, 1, .null), (10, .aload_n 0, 1, .null)] (by decide +kernel) rfl ?_
      refine aw_gl (v := .ref (a + 1)) a 0 h0 eo_O_0 fgX8_9 rfl (by decide +kernel) ?_
      refine aw_b (pc' := 15) (lv' := [(0, .ref a), (1, .int v1_b9), (2, .int v2_b9)]) (st' := [.int (4 : Int32), .ref (a + 1), .int v2_b9]) [(14, .iconst 4, 1, .int (4 : Int32))] (by decide +kernel) rfl ?_
      obtain ⟨g5, hm⟩ := gd_x hm
      refine aw_ial a 1 h0 rfl g5 (by decide +kernel) ?_
      refine aw_ic_ge (off := 37) 53 (by decide) (by decide +kernel) (fun hc => ?_) (fun hc => ?_)
      · have hm := (if_pos hc).symm.trans hm
        cases hm
        refine aw_lv (lv' := [(1, .int v1_b9)]) [1] rfl ?_
        exact X9_53 v1_b9 H_b9 h0 hs ((congrArg (fX8_swapRegret_k9 s1) (show (v1_b9) = x9 from hk9)).trans hr9)
      · have hm := (if_neg hc).symm.trans hm
        refine aw_b (pc' := 21) (lv' := [(0, .ref a), (1, .int v1_b9), (2, .int v2_b9)]) (st' := [.ref a, .int v1_b9]) [(19, .iload_n 1, 1, .null), (20, .aload_n 0, 1, .null)] (by decide +kernel) rfl ?_
        refine aw_gl (v := .ref (a + 1)) a 0 h0 eo_O_0 fgX8_9 rfl (by decide +kernel) ?_
        refine aw_b (pc' := 26) (lv' := [(0, .ref a), (1, .int v1_b9), (2, .int v2_b9)]) (st' := [.int v2_b9, .int v2_b9, .ref (a + 1), .int v1_b9]) [(24, .iload_n 2, 1, .null), (25, .iload_n 2, 1, .null)] (by decide +kernel) rfl ?_
        obtain ⟨r6, e7, hm⟩ := bn_x hm
        refine aw_cs (rest := [.ref (a + 1), .int v1_b9]) (st1 := [.int r6, .ref (a + 1), .int v1_b9]) (kX8_swapAt e7) rfl rfl ckX8_swapAt lkX8_368 nkX8_swapAt rfl rfl rfl (Nat.le_of_ble_eq_true rfl) (Nat.zero_le _) (Nat.zero_le _) (by decide +kernel) (fun H8 z9 => ?_)
        have h0 := h0.kept0 z9
        have hs := hs.step0 z9
        obtain ⟨g10, hm⟩ := gd_x hm
        refine aw_ial a 1 h0 rfl g10 (by decide +kernel) ?_
        refine aw_b (pc' := 31) (lv' := [(0, .ref a), (1, .int v1_b9), (2, .int v2_b9)]) (st' := [.ref a, .int (s1 1 (ix_ r6)), .int v1_b9]) [(30, .aload_n 0, 1, .null)] (by decide +kernel) rfl ?_
        refine aw_gl (v := .ref (a + 1)) a 0 h0 eo_O_0 fgX8_9 rfl (by decide +kernel) ?_
        refine aw_b (pc' := 37) (lv' := [(0, .ref a), (1, .int v1_b9), (2, .int v2_b9)]) (st' := [.int v2_b9, .ref a, .int v2_b9, .ref (a + 1), .int (s1 1 (ix_ r6)), .int v1_b9]) [(34, .iload_n 2, 1, .null), (35, .aload_n 0, 1, .null), (36, .iload_n 2, 1, .null)] (by decide +kernel) rfl ?_
        obtain ⟨r11, e12, hm⟩ := bn_x hm
        refine aw_cv (rest := [.int v2_b9, .ref (a + 1), .int (s1 1 (ix_ r6)), .int v1_b9]) (st1 := [.int r11, .int v2_b9, .ref (a + 1), .int (s1 1 (ix_ r6)), .int v1_b9]) a 0 (kX8_bestSwapOf e12 h0) rfl rfl ckX8_bestSwapOf lkX8_442 h0 eo_O_0 ⟨_, _, rfl⟩ nkX8_bestSwapOf rfl rfl rfl (Nat.le_of_ble_eq_true rfl) (Nat.zero_le _) (Nat.zero_le _) (by decide +kernel) (fun H13 z14 => ?_)
        have h0 := h0.kept0 z14
        have hs := hs.step0 z14
        obtain ⟨r15, e16, hm⟩ := bn_x hm
        refine aw_cs (rest := [.ref (a + 1), .int (s1 1 (ix_ r6)), .int v1_b9]) (st1 := [.int r15, .ref (a + 1), .int (s1 1 (ix_ r6)), .int v1_b9]) (kX8_swapAt e16) rfl rfl ckX8_swapAt lkX8_368 nkX8_swapAt rfl rfl rfl (Nat.le_of_ble_eq_true rfl) (Nat.zero_le _) (Nat.zero_le _) (by decide +kernel) (fun H17 z18 => ?_)
        have h0 := h0.kept0 z18
        have hs := hs.step0 z18
        obtain ⟨g19, hm⟩ := gd_x hm
        refine aw_ial a 1 h0 rfl g19 (by decide +kernel) ?_
        refine aw_b (pc' := 9) (lv' := [(2, .int (v2_b9 + (1 : Int32))), (1, .int (v1_b9 + ((s1 1 (ix_ r6)) - (s1 1 (ix_ r15))))), (0, .ref a)]) (st' := []) [(44, .isub, 1, .null), (45, .iadd, 1, .null), (46, .istore_n 1, 1, .null), (47, .iinc 2 1, 3, .int (1 : Int32)), (50, .goto (-41), 3, .null)] (by decide +kernel) rfl ?_
        cases hm
        refine aw_lv (lv' := [(0, .ref a), (1, .int (v1_b9 + ((s1 1 (ix_ r6)) - (s1 1 (ix_ r15))))), (2, .int (v2_b9 + (1 : Int32)))]) [2, 1, 0] rfl ?_
        exact ih9 (v1_b9 + ((s1 1 (ix_ r6)) - (s1 1 (ix_ r15)))) (v2_b9 + (1 : Int32)) H17 h0 hs hk9
  refine aw_lv (lv' := [(0, .ref a), (1, .int (0 : Int32)), (2, .int (0 : Int32))]) [2, 1, 0] rfl ?_
  exact L9 FU_ (0 : Int32) (0 : Int32) H3 h0 hs hx9
def mX8_rival : mt_ := (yX8_rival, cX8_rival, 2, some .int, [], { frames := 3, locals := 64, cells := 0, slots := 0 })
theorem ckX8_rival : cokV_ mX8_rival := ⟨⟨(uw_mem 1964 (by decide +kernel) (by decide +kernel)), (uw_mem 112 (by decide +kernel) (by decide +kernel)), by decide +kernel, by decide +kernel⟩, (uw_mem 1962 (by decide +kernel) (by decide +kernel)), (uw_mem 1963 (by decide +kernel) (by decide +kernel))⟩
theorem nkX8_rival : nok_ mX8_rival 1 := by decide +kernel
def fX8_rival_j18 (s : st_) (i0 : Int32) (z1_j18 : Int32) : Option (st_ × Int32) :=
  bn_ (fX8_wrong s z1_j18) fun r5 =>
  if r5.2 = (0 : Int32) then (gd_ (ib_ (21 : Int32) 12584) <|
  if (r5.1 1 (ix_ (21 : Int32))) = (-1 : Int32) then (some (r5.1, (-2000000000 : Int32)))
  else (if i0 = (0 : Int32) then (gd_ (ib_ (21 : Int32) 12584) <|
  some (r5.1, (r5.1 1 (ix_ (21 : Int32)))))
  else (if i0 = (1 : Int32) then (bn_ (fX8_armOf r5.1 (7 : Int32) (0 : Int32)) fun r11 =>
  some (r5.1, r11))
  else (if i0 = (2 : Int32) then (bn_ (fX8_armOf r5.1 (7 : Int32) (3 : Int32)) fun r15 =>
  some (r5.1, r15))
  else (if i0 = (3 : Int32) then (bn_ (fX8_armOf r5.1 (7 : Int32) (3 : Int32)) fun r19 =>
  bn_ (fX8_bestRule r5.1) fun r23 =>
  bn_ (fX8_armOf r5.1 r23 (3 : Int32)) fun r27 =>
  some (r5.1, (r19 - r27)))
  else (if i0 = (4 : Int32) then (gd_ (ib_ (24 : Int32) 12584) <|
  some (r5.1, (r5.1 1 (ix_ (24 : Int32)))))
  else (gd_ (ib_ (25 : Int32) 12584) <|
  some (r5.1, (r5.1 1 (ix_ (25 : Int32)))))))))))
  else (some (r5.1, (0 : Int32)))
def fX8_rival (s : st_) (i0 : Int32) : Option (st_ × Int32) :=
  bn_ (fX8_in (Int32.toInt64 i0) (0 : Int64) (5 : Int64)) fun r1 =>
  if r1 = (0 : Int32) then (fX8_rival_j18 s i0 (1 : Int32))
  else (fX8_rival_j18 s i0 (0 : Int32))
set_option maxRecDepth 8000 in
theorem kX8_rival {E : ev_} {H : Heap} {a : Nat} {s : st_} {i0 : Int32} {r : st_ × Int32} (hm : fX8_rival s i0 = some r) (h0 : has_ E H a ly_O s) (hf : ev_fr E a) : sp_ E mX8_rival [.ref a, .int i0] H (po1 (.inl (some (.int r.2))) (fun Hn => sm_ H Hn a 10 ∧ has_ E Hn a ly_O r.1)) := by
  refine sp_of (by decide +kernel) rfl rfl ?_
  generalize hQ : po1 _ _ = Q
  have hs : sm_ H H a 10 := sm_.rfl'
  unfold fX8_rival at hm
  refine aw_lv (lv' := [(0, .ref a), (1, .int i0)]) [0, 1] rfl ?_
  refine aw_b (pc' := 4) (lv' := [(0, .ref a), (1, .int i0)]) (st' := [.long (0 : Int64), .long (Int32.toInt64 i0), .ref a]) [(0, .aload_n 0, 1, .null), (1, .iload_n 1, 1, .null), (2, .i2l, 1, .null), (3, .lconst 0, 1, .long (0 : Int64))] (by decide +kernel) rfl ?_
  refine aw_ldc2 (v := (5 : Int64)) kwX8_230 (by decide +kernel) ?_
  obtain ⟨r1, e2, hm⟩ := bn_x hm
  refine aw_cs (rest := [.ref a]) (st1 := [.int r1, .ref a]) (kX8_in e2) rfl rfl ckX8_in lkX8_70 nkX8_in rfl rfl rfl (Nat.le_of_ble_eq_true rfl) (Nat.zero_le _) (Nat.zero_le _) (by decide +kernel) (fun H3 z4 => ?_)
  have h0 := h0.kept0 z4
  have hs := hs.step0 z4
  have J18 : ∀ (z1_j18 : Int32) (H_j18 : Heap), has_ E H_j18 a ly_O s → sm_ H H_j18 a 10 → fX8_rival_j18 s i0 z1_j18 = some r → aw E mX8_rival Q 18 [(0, .ref a), (1, .int i0)] [.int z1_j18, .ref a] H_j18 0 0 := by
    intro z1_j18 H_j18 h0 hs hm
    unfold fX8_rival_j18 at hm
    obtain ⟨r5, e6, hm⟩ := bn_x hm
    refine aw_cv (rest := []) (st1 := [.int r5.2]) a 0 (kX8_wrong e6 h0 hf) rfl rfl ckX8_wrong lkX8_221 h0 eo_O_0 ⟨_, _, rfl⟩ nkX8_wrong rfl rfl rfl (Nat.le_of_ble_eq_true rfl) (Nat.zero_le _) (Nat.zero_le _) (by decide +kernel) (fun H7 z8 => ?_)
    obtain ⟨z8, hn⟩ := z8
    have h0 := hn
    have hs := hs.step z8 (by omega) (by omega)
    refine aw_if_eq (off := 5) 26 (by decide) (by decide +kernel) (fun hc => ?_) (fun hc => ?_)
    · have hm := (if_pos hc).symm.trans hm
      refine aw_b (pc' := 27) (lv' := [(0, .ref a), (1, .int i0)]) (st' := [.ref a]) [(26, .aload_n 0, 1, .null)] (by decide +kernel) rfl ?_
      refine aw_gl (v := .ref (a + 1)) a 0 h0 eo_O_0 fgX8_9 rfl (by decide +kernel) ?_
      refine aw_b (pc' := 32) (lv' := [(0, .ref a), (1, .int i0)]) (st' := [.int (21 : Int32), .ref (a + 1)]) [(30, .bipush 21, 2, .int (21 : Int32))] (by decide +kernel) rfl ?_
      obtain ⟨g9, hm⟩ := gd_x hm
      refine aw_ial a 1 h0 rfl g9 (by decide +kernel) ?_
      refine aw_b (pc' := 34) (lv' := [(0, .ref a), (1, .int i0)]) (st' := [.int (-1 : Int32), .int (r5.1 1 (ix_ (21 : Int32)))]) [(33, .iconst (-1), 1, .int (-1 : Int32))] (by decide +kernel) rfl ?_
      refine aw_ic_ne (off := 7) 41 (by decide) (by decide +kernel) (fun hc => ?_) (fun hc => ?_)
      · have hm := (if_neg hc).symm.trans hm
        refine aw_b (pc' := 42) (lv' := [(0, .ref a), (1, .int i0)]) (st' := [.int i0]) [(41, .iload_n 1, 1, .null)] (by decide +kernel) rfl ?_
        refine aw_ts [((0 : Int32), 76), ((1 : Int32), 84), ((2 : Int32), 92), ((3 : Int32), 100), ((4 : Int32), 118)] 126 (by decide +kernel) ?_
        refine aw_tg (fun hc => ?_) (fun hc => ?_)
        · have hm := (if_pos hc).symm.trans hm
          refine aw_b (pc' := 77) (lv' := [(0, .ref a), (1, .int i0)]) (st' := [.ref a]) [(76, .aload_n 0, 1, .null)] (by decide +kernel) rfl ?_
          refine aw_gl (v := .ref (a + 1)) a 0 h0 eo_O_0 fgX8_9 rfl (by decide +kernel) ?_
          refine aw_b (pc' := 82) (lv' := [(0, .ref a), (1, .int i0)]) (st' := [.int (21 : Int32), .ref (a + 1)]) [(80, .bipush 21, 2, .int (21 : Int32))] (by decide +kernel) rfl ?_
          obtain ⟨g10, hm⟩ := gd_x hm
          refine aw_ial a 1 h0 rfl g10 (by decide +kernel) ?_
          obtain rfl := Option.some.inj hm
          subst hQ
          exact aw_iret rfl (Nat.zero_le _) (Nat.zero_le _) (by decide +kernel) ⟨rfl, hs, h0⟩
        · have hm := (if_neg hc).symm.trans hm
          refine aw_tg (fun hc => ?_) (fun hc => ?_)
          · have hm := (if_pos hc).symm.trans hm
            refine aw_b (pc' := 88) (lv' := [(0, .ref a), (1, .int i0)]) (st' := [.int (0 : Int32), .int (7 : Int32), .ref a]) [(84, .aload_n 0, 1, .null), (85, .bipush 7, 2, .int (7 : Int32)), (87, .iconst 0, 1, .int (0 : Int32))] (by decide +kernel) rfl ?_
            obtain ⟨r11, e12, hm⟩ := bn_x hm
            refine aw_cv (rest := []) (st1 := [.int r11]) a 0 (kX8_armOf e12 h0) rfl rfl ckX8_armOf lkX8_232 h0 eo_O_0 ⟨_, _, rfl⟩ nkX8_armOf rfl rfl rfl (Nat.le_of_ble_eq_true rfl) (Nat.zero_le _) (Nat.zero_le _) (by decide +kernel) (fun H13 z14 => ?_)
            have h0 := h0.kept0 z14
            have hs := hs.step0 z14
            obtain rfl := Option.some.inj hm
            subst hQ
            exact aw_iret rfl (Nat.zero_le _) (Nat.zero_le _) (by decide +kernel) ⟨rfl, hs, h0⟩
          · have hm := (if_neg hc).symm.trans hm
            refine aw_tg (fun hc => ?_) (fun hc => ?_)
            · have hm := (if_pos hc).symm.trans hm
              refine aw_b (pc' := 96) (lv' := [(0, .ref a), (1, .int i0)]) (st' := [.int (3 : Int32), .int (7 : Int32), .ref a]) [(92, .aload_n 0, 1, .null), (93, .bipush 7, 2, .int (7 : Int32)), (95, .iconst 3, 1, .int (3 : Int32))] (by decide +kernel) rfl ?_
              obtain ⟨r15, e16, hm⟩ := bn_x hm
              refine aw_cv (rest := []) (st1 := [.int r15]) a 0 (kX8_armOf e16 h0) rfl rfl ckX8_armOf lkX8_232 h0 eo_O_0 ⟨_, _, rfl⟩ nkX8_armOf rfl rfl rfl (Nat.le_of_ble_eq_true rfl) (Nat.zero_le _) (Nat.zero_le _) (by decide +kernel) (fun H17 z18 => ?_)
              have h0 := h0.kept0 z18
              have hs := hs.step0 z18
              obtain rfl := Option.some.inj hm
              subst hQ
              exact aw_iret rfl (Nat.zero_le _) (Nat.zero_le _) (by decide +kernel) ⟨rfl, hs, h0⟩
            · have hm := (if_neg hc).symm.trans hm
              refine aw_tg (fun hc => ?_) (fun hc => ?_)
              · have hm := (if_pos hc).symm.trans hm
                refine aw_b (pc' := 104) (lv' := [(0, .ref a), (1, .int i0)]) (st' := [.int (3 : Int32), .int (7 : Int32), .ref a]) [(100, .aload_n 0, 1, .null), (101, .bipush 7, 2, .int (7 : Int32)), (103, .iconst 3, 1, .int (3 : Int32))] (by decide +kernel) rfl ?_
                obtain ⟨r19, e20, hm⟩ := bn_x hm
                refine aw_cv (rest := []) (st1 := [.int r19]) a 0 (kX8_armOf e20 h0) rfl rfl ckX8_armOf lkX8_232 h0 eo_O_0 ⟨_, _, rfl⟩ nkX8_armOf rfl rfl rfl (Nat.le_of_ble_eq_true rfl) (Nat.zero_le _) (Nat.zero_le _) (by decide +kernel) (fun H21 z22 => ?_)
                have h0 := h0.kept0 z22
                have hs := hs.step0 z22
                refine aw_b (pc' := 109) (lv' := [(0, .ref a), (1, .int i0)]) (st' := [.ref a, .ref a, .int r19]) [(107, .aload_n 0, 1, .null), (108, .aload_n 0, 1, .null)] (by decide +kernel) rfl ?_
                obtain ⟨r23, e24, hm⟩ := bn_x hm
                refine aw_cv (rest := [.ref a, .int r19]) (st1 := [.int r23, .ref a, .int r19]) a 0 (kX8_bestRule e24 h0) rfl rfl ckX8_bestRule lkX8_310 h0 eo_O_0 ⟨_, _, rfl⟩ nkX8_bestRule rfl rfl rfl (Nat.le_of_ble_eq_true rfl) (Nat.zero_le _) (Nat.zero_le _) (by decide +kernel) (fun H25 z26 => ?_)
                have h0 := h0.kept0 z26
                have hs := hs.step0 z26
                refine aw_b (pc' := 113) (lv' := [(0, .ref a), (1, .int i0)]) (st' := [.int (3 : Int32), .int r23, .ref a, .int r19]) [(112, .iconst 3, 1, .int (3 : Int32))] (by decide +kernel) rfl ?_
                obtain ⟨r27, e28, hm⟩ := bn_x hm
                refine aw_cv (rest := [.int r19]) (st1 := [.int r27, .int r19]) a 0 (kX8_armOf e28 h0) rfl rfl ckX8_armOf lkX8_232 h0 eo_O_0 ⟨_, _, rfl⟩ nkX8_armOf rfl rfl rfl (Nat.le_of_ble_eq_true rfl) (Nat.zero_le _) (Nat.zero_le _) (by decide +kernel) (fun H29 z30 => ?_)
                have h0 := h0.kept0 z30
                have hs := hs.step0 z30
                refine aw_b (pc' := 117) (lv' := [(0, .ref a), (1, .int i0)]) (st' := [.int (r19 - r27)]) [(116, .isub, 1, .null)] (by decide +kernel) rfl ?_
                obtain rfl := Option.some.inj hm
                subst hQ
                exact aw_iret rfl (Nat.zero_le _) (Nat.zero_le _) (by decide +kernel) ⟨rfl, hs, h0⟩
              · have hm := (if_neg hc).symm.trans hm
                refine aw_tg (fun hc => ?_) (fun hc => ?_)
                · have hm := (if_pos hc).symm.trans hm
                  refine aw_b (pc' := 119) (lv' := [(0, .ref a), (1, .int i0)]) (st' := [.ref a]) [(118, .aload_n 0, 1, .null)] (by decide +kernel) rfl ?_
                  refine aw_gl (v := .ref (a + 1)) a 0 h0 eo_O_0 fgX8_9 rfl (by decide +kernel) ?_
                  refine aw_b (pc' := 124) (lv' := [(0, .ref a), (1, .int i0)]) (st' := [.int (24 : Int32), .ref (a + 1)]) [(122, .bipush 24, 2, .int (24 : Int32))] (by decide +kernel) rfl ?_
                  obtain ⟨g31, hm⟩ := gd_x hm
                  refine aw_ial a 1 h0 rfl g31 (by decide +kernel) ?_
                  obtain rfl := Option.some.inj hm
                  subst hQ
                  exact aw_iret rfl (Nat.zero_le _) (Nat.zero_le _) (by decide +kernel) ⟨rfl, hs, h0⟩
                · have hm := (if_neg hc).symm.trans hm
                  show aw E _ Q 126 _ _ _ _ _
                  refine aw_b (pc' := 127) (lv' := [(0, .ref a), (1, .int i0)]) (st' := [.ref a]) [(126, .aload_n 0, 1, .null)] (by decide +kernel) rfl ?_
                  refine aw_gl (v := .ref (a + 1)) a 0 h0 eo_O_0 fgX8_9 rfl (by decide +kernel) ?_
                  refine aw_b (pc' := 132) (lv' := [(0, .ref a), (1, .int i0)]) (st' := [.int (25 : Int32), .ref (a + 1)]) [(130, .bipush 25, 2, .int (25 : Int32))] (by decide +kernel) rfl ?_
                  obtain ⟨g32, hm⟩ := gd_x hm
                  refine aw_ial a 1 h0 rfl g32 (by decide +kernel) ?_
                  obtain rfl := Option.some.inj hm
                  subst hQ
                  exact aw_iret rfl (Nat.zero_le _) (Nat.zero_le _) (by decide +kernel) ⟨rfl, hs, h0⟩
      · have hm := (if_pos hc).symm.trans hm
        refine aw_ldcw (v := (-2000000000 : Int32)) kwX8_397 (by decide +kernel) ?_
        obtain rfl := Option.some.inj hm
        subst hQ
        exact aw_iret rfl (Nat.zero_le _) (Nat.zero_le _) (by decide +kernel) ⟨rfl, hs, h0⟩
    · have hm := (if_neg hc).symm.trans hm
      refine aw_b (pc' := 25) (lv' := [(0, .ref a), (1, .int i0)]) (st' := [.int (0 : Int32)]) [(24, .iconst 0, 1, .int (0 : Int32))] (by decide +kernel) rfl ?_
      obtain rfl := Option.some.inj hm
      subst hQ
      exact aw_iret rfl (Nat.zero_le _) (Nat.zero_le _) (by decide +kernel) ⟨rfl, hs, h0⟩
  refine aw_if_ne (off := 7) 17 (by decide) (by decide +kernel) (fun hc => ?_) (fun hc => ?_)
  · have hm := (if_neg hc).symm.trans hm
    refine aw_b (pc' := 18) (lv' := [(0, .ref a), (1, .int i0)]) (st' := [.int (0 : Int32), .ref a]) [(17, .iconst 0, 1, .int (0 : Int32))] (by decide +kernel) rfl ?_
    exact J18 (0 : Int32) H3 h0 hs hm
  · have hm := (if_pos hc).symm.trans hm
    refine aw_b (pc' := 18) (lv' := [(0, .ref a), (1, .int i0)]) (st' := [.int (1 : Int32), .ref a]) [(13, .iconst 1, 1, .int (1 : Int32)), (14, .goto 4, 3, .null)] (by decide +kernel) rfl ?_
    exact J18 (1 : Int32) H3 h0 hs hm
def mX8_noRounds : mt_ := (yX8_noRounds, cX8_noRounds, 3, some .boolean, [], { frames := 1, locals := 25, cells := 0, slots := 0 })
theorem ckX8_noRounds : cokV_ mX8_noRounds := ⟨⟨(uw_mem 1972 (by decide +kernel) (by decide +kernel)), (uw_mem 112 (by decide +kernel) (by decide +kernel)), by decide +kernel, by decide +kernel⟩, (uw_mem 1971 (by decide +kernel) (by decide +kernel)), (uw_mem 83 (by decide +kernel) (by decide +kernel))⟩
theorem nkX8_noRounds : nok_ mX8_noRounds 2 := by decide +kernel
theorem kwX8_460 : Cond.constantLong RX8 460 (200 : Int64) ∈ uw_ := (uw_mem 1973 (by decide +kernel) (by decide +kernel))
def fX8_noRounds_j18 (s : st_) (i1 : Int32) (z1_j18 : Int32) : Option (st_ × Int32) :=
  bn_ (fX8_throwsIf s z1_j18 i1) fun r5 =>
  gd_ (bz_ r5.2) <|
  some (r5.1, r5.2)
def fX8_noRounds (s : st_) (i0 : Int32) (i1 : Int32) : Option (st_ × Int32) :=
  bn_ (fX8_in (Int32.toInt64 i0) (1 : Int64) (200 : Int64)) fun r1 =>
  if r1 = (0 : Int32) then (fX8_noRounds_j18 s i1 (1 : Int32))
  else (fX8_noRounds_j18 s i1 (0 : Int32))
set_option maxRecDepth 8000 in
theorem kX8_noRounds {E : ev_} {H : Heap} {a : Nat} {s : st_} {i0 : Int32} {i1 : Int32} {r : st_ × Int32} (hm : fX8_noRounds s i0 i1 = some r) (h0 : has_ E H a ly_O s) (hf : ev_fr E a) : sp_ E mX8_noRounds [.ref a, .int i0, .int i1] H (po1 (.inl (some (.int r.2))) (fun Hn => sm_ H Hn a 10 ∧ has_ E Hn a ly_O r.1)) := by
  refine sp_of (by decide +kernel) rfl rfl ?_
  generalize hQ : po1 _ _ = Q
  have hs : sm_ H H a 10 := sm_.rfl'
  unfold fX8_noRounds at hm
  refine aw_lv (lv' := [(0, .ref a), (1, .int i0), (2, .int i1)]) [0, 1, 2] rfl ?_
  refine aw_b (pc' := 4) (lv' := [(0, .ref a), (1, .int i0), (2, .int i1)]) (st' := [.long (1 : Int64), .long (Int32.toInt64 i0), .ref a]) [(0, .aload_n 0, 1, .null), (1, .iload_n 1, 1, .null), (2, .i2l, 1, .null), (3, .lconst 1, 1, .long (1 : Int64))] (by decide +kernel) rfl ?_
  refine aw_ldc2 (v := (200 : Int64)) kwX8_460 (by decide +kernel) ?_
  obtain ⟨r1, e2, hm⟩ := bn_x hm
  refine aw_cs (rest := [.ref a]) (st1 := [.int r1, .ref a]) (kX8_in e2) rfl rfl ckX8_in lkX8_70 nkX8_in rfl rfl rfl (Nat.le_of_ble_eq_true rfl) (Nat.zero_le _) (Nat.zero_le _) (by decide +kernel) (fun H3 z4 => ?_)
  have h0 := h0.kept0 z4
  have hs := hs.step0 z4
  have J18 : ∀ (z1_j18 : Int32) (H_j18 : Heap), has_ E H_j18 a ly_O s → sm_ H H_j18 a 10 → fX8_noRounds_j18 s i1 z1_j18 = some r → aw E mX8_noRounds Q 18 [(2, .int i1)] [.int z1_j18, .ref a] H_j18 0 0 := by
    intro z1_j18 H_j18 h0 hs hm
    unfold fX8_noRounds_j18 at hm
    refine aw_b (pc' := 19) (lv' := [(2, .int i1)]) (st' := [.int i1, .int z1_j18, .ref a]) [(18, .iload_n 2, 1, .null)] (by decide +kernel) rfl ?_
    obtain ⟨r5, e6, hm⟩ := bn_x hm
    refine aw_cv (rest := []) (st1 := [.int r5.2]) a 0 (kX8_throwsIf e6 h0 hf) rfl rfl ckX8_throwsIf lkX8_49 h0 eo_O_0 ⟨_, _, rfl⟩ nkX8_throwsIf rfl rfl rfl (Nat.le_of_ble_eq_true rfl) (Nat.zero_le _) (Nat.zero_le _) (by decide +kernel) (fun H7 z8 => ?_)
    obtain ⟨z8, hn⟩ := z8
    have h0 := hn
    have hs := hs.step z8 (by omega) (by omega)
    obtain ⟨g9, hm⟩ := gd_x hm
    obtain rfl := Option.some.inj hm
    subst hQ
    exact aw_zret rfl (bz_n g9) (Nat.zero_le _) (Nat.zero_le _) (by decide +kernel) ⟨rfl, hs, h0⟩
  refine aw_if_ne (off := 7) 17 (by decide) (by decide +kernel) (fun hc => ?_) (fun hc => ?_)
  · have hm := (if_neg hc).symm.trans hm
    refine aw_b (pc' := 18) (lv' := [(0, .ref a), (1, .int i0), (2, .int i1)]) (st' := [.int (0 : Int32), .ref a]) [(17, .iconst 0, 1, .int (0 : Int32))] (by decide +kernel) rfl ?_
    refine aw_lv (lv' := [(2, .int i1)]) [2] rfl ?_
    exact J18 (0 : Int32) H3 h0 hs hm
  · have hm := (if_pos hc).symm.trans hm
    refine aw_b (pc' := 18) (lv' := [(0, .ref a), (1, .int i0), (2, .int i1)]) (st' := [.int (1 : Int32), .ref a]) [(13, .iconst 1, 1, .int (1 : Int32)), (14, .goto 4, 3, .null)] (by decide +kernel) rfl ?_
    refine aw_lv (lv' := [(2, .int i1)]) [2] rfl ?_
    exact J18 (1 : Int32) H3 h0 hs hm
def mX8_goesAside : mt_ := (yX8_goesAside, cX8_goesAside, 1, none, [], { frames := 1, locals := 22, cells := 0, slots := 0 })
theorem ckX8_goesAside : cokV_ mX8_goesAside := ⟨⟨(uw_mem 1977 (by decide +kernel) (by decide +kernel)), (uw_mem 112 (by decide +kernel) (by decide +kernel)), by decide +kernel, by decide +kernel⟩, (uw_mem 1976 (by decide +kernel) (by decide +kernel)), (uw_mem 84 (by decide +kernel) (by decide +kernel))⟩
theorem nkX8_goesAside : nok_ mX8_goesAside 0 := by decide +kernel
theorem fgX8_13 : fok_ RX8 13 8 1 := ⟨_, _, _, rfl, by decide, (uw_mem 1436 (by decide +kernel) (by decide +kernel)), wkX8⟩
theorem su_O_2_IW : sub_ ly_O 2 ly_IW := sub_of rfl
def fX8_goesAside (s : st_) : Option (st_) :=
  bn_ (fX8_copies (sb_ s 1) (sb_ s 2)) fun r1 =>
  bd_ (mg_ s 2 1 r1) fun s5 =>
  some s5
set_option maxRecDepth 8000 in
theorem kX8_goesAside {E : ev_} {H : Heap} {a : Nat} {s : st_} {r : st_} (hm : fX8_goesAside s = some r) (h0 : has_ E H a ly_O s) (hf : ev_fr E a) : sp_ E mX8_goesAside [.ref a] H (po1 (.inl (none)) (fun Hn => sm_ H Hn a 10 ∧ has_ E Hn a ly_O r)) := by
  refine sp_of (by decide +kernel) rfl rfl ?_
  generalize hQ : po1 _ _ = Q
  have hs : sm_ H H a 10 := sm_.rfl'
  unfold fX8_goesAside at hm
  refine aw_lv (lv' := [(0, .ref a)]) [0] rfl ?_
  refine aw_b (pc' := 1) (lv' := [(0, .ref a)]) (st' := [.ref a]) [(0, .aload_n 0, 1, .null)] (by decide +kernel) rfl ?_
  refine aw_gl (v := .ref (a + 1)) a 0 h0 eo_O_0 fgX8_9 rfl (by decide +kernel) ?_
  refine aw_b (pc' := 5) (lv' := [(0, .ref a)]) (st' := [.ref a, .ref (a + 1)]) [(4, .aload_n 0, 1, .null)] (by decide +kernel) rfl ?_
  refine aw_gl (v := .ref (a + 2)) a 0 h0 eo_O_0 fgX8_13 rfl (by decide +kernel) ?_
  obtain ⟨r1, e2, hm⟩ := bn_x hm
  refine aw_cs (rest := []) (st1 := []) (kX8_copies e2 (h0.sub su_O_1_IW) (h0.sub su_O_2_IW) (Nat.le_trans hf (Nat.le_add_right _ _)) (by omega)) rfl rfl ckX8_copies lkX8_211 nkX8_copies rfl rfl rfl (Nat.le_of_ble_eq_true rfl) (Nat.zero_le _) (Nat.zero_le _) (by decide +kernel) (fun H3 z4 => ?_)
  obtain ⟨z4, hn⟩ := z4
  obtain ⟨s5, e6, hm⟩ := bd_x hm
  have h0 := h0.mg su_O_2_IW hn z4 rfl e6
  have hs := hs.step z4 (by omega) (by omega)
  obtain rfl := Option.some.inj hm
  subst hQ
  exact aw_vret rfl (Nat.zero_le _) (Nat.zero_le _) (by decide +kernel) ⟨rfl, hs, h0⟩
def mX8_comesBack : mt_ := (yX8_comesBack, cX8_comesBack, 1, none, [], { frames := 1, locals := 22, cells := 0, slots := 0 })
theorem ckX8_comesBack : cokV_ mX8_comesBack := ⟨⟨(uw_mem 2042 (by decide +kernel) (by decide +kernel)), (uw_mem 112 (by decide +kernel) (by decide +kernel)), by decide +kernel, by decide +kernel⟩, (uw_mem 2041 (by decide +kernel) (by decide +kernel)), (uw_mem 100 (by decide +kernel) (by decide +kernel))⟩
theorem nkX8_comesBack : nok_ mX8_comesBack 0 := by decide +kernel
def fX8_comesBack (s : st_) : Option (st_) :=
  bn_ (fX8_copies (sb_ s 2) (sb_ s 1)) fun r1 =>
  bd_ (mg_ s 1 1 r1) fun s5 =>
  some s5
set_option maxRecDepth 8000 in
theorem kX8_comesBack {E : ev_} {H : Heap} {a : Nat} {s : st_} {r : st_} (hm : fX8_comesBack s = some r) (h0 : has_ E H a ly_O s) (hf : ev_fr E a) : sp_ E mX8_comesBack [.ref a] H (po1 (.inl (none)) (fun Hn => sm_ H Hn a 10 ∧ has_ E Hn a ly_O r)) := by
  refine sp_of (by decide +kernel) rfl rfl ?_
  generalize hQ : po1 _ _ = Q
  have hs : sm_ H H a 10 := sm_.rfl'
  unfold fX8_comesBack at hm
  refine aw_lv (lv' := [(0, .ref a)]) [0] rfl ?_
  refine aw_b (pc' := 1) (lv' := [(0, .ref a)]) (st' := [.ref a]) [(0, .aload_n 0, 1, .null)] (by decide +kernel) rfl ?_
  refine aw_gl (v := .ref (a + 2)) a 0 h0 eo_O_0 fgX8_13 rfl (by decide +kernel) ?_
  refine aw_b (pc' := 5) (lv' := [(0, .ref a)]) (st' := [.ref a, .ref (a + 2)]) [(4, .aload_n 0, 1, .null)] (by decide +kernel) rfl ?_
  refine aw_gl (v := .ref (a + 1)) a 0 h0 eo_O_0 fgX8_9 rfl (by decide +kernel) ?_
  obtain ⟨r1, e2, hm⟩ := bn_x hm
  refine aw_cs (rest := []) (st1 := []) (kX8_copies e2 (h0.sub su_O_2_IW) (h0.sub su_O_1_IW) (Nat.le_trans hf (Nat.le_add_right _ _)) (by omega)) rfl rfl ckX8_copies lkX8_211 nkX8_copies rfl rfl rfl (Nat.le_of_ble_eq_true rfl) (Nat.zero_le _) (Nat.zero_le _) (by decide +kernel) (fun H3 z4 => ?_)
  obtain ⟨z4, hn⟩ := z4
  obtain ⟨s5, e6, hm⟩ := bd_x hm
  have h0 := h0.mg su_O_1_IW hn z4 rfl e6
  have hs := hs.step z4 (by omega) (by omega)
  obtain rfl := Option.some.inj hm
  subst hQ
  exact aw_vret rfl (Nat.zero_le _) (Nat.zero_le _) (by decide +kernel) ⟨rfl, hs, h0⟩
def mX8_rivalIn : mt_ := (yX8_rivalIn, cX8_rivalIn, 3, some .int, [], { frames := 13, locals := 298, cells := 0, slots := 0 })
theorem ckX8_rivalIn : cokV_ mX8_rivalIn := ⟨⟨(uw_mem 1968 (by decide +kernel) (by decide +kernel)), (uw_mem 112 (by decide +kernel) (by decide +kernel)), by decide +kernel, by decide +kernel⟩, (uw_mem 1966 (by decide +kernel) (by decide +kernel)), (uw_mem 1967 (by decide +kernel) (by decide +kernel))⟩
theorem nkX8_rivalIn : nok_ mX8_rivalIn 1 := by decide +kernel
theorem lkX8_445 : Cond.methodLink RX8 445 yX8_noRounds ∈ uw_ := (uw_mem 1969 (by decide +kernel) (by decide +kernel))
theorem lkX8_448 : Cond.methodLink RX8 448 yX8_goesAside ∈ uw_ := (uw_mem 1974 (by decide +kernel) (by decide +kernel))
theorem lkX8_451 : Cond.methodLink RX8 451 yX8_rounds ∈ uw_ := (uw_mem 1978 (by decide +kernel) (by decide +kernel))
theorem lkX8_454 : Cond.methodLink RX8 454 yX8_comesBack ∈ uw_ := (uw_mem 2039 (by decide +kernel) (by decide +kernel))
def fX8_rivalIn (s : st_) (i0 : Int32) : Option (st_ × Int32) :=
  bd_ (pt_ s 0 6 (0 : Int32)) fun s1 =>
  bn_ (fX8_noRounds s1 i0 (1 : Int32)) fun r5 =>
  if r5.2 = (0 : Int32) then (gd_ (ib_ (21 : Int32) 12584) <|
  if (r5.1 1 (ix_ (21 : Int32))) = (-1 : Int32) then (some (r5.1, (-2000000000 : Int32)))
  else (bn_ (fX8_goesAside r5.1) fun r10 =>
  bn_ (fX8_rounds r10 i0) fun r14 =>
  bn_ (fX8_armOf r14 (6 : Int32) (3 : Int32)) fun r18 =>
  bn_ (fX8_armOf r14 (7 : Int32) (3 : Int32)) fun r22 =>
  bn_ (fX8_comesBack r14) fun r26 =>
  some (r26, (r18 - r22))))
  else (some (r5.1, (0 : Int32)))
set_option maxRecDepth 8000 in
theorem kX8_rivalIn {E : ev_} {H : Heap} {a : Nat} {s : st_} {i0 : Int32} {r : st_ × Int32} (hm : fX8_rivalIn s i0 = some r) (h0 : has_ E H a ly_O s) (hf : ev_fr E a) : sp_ E mX8_rivalIn [.ref a, .int i0] H (po1 (.inl (some (.int r.2))) (fun Hn => sm_ H Hn a 10 ∧ has_ E Hn a ly_O r.1)) := by
  refine sp_of (by decide +kernel) rfl rfl ?_
  generalize hQ : po1 _ _ = Q
  have hs : sm_ H H a 10 := sm_.rfl'
  unfold fX8_rivalIn at hm
  refine aw_lv (lv' := [(0, .ref a), (1, .int i0)]) [0, 1] rfl ?_
  refine aw_b (pc' := 2) (lv' := [(0, .ref a), (1, .int i0)]) (st' := [.int (0 : Int32), .ref a]) [(0, .aload_n 0, 1, .null), (1, .iconst 0, 1, .int (0 : Int32))] (by decide +kernel) rfl ?_
  obtain ⟨s1, e2, hm⟩ := bd_x hm
  refine aw_pl a 0 h0 eo_O_0 fsq_8_6 fpX8_45 hf rfl rfl e2 (by decide +kernel) (fun H3 h0 z4 => ?_)
  have hs := hs.step z4 (by omega) (by omega)
  refine aw_b (pc' := 8) (lv' := [(0, .ref a), (1, .int i0)]) (st' := [.int (1 : Int32), .int i0, .ref a]) [(5, .aload_n 0, 1, .null), (6, .iload_n 1, 1, .null), (7, .iconst 1, 1, .int (1 : Int32))] (by decide +kernel) rfl ?_
  obtain ⟨r5, e6, hm⟩ := bn_x hm
  refine aw_cv (rest := []) (st1 := [.int r5.2]) a 0 (kX8_noRounds e6 h0 hf) rfl rfl ckX8_noRounds lkX8_445 h0 eo_O_0 ⟨_, _, rfl⟩ nkX8_noRounds rfl rfl rfl (Nat.le_of_ble_eq_true rfl) (Nat.zero_le _) (Nat.zero_le _) (by decide +kernel) (fun H7 z8 => ?_)
  obtain ⟨z8, hn⟩ := z8
  have h0 := hn
  have hs := hs.step z8 (by omega) (by omega)
  refine aw_if_eq (off := 5) 16 (by decide) (by decide +kernel) (fun hc => ?_) (fun hc => ?_)
  · have hm := (if_pos hc).symm.trans hm
    refine aw_b (pc' := 17) (lv' := [(0, .ref a), (1, .int i0)]) (st' := [.ref a]) [(16, .aload_n 0, 1, .null)] (by decide +kernel) rfl ?_
    refine aw_gl (v := .ref (a + 1)) a 0 h0 eo_O_0 fgX8_9 rfl (by decide +kernel) ?_
    refine aw_b (pc' := 22) (lv' := [(0, .ref a), (1, .int i0)]) (st' := [.int (21 : Int32), .ref (a + 1)]) [(20, .bipush 21, 2, .int (21 : Int32))] (by decide +kernel) rfl ?_
    obtain ⟨g9, hm⟩ := gd_x hm
    refine aw_ial a 1 h0 rfl g9 (by decide +kernel) ?_
    refine aw_b (pc' := 24) (lv' := [(0, .ref a), (1, .int i0)]) (st' := [.int (-1 : Int32), .int (r5.1 1 (ix_ (21 : Int32)))]) [(23, .iconst (-1), 1, .int (-1 : Int32))] (by decide +kernel) rfl ?_
    refine aw_ic_ne (off := 7) 31 (by decide) (by decide +kernel) (fun hc => ?_) (fun hc => ?_)
    · have hm := (if_neg hc).symm.trans hm
      refine aw_b (pc' := 32) (lv' := [(0, .ref a), (1, .int i0)]) (st' := [.ref a]) [(31, .aload_n 0, 1, .null)] (by decide +kernel) rfl ?_
      obtain ⟨r10, e11, hm⟩ := bn_x hm
      refine aw_cv (rest := []) (st1 := []) a 0 (kX8_goesAside e11 h0 hf) rfl rfl ckX8_goesAside lkX8_448 h0 eo_O_0 ⟨_, _, rfl⟩ nkX8_goesAside rfl rfl rfl (Nat.le_of_ble_eq_true rfl) (Nat.zero_le _) (Nat.zero_le _) (by decide +kernel) (fun H12 z13 => ?_)
      obtain ⟨z13, hn⟩ := z13
      have h0 := hn
      have hs := hs.step z13 (by omega) (by omega)
      refine aw_b (pc' := 37) (lv' := [(0, .ref a), (1, .int i0)]) (st' := [.int i0, .ref a]) [(35, .aload_n 0, 1, .null), (36, .iload_n 1, 1, .null)] (by decide +kernel) rfl ?_
      obtain ⟨r14, e15, hm⟩ := bn_x hm
      refine aw_cv (rest := []) (st1 := []) a 0 (kX8_rounds e15 h0 hf) rfl rfl ckX8_rounds lkX8_451 h0 eo_O_0 ⟨_, _, rfl⟩ nkX8_rounds rfl rfl rfl (Nat.le_of_ble_eq_true rfl) (Nat.zero_le _) (Nat.zero_le _) (by decide +kernel) (fun H16 z17 => ?_)
      obtain ⟨z17, hn⟩ := z17
      have h0 := hn
      have hs := hs.step z17 (by omega) (by omega)
      refine aw_b (pc' := 44) (lv' := [(0, .ref a), (1, .int i0)]) (st' := [.int (3 : Int32), .int (6 : Int32), .ref a]) [(40, .aload_n 0, 1, .null), (41, .bipush 6, 2, .int (6 : Int32)), (43, .iconst 3, 1, .int (3 : Int32))] (by decide +kernel) rfl ?_
      obtain ⟨r18, e19, hm⟩ := bn_x hm
      refine aw_cv (rest := []) (st1 := [.int r18]) a 0 (kX8_armOf e19 h0) rfl rfl ckX8_armOf lkX8_232 h0 eo_O_0 ⟨_, _, rfl⟩ nkX8_armOf rfl rfl rfl (Nat.le_of_ble_eq_true rfl) (Nat.zero_le _) (Nat.zero_le _) (by decide +kernel) (fun H20 z21 => ?_)
      have h0 := h0.kept0 z21
      have hs := hs.step0 z21
      refine aw_b (pc' := 51) (lv' := [(0, .ref a), (1, .int i0)]) (st' := [.int (3 : Int32), .int (7 : Int32), .ref a, .int r18]) [(47, .aload_n 0, 1, .null), (48, .bipush 7, 2, .int (7 : Int32)), (50, .iconst 3, 1, .int (3 : Int32))] (by decide +kernel) rfl ?_
      obtain ⟨r22, e23, hm⟩ := bn_x hm
      refine aw_cv (rest := [.int r18]) (st1 := [.int r22, .int r18]) a 0 (kX8_armOf e23 h0) rfl rfl ckX8_armOf lkX8_232 h0 eo_O_0 ⟨_, _, rfl⟩ nkX8_armOf rfl rfl rfl (Nat.le_of_ble_eq_true rfl) (Nat.zero_le _) (Nat.zero_le _) (by decide +kernel) (fun H24 z25 => ?_)
      have h0 := h0.kept0 z25
      have hs := hs.step0 z25
      refine aw_b (pc' := 57) (lv' := [(2, .int (r18 - r22)), (0, .ref a), (1, .int i0)]) (st' := [.ref a]) [(54, .isub, 1, .null), (55, .istore_n 2, 1, .null), (56, .aload_n 0, 1, .null)] (by decide +kernel) rfl ?_
      obtain ⟨r26, e27, hm⟩ := bn_x hm
      refine aw_cv (rest := []) (st1 := []) a 0 (kX8_comesBack e27 h0 hf) rfl rfl ckX8_comesBack lkX8_454 h0 eo_O_0 ⟨_, _, rfl⟩ nkX8_comesBack rfl rfl rfl (Nat.le_of_ble_eq_true rfl) (Nat.zero_le _) (Nat.zero_le _) (by decide +kernel) (fun H28 z29 => ?_)
      obtain ⟨z29, hn⟩ := z29
      have h0 := hn
      have hs := hs.step z29 (by omega) (by omega)
      refine aw_b (pc' := 61) (lv' := [(2, .int (r18 - r22)), (0, .ref a), (1, .int i0)]) (st' := [.int (r18 - r22)]) [(60, .iload_n 2, 1, .null)] (by decide +kernel) rfl ?_
      obtain rfl := Option.some.inj hm
      subst hQ
      exact aw_iret rfl (Nat.zero_le _) (Nat.zero_le _) (by decide +kernel) ⟨rfl, hs, h0⟩
    · have hm := (if_pos hc).symm.trans hm
      refine aw_ldcw (v := (-2000000000 : Int32)) kwX8_397 (by decide +kernel) ?_
      obtain rfl := Option.some.inj hm
      subst hQ
      exact aw_iret rfl (Nat.zero_le _) (Nat.zero_le _) (by decide +kernel) ⟨rfl, hs, h0⟩
  · have hm := (if_neg hc).symm.trans hm
    refine aw_b (pc' := 15) (lv' := [(0, .ref a), (1, .int i0)]) (st' := [.int (0 : Int32)]) [(14, .iconst 0, 1, .int (0 : Int32))] (by decide +kernel) rfl ?_
    obtain rfl := Option.some.inj hm
    subst hQ
    exact aw_iret rfl (Nat.zero_le _) (Nat.zero_le _) (by decide +kernel) ⟨rfl, hs, h0⟩
def mX8_regretBehind : mt_ := (yX8_regretBehind, cX8_regretBehind, 3, some .int, [], { frames := 13, locals := 298, cells := 0, slots := 0 })
theorem ckX8_regretBehind : cokV_ mX8_regretBehind := ⟨⟨(uw_mem 2050 (by decide +kernel) (by decide +kernel)), (uw_mem 112 (by decide +kernel) (by decide +kernel)), by decide +kernel, by decide +kernel⟩, (uw_mem 2049 (by decide +kernel) (by decide +kernel)), (uw_mem 101 (by decide +kernel) (by decide +kernel))⟩
theorem nkX8_regretBehind : nok_ mX8_regretBehind 1 := by decide +kernel
def fX8_regretBehind (s : st_) (i0 : Int32) : Option (st_ × Int32) :=
  bn_ (fX8_rounds s i0) fun r1 =>
  bn_ (fX8_regretNow r1) fun r5 =>
  bn_ (fX8_comesBack r1) fun r9 =>
  some (r9, r5)
set_option maxRecDepth 8000 in
theorem kX8_regretBehind {E : ev_} {H : Heap} {a : Nat} {s : st_} {i0 : Int32} {r : st_ × Int32} (hm : fX8_regretBehind s i0 = some r) (h0 : has_ E H a ly_O s) (hf : ev_fr E a) : sp_ E mX8_regretBehind [.ref a, .int i0] H (po1 (.inl (some (.int r.2))) (fun Hn => sm_ H Hn a 10 ∧ has_ E Hn a ly_O r.1)) := by
  refine sp_of (by decide +kernel) rfl rfl ?_
  generalize hQ : po1 _ _ = Q
  have hs : sm_ H H a 10 := sm_.rfl'
  unfold fX8_regretBehind at hm
  refine aw_lv (lv' := [(0, .ref a), (1, .int i0)]) [0, 1] rfl ?_
  refine aw_b (pc' := 2) (lv' := [(0, .ref a), (1, .int i0)]) (st' := [.int i0, .ref a]) [(0, .aload_n 0, 1, .null), (1, .iload_n 1, 1, .null)] (by decide +kernel) rfl ?_
  obtain ⟨r1, e2, hm⟩ := bn_x hm
  refine aw_cv (rest := []) (st1 := []) a 0 (kX8_rounds e2 h0 hf) rfl rfl ckX8_rounds lkX8_451 h0 eo_O_0 ⟨_, _, rfl⟩ nkX8_rounds rfl rfl rfl (Nat.le_of_ble_eq_true rfl) (Nat.zero_le _) (Nat.zero_le _) (by decide +kernel) (fun H3 z4 => ?_)
  obtain ⟨z4, hn⟩ := z4
  have h0 := hn
  have hs := hs.step z4 (by omega) (by omega)
  refine aw_b (pc' := 6) (lv' := [(0, .ref a), (1, .int i0)]) (st' := [.ref a]) [(5, .aload_n 0, 1, .null)] (by decide +kernel) rfl ?_
  obtain ⟨r5, e6, hm⟩ := bn_x hm
  refine aw_cv (rest := []) (st1 := [.int r5]) a 0 (kX8_regretNow e6 h0) rfl rfl ckX8_regretNow lkX8_357 h0 eo_O_0 ⟨_, _, rfl⟩ nkX8_regretNow rfl rfl rfl (Nat.le_of_ble_eq_true rfl) (Nat.zero_le _) (Nat.zero_le _) (by decide +kernel) (fun H7 z8 => ?_)
  have h0 := h0.kept0 z8
  have hs := hs.step0 z8
  refine aw_b (pc' := 11) (lv' := [(2, .int r5), (0, .ref a), (1, .int i0)]) (st' := [.ref a]) [(9, .istore_n 2, 1, .null), (10, .aload_n 0, 1, .null)] (by decide +kernel) rfl ?_
  obtain ⟨r9, e10, hm⟩ := bn_x hm
  refine aw_cv (rest := []) (st1 := []) a 0 (kX8_comesBack e10 h0 hf) rfl rfl ckX8_comesBack lkX8_454 h0 eo_O_0 ⟨_, _, rfl⟩ nkX8_comesBack rfl rfl rfl (Nat.le_of_ble_eq_true rfl) (Nat.zero_le _) (Nat.zero_le _) (by decide +kernel) (fun H11 z12 => ?_)
  obtain ⟨z12, hn⟩ := z12
  have h0 := hn
  have hs := hs.step z12 (by omega) (by omega)
  refine aw_b (pc' := 15) (lv' := [(2, .int r5), (0, .ref a), (1, .int i0)]) (st' := [.int r5]) [(14, .iload_n 2, 1, .null)] (by decide +kernel) rfl ?_
  obtain rfl := Option.some.inj hm
  subst hQ
  exact aw_iret rfl (Nat.zero_le _) (Nat.zero_le _) (by decide +kernel) ⟨rfl, hs, h0⟩
def mX8_budgetFor : mt_ := (yX8_budgetFor, cX8_budgetFor, 3, some .int, [], { frames := 14, locals := 320, cells := 0, slots := 0 })
theorem ckX8_budgetFor : cokV_ mX8_budgetFor := ⟨⟨(uw_mem 2046 (by decide +kernel) (by decide +kernel)), (uw_mem 112 (by decide +kernel) (by decide +kernel)), by decide +kernel, by decide +kernel⟩, (uw_mem 2044 (by decide +kernel) (by decide +kernel)), (uw_mem 2045 (by decide +kernel) (by decide +kernel))⟩
theorem nkX8_budgetFor : nok_ mX8_budgetFor 1 := by decide +kernel
theorem lkX8_457 : Cond.methodLink RX8 457 yX8_regretBehind ∈ uw_ := (uw_mem 2047 (by decide +kernel) (by decide +kernel))
def fX8_budgetFor_x7_59 (s_x7_59 : st_) : Option (st_ × Int32) :=
  some (s_x7_59, (-1 : Int32))
def fX8_budgetFor_x7_51 (v2_x7_51 : Int32) (s_x7_51 : st_) : Option (st_ × Int32) :=
  some (s_x7_51, v2_x7_51)
def fX8_budgetFor_k7 (x : (Int32 × st_) ⊕ (st_)) : Option (st_ × Int32) :=
  Sum.elim (fun z => fX8_budgetFor_x7_51 z.1 z.2) (fun z => fX8_budgetFor_x7_59 z) x
def fX8_budgetFor_b7 (i0 : Int32) (v2_b7 : Int32) (s_b7 : st_) : Option ((Int32 × st_) ⊕ ((Int32 × st_) ⊕ (st_))) :=
  if (20 : Int32) < v2_b7 then (some (.inr (.inr s_b7)))
  else (bn_ (fX8_goesAside s_b7) fun r5 =>
  gd_ (ib_ (9 : Int32) 12584) <|
  bd_ (pt_ r5 1 (ix_ (9 : Int32)) (5 : Int32)) fun s10 =>
  gd_ (ib_ (13 : Int32) 12584) <|
  bd_ (pt_ s10 1 (ix_ (13 : Int32)) v2_b7) fun s15 =>
  gd_ (ib_ (14 : Int32) 12584) <|
  bd_ (pt_ s15 1 (ix_ (14 : Int32)) (0 : Int32)) fun s20 =>
  bn_ (fX8_regretBehind s20 (20 : Int32)) fun r24 =>
  if r24.2 < i0 then (some (.inl ((v2_b7 + (1 : Int32)), r24.1)))
  else (some (.inr (.inl (v2_b7, r24.1)))))
def fX8_budgetFor_l7 (i0 : Int32) : Nat → (Int32 × st_) → Option ((Int32 × st_) ⊕ (st_)) :=
  it_ (fun v => fX8_budgetFor_b7 i0 v.1 v.2)
def fX8_budgetFor (s : st_) (i0 : Int32) : Option (st_ × Int32) :=
  bd_ (pt_ s 0 6 (0 : Int32)) fun s1 =>
  bn_ (fX8_budgetFor_l7 i0 FU_ ((0 : Int32), s1)) (fX8_budgetFor_k7)
set_option maxRecDepth 8000 in
theorem kX8_budgetFor {E : ev_} {H : Heap} {a : Nat} {s : st_} {i0 : Int32} {r : st_ × Int32} (hm : fX8_budgetFor s i0 = some r) (h0 : has_ E H a ly_O s) (hf : ev_fr E a) : sp_ E mX8_budgetFor [.ref a, .int i0] H (po1 (.inl (some (.int r.2))) (fun Hn => sm_ H Hn a 10 ∧ has_ E Hn a ly_O r.1)) := by
  refine sp_of (by decide +kernel) rfl rfl ?_
  generalize hQ : po1 _ _ = Q
  have hs : sm_ H H a 10 := sm_.rfl'
  unfold fX8_budgetFor at hm
  refine aw_lv (lv' := [(0, .ref a), (1, .int i0)]) [0, 1] rfl ?_
  refine aw_b (pc' := 2) (lv' := [(0, .ref a), (1, .int i0)]) (st' := [.int (0 : Int32), .ref a]) [(0, .aload_n 0, 1, .null), (1, .iconst 0, 1, .int (0 : Int32))] (by decide +kernel) rfl ?_
  obtain ⟨s1, e2, hm⟩ := bd_x hm
  refine aw_pl a 0 h0 eo_O_0 fsq_8_6 fpX8_45 hf rfl rfl e2 (by decide +kernel) (fun H3 h0 z4 => ?_)
  have hs := hs.step z4 (by omega) (by omega)
  refine aw_b (pc' := 7) (lv' := [(2, .int (0 : Int32)), (0, .ref a), (1, .int i0)]) (st' := []) [(5, .iconst 0, 1, .int (0 : Int32)), (6, .istore_n 2, 1, .null)] (by decide +kernel) rfl ?_
  obtain ⟨x7, hx7, hr7⟩ := bn_x hm
  have X7_59 : ∀ (s_x7_59 : st_) (H_x7_59 : Heap), has_ E H_x7_59 a ly_O s_x7_59 → sm_ H H_x7_59 a 10 → fX8_budgetFor_x7_59 s_x7_59 = some r → aw E mX8_budgetFor Q 59 [] [] H_x7_59 0 0 := by
    intro s_x7_59 H_x7_59 h0 hs hm
    unfold fX8_budgetFor_x7_59 at hm
    refine aw_b (pc' := 60) (lv' := []) (st' := [.int (-1 : Int32)]) [(59, .iconst (-1), 1, .int (-1 : Int32))] (by decide +kernel) rfl ?_
    obtain rfl := Option.some.inj hm
    subst hQ
    exact aw_iret rfl (Nat.zero_le _) (Nat.zero_le _) (by decide +kernel) ⟨rfl, hs, h0⟩
  have X7_51 : ∀ (v2_x7_51 : Int32) (s_x7_51 : st_) (H_x7_51 : Heap), has_ E H_x7_51 a ly_O s_x7_51 → sm_ H H_x7_51 a 10 → fX8_budgetFor_x7_51 v2_x7_51 s_x7_51 = some r → aw E mX8_budgetFor Q 51 [(2, .int v2_x7_51)] [] H_x7_51 0 0 := by
    intro v2_x7_51 s_x7_51 H_x7_51 h0 hs hm
    unfold fX8_budgetFor_x7_51 at hm
    refine aw_b (pc' := 52) (lv' := [(2, .int v2_x7_51)]) (st' := [.int v2_x7_51]) [(51, .iload_n 2, 1, .null)] (by decide +kernel) rfl ?_
    obtain rfl := Option.some.inj hm
    subst hQ
    exact aw_iret rfl (Nat.zero_le _) (Nat.zero_le _) (by decide +kernel) ⟨rfl, hs, h0⟩
  have L7 : ∀ (fu : Nat) (v2_b7 : Int32) (s_b7 : st_) (H_b7 : Heap), has_ E H_b7 a ly_O s_b7 → sm_ H H_b7 a 10 → fX8_budgetFor_l7 i0 fu (v2_b7, s_b7) = some x7 → aw E mX8_budgetFor Q 7 [(0, .ref a), (1, .int i0), (2, .int v2_b7)] [] H_b7 0 0 := by
    intro fu
    induction fu with
    | zero =>
      intro v2_b7 s_b7 H_b7 h0 hs hm
      exact (it_0 hm).elim
    | succ fu ih7 =>
      intro v2_b7 s_b7 H_b7 h0 hs hm
      obtain ⟨y7, hm, hk7⟩ := it_s hm
      have hm : fX8_budgetFor_b7 i0 v2_b7 s_b7 = some y7 := hm
      unfold fX8_budgetFor_b7 at hm
      refine aw_b (pc' := 10) (lv' := [(0, .ref a), (1, .int i0), (2, .int v2_b7)]) (st' := [.int (20 : Int32), .int v2_b7]) [(7, .iload_n 2, 1, .null), (8, .bipush 20, 2, .int (20 : Int32))] (by decide +kernel) rfl ?_
      refine aw_ic_gt (off := 49) 59 (by decide) (by decide +kernel) (fun hc => ?_) (fun hc => ?_)
      · have hm := (if_pos hc).symm.trans hm
        cases hm
        refine aw_lv (lv' := []) [] rfl ?_
        exact X7_59 s_b7 H_b7 h0 hs ((congrArg fX8_budgetFor_k7 (show (.inr s_b7) = x7 from hk7)).trans hr7)
      · have hm := (if_neg hc).symm.trans hm
        refine aw_b (pc' := 14) (lv' := [(0, .ref a), (1, .int i0), (2, .int v2_b7)]) (st' := [.ref a]) [(13, .aload_n 0, 1, .null)] (by decide +kernel) rfl ?_
        obtain ⟨r5, e6, hm⟩ := bn_x hm
        refine aw_cv (rest := []) (st1 := []) a 0 (kX8_goesAside e6 h0 hf) rfl rfl ckX8_goesAside lkX8_448 h0 eo_O_0 ⟨_, _, rfl⟩ nkX8_goesAside rfl rfl rfl (Nat.le_of_ble_eq_true rfl) (Nat.zero_le _) (Nat.zero_le _) (by decide +kernel) (fun H7 z8 => ?_)
        obtain ⟨z8, hn⟩ := z8
        have h0 := hn
        have hs := hs.step z8 (by omega) (by omega)
        refine aw_b (pc' := 18) (lv' := [(0, .ref a), (1, .int i0), (2, .int v2_b7)]) (st' := [.ref a]) [(17, .aload_n 0, 1, .null)] (by decide +kernel) rfl ?_
        refine aw_gl (v := .ref (a + 1)) a 0 h0 eo_O_0 fgX8_9 rfl (by decide +kernel) ?_
        refine aw_b (pc' := 24) (lv' := [(0, .ref a), (1, .int i0), (2, .int v2_b7)]) (st' := [.int (5 : Int32), .int (9 : Int32), .ref (a + 1)]) [(21, .bipush 9, 2, .int (9 : Int32)), (23, .iconst 5, 1, .int (5 : Int32))] (by decide +kernel) rfl ?_
        obtain ⟨g9, hm⟩ := gd_x hm
        obtain ⟨s10, e11, hm⟩ := bd_x hm
        refine aw_isl a 1 h0 rfl hf g9 e11 (by decide +kernel) (fun H12 h0 z13 => ?_)
        have hs := hs.step z13 (by omega) (by omega)
        refine aw_b (pc' := 26) (lv' := [(0, .ref a), (1, .int i0), (2, .int v2_b7)]) (st' := [.ref a]) [(25, .aload_n 0, 1, .null)] (by decide +kernel) rfl ?_
        refine aw_gl (v := .ref (a + 1)) a 0 h0 eo_O_0 fgX8_9 rfl (by decide +kernel) ?_
        refine aw_b (pc' := 32) (lv' := [(0, .ref a), (1, .int i0), (2, .int v2_b7)]) (st' := [.int v2_b7, .int (13 : Int32), .ref (a + 1)]) [(29, .bipush 13, 2, .int (13 : Int32)), (31, .iload_n 2, 1, .null)] (by decide +kernel) rfl ?_
        obtain ⟨g14, hm⟩ := gd_x hm
        obtain ⟨s15, e16, hm⟩ := bd_x hm
        refine aw_isl a 1 h0 rfl hf g14 e16 (by decide +kernel) (fun H17 h0 z18 => ?_)
        have hs := hs.step z18 (by omega) (by omega)
        refine aw_b (pc' := 34) (lv' := [(0, .ref a), (1, .int i0), (2, .int v2_b7)]) (st' := [.ref a]) [(33, .aload_n 0, 1, .null)] (by decide +kernel) rfl ?_
        refine aw_gl (v := .ref (a + 1)) a 0 h0 eo_O_0 fgX8_9 rfl (by decide +kernel) ?_
        refine aw_b (pc' := 40) (lv' := [(0, .ref a), (1, .int i0), (2, .int v2_b7)]) (st' := [.int (0 : Int32), .int (14 : Int32), .ref (a + 1)]) [(37, .bipush 14, 2, .int (14 : Int32)), (39, .iconst 0, 1, .int (0 : Int32))] (by decide +kernel) rfl ?_
        obtain ⟨g19, hm⟩ := gd_x hm
        obtain ⟨s20, e21, hm⟩ := bd_x hm
        refine aw_isl a 1 h0 rfl hf g19 e21 (by decide +kernel) (fun H22 h0 z23 => ?_)
        have hs := hs.step z23 (by omega) (by omega)
        refine aw_b (pc' := 44) (lv' := [(0, .ref a), (1, .int i0), (2, .int v2_b7)]) (st' := [.int (20 : Int32), .ref a]) [(41, .aload_n 0, 1, .null), (42, .bipush 20, 2, .int (20 : Int32))] (by decide +kernel) rfl ?_
        obtain ⟨r24, e25, hm⟩ := bn_x hm
        refine aw_cv (rest := []) (st1 := [.int r24.2]) a 0 (kX8_regretBehind e25 h0 hf) rfl rfl ckX8_regretBehind lkX8_457 h0 eo_O_0 ⟨_, _, rfl⟩ nkX8_regretBehind rfl rfl rfl (Nat.le_of_ble_eq_true rfl) (Nat.zero_le _) (Nat.zero_le _) (by decide +kernel) (fun H26 z27 => ?_)
        obtain ⟨z27, hn⟩ := z27
        have h0 := hn
        have hs := hs.step z27 (by omega) (by omega)
        refine aw_b (pc' := 48) (lv' := [(0, .ref a), (1, .int i0), (2, .int v2_b7)]) (st' := [.int i0, .int r24.2]) [(47, .iload_n 1, 1, .null)] (by decide +kernel) rfl ?_
        refine aw_ic_lt (off := 5) 53 (by decide) (by decide +kernel) (fun hc => ?_) (fun hc => ?_)
        · have hm := (if_pos hc).symm.trans hm
          refine aw_b (pc' := 7) (lv' := [(2, .int (v2_b7 + (1 : Int32))), (0, .ref a), (1, .int i0)]) (st' := []) [(53, .iinc 2 1, 3, .int (1 : Int32)), (56, .goto (-49), 3, .null)] (by decide +kernel) rfl ?_
          cases hm
          refine aw_lv (lv' := [(0, .ref a), (1, .int i0), (2, .int (v2_b7 + (1 : Int32)))]) [1, 2, 0] rfl ?_
          exact ih7 (v2_b7 + (1 : Int32)) r24.1 H26 h0 hs hk7
        · have hm := (if_neg hc).symm.trans hm
          cases hm
          refine aw_lv (lv' := [(2, .int v2_b7)]) [2] rfl ?_
          exact X7_51 v2_b7 r24.1 H26 h0 hs ((congrArg fX8_budgetFor_k7 (show (.inl (v2_b7, r24.1)) = x7 from hk7)).trans hr7)
  refine aw_lv (lv' := [(0, .ref a), (1, .int i0), (2, .int (0 : Int32))]) [1, 2, 0] rfl ?_
  exact L7 FU_ (0 : Int32) s1 H3 h0 hs hx7
def mX8_run : mt_ := (yX8_run, cX8_run, 2, some .int, [], { frames := 13, locals := 298, cells := 0, slots := 0 })
theorem ckX8_run : cokV_ mX8_run := ⟨⟨(uw_mem 2054 (by decide +kernel) (by decide +kernel)), (uw_mem 112 (by decide +kernel) (by decide +kernel)), by decide +kernel, by decide +kernel⟩, (uw_mem 2052 (by decide +kernel) (by decide +kernel)), (uw_mem 2053 (by decide +kernel) (by decide +kernel))⟩
theorem nkX8_run : nok_ mX8_run 1 := by decide +kernel
def fX8_run_j35 (i0 : Int32) (r5 : st_ × Int32) (z1_j35 : Int32) : Option (st_ × Int32) :=
  bn_ (fX8_throwsIf r5.1 z1_j35 (1 : Int32)) fun r10 =>
  if r10.2 = (0 : Int32) then (bn_ (fX8_rounds r10.1 i0) fun r14 =>
  gd_ (ib_ (16 : Int32) 12584) <|
  some (r14, (r14 1 (ix_ (16 : Int32)))))
  else (some (r10.1, (0 : Int32)))
def fX8_run (s : st_) (i0 : Int32) : Option (st_ × Int32) :=
  bd_ (pt_ s 0 6 (0 : Int32)) fun s1 =>
  bn_ (fX8_noRounds s1 i0 (1 : Int32)) fun r5 =>
  if r5.2 = (0 : Int32) then (gd_ (ib_ (16 : Int32) 12584) <|
  if ((r5.1 1 (ix_ (16 : Int32))) + i0) ≤ (1000 : Int32) then (fX8_run_j35 i0 r5 (0 : Int32))
  else (fX8_run_j35 i0 r5 (1 : Int32)))
  else (some (r5.1, (0 : Int32)))
set_option maxRecDepth 8000 in
theorem kX8_run {E : ev_} {H : Heap} {a : Nat} {s : st_} {i0 : Int32} {r : st_ × Int32} (hm : fX8_run s i0 = some r) (h0 : has_ E H a ly_O s) (hf : ev_fr E a) : sp_ E mX8_run [.ref a, .int i0] H (po1 (.inl (some (.int r.2))) (fun Hn => sm_ H Hn a 10 ∧ has_ E Hn a ly_O r.1)) := by
  refine sp_of (by decide +kernel) rfl rfl ?_
  generalize hQ : po1 _ _ = Q
  have hs : sm_ H H a 10 := sm_.rfl'
  unfold fX8_run at hm
  refine aw_lv (lv' := [(0, .ref a), (1, .int i0)]) [0, 1] rfl ?_
  refine aw_b (pc' := 2) (lv' := [(0, .ref a), (1, .int i0)]) (st' := [.int (0 : Int32), .ref a]) [(0, .aload_n 0, 1, .null), (1, .iconst 0, 1, .int (0 : Int32))] (by decide +kernel) rfl ?_
  obtain ⟨s1, e2, hm⟩ := bd_x hm
  refine aw_pl a 0 h0 eo_O_0 fsq_8_6 fpX8_45 hf rfl rfl e2 (by decide +kernel) (fun H3 h0 z4 => ?_)
  have hs := hs.step z4 (by omega) (by omega)
  refine aw_b (pc' := 8) (lv' := [(0, .ref a), (1, .int i0)]) (st' := [.int (1 : Int32), .int i0, .ref a]) [(5, .aload_n 0, 1, .null), (6, .iload_n 1, 1, .null), (7, .iconst 1, 1, .int (1 : Int32))] (by decide +kernel) rfl ?_
  obtain ⟨r5, e6, hm⟩ := bn_x hm
  refine aw_cv (rest := []) (st1 := [.int r5.2]) a 0 (kX8_noRounds e6 h0 hf) rfl rfl ckX8_noRounds lkX8_445 h0 eo_O_0 ⟨_, _, rfl⟩ nkX8_noRounds rfl rfl rfl (Nat.le_of_ble_eq_true rfl) (Nat.zero_le _) (Nat.zero_le _) (by decide +kernel) (fun H7 z8 => ?_)
  obtain ⟨z8, hn⟩ := z8
  have h0 := hn
  have hs := hs.step z8 (by omega) (by omega)
  refine aw_if_ne (off := 31) 42 (by decide) (by decide +kernel) (fun hc => ?_) (fun hc => ?_)
  · have hm := (if_neg hc).symm.trans hm
    refine aw_b (pc' := 43) (lv' := [(0, .ref a), (1, .int i0)]) (st' := [.int (0 : Int32)]) [(42, .iconst 0, 1, .int (0 : Int32))] (by decide +kernel) rfl ?_
    obtain rfl := Option.some.inj hm
    subst hQ
    exact aw_iret rfl (Nat.zero_le _) (Nat.zero_le _) (by decide +kernel) ⟨rfl, hs, h0⟩
  · have hm := (if_pos hc).symm.trans hm
    refine aw_b (pc' := 16) (lv' := [(0, .ref a), (1, .int i0)]) (st' := [.ref a, .ref a]) [(14, .aload_n 0, 1, .null), (15, .aload_n 0, 1, .null)] (by decide +kernel) rfl ?_
    refine aw_gl (v := .ref (a + 1)) a 0 h0 eo_O_0 fgX8_9 rfl (by decide +kernel) ?_
    refine aw_b (pc' := 21) (lv' := [(0, .ref a), (1, .int i0)]) (st' := [.int (16 : Int32), .ref (a + 1), .ref a]) [(19, .bipush 16, 2, .int (16 : Int32))] (by decide +kernel) rfl ?_
    obtain ⟨g9, hm⟩ := gd_x hm
    refine aw_ial a 1 h0 rfl g9 (by decide +kernel) ?_
    refine aw_b (pc' := 27) (lv' := [(0, .ref a), (1, .int i0)]) (st' := [.int (1000 : Int32), .int ((r5.1 1 (ix_ (16 : Int32))) + i0), .ref a]) [(22, .iload_n 1, 1, .null), (23, .iadd, 1, .null), (24, .sipush 1000, 3, .int (1000 : Int32))] (by decide +kernel) rfl ?_
    have J35 : ∀ (z1_j35 : Int32) (H_j35 : Heap), has_ E H_j35 a ly_O r5.1 → sm_ H H_j35 a 10 → fX8_run_j35 i0 r5 z1_j35 = some r → aw E mX8_run Q 35 [(0, .ref a), (1, .int i0)] [.int z1_j35, .ref a] H_j35 0 0 := by
      intro z1_j35 H_j35 h0 hs hm
      unfold fX8_run_j35 at hm
      refine aw_b (pc' := 36) (lv' := [(0, .ref a), (1, .int i0)]) (st' := [.int (1 : Int32), .int z1_j35, .ref a]) [(35, .iconst 1, 1, .int (1 : Int32))] (by decide +kernel) rfl ?_
      obtain ⟨r10, e11, hm⟩ := bn_x hm
      refine aw_cv (rest := []) (st1 := [.int r10.2]) a 0 (kX8_throwsIf e11 h0 hf) rfl rfl ckX8_throwsIf lkX8_49 h0 eo_O_0 ⟨_, _, rfl⟩ nkX8_throwsIf rfl rfl rfl (Nat.le_of_ble_eq_true rfl) (Nat.zero_le _) (Nat.zero_le _) (by decide +kernel) (fun H12 z13 => ?_)
      obtain ⟨z13, hn⟩ := z13
      have h0 := hn
      have hs := hs.step z13 (by omega) (by omega)
      refine aw_if_eq (off := 5) 44 (by decide) (by decide +kernel) (fun hc => ?_) (fun hc => ?_)
      · have hm := (if_pos hc).symm.trans hm
        refine aw_b (pc' := 46) (lv' := [(0, .ref a), (1, .int i0)]) (st' := [.int i0, .ref a]) [(44, .aload_n 0, 1, .null), (45, .iload_n 1, 1, .null)] (by decide +kernel) rfl ?_
        obtain ⟨r14, e15, hm⟩ := bn_x hm
        refine aw_cv (rest := []) (st1 := []) a 0 (kX8_rounds e15 h0 hf) rfl rfl ckX8_rounds lkX8_451 h0 eo_O_0 ⟨_, _, rfl⟩ nkX8_rounds rfl rfl rfl (Nat.le_of_ble_eq_true rfl) (Nat.zero_le _) (Nat.zero_le _) (by decide +kernel) (fun H16 z17 => ?_)
        obtain ⟨z17, hn⟩ := z17
        have h0 := hn
        have hs := hs.step z17 (by omega) (by omega)
        refine aw_b (pc' := 50) (lv' := [(0, .ref a), (1, .int i0)]) (st' := [.ref a]) [(49, .aload_n 0, 1, .null)] (by decide +kernel) rfl ?_
        refine aw_gl (v := .ref (a + 1)) a 0 h0 eo_O_0 fgX8_9 rfl (by decide +kernel) ?_
        refine aw_b (pc' := 55) (lv' := [(0, .ref a), (1, .int i0)]) (st' := [.int (16 : Int32), .ref (a + 1)]) [(53, .bipush 16, 2, .int (16 : Int32))] (by decide +kernel) rfl ?_
        obtain ⟨g18, hm⟩ := gd_x hm
        refine aw_ial a 1 h0 rfl g18 (by decide +kernel) ?_
        obtain rfl := Option.some.inj hm
        subst hQ
        exact aw_iret rfl (Nat.zero_le _) (Nat.zero_le _) (by decide +kernel) ⟨rfl, hs, h0⟩
      · have hm := (if_neg hc).symm.trans hm
        refine aw_b (pc' := 43) (lv' := [(0, .ref a), (1, .int i0)]) (st' := [.int (0 : Int32)]) [(42, .iconst 0, 1, .int (0 : Int32))] (by decide +kernel) rfl ?_
        obtain rfl := Option.some.inj hm
        subst hQ
        exact aw_iret rfl (Nat.zero_le _) (Nat.zero_le _) (by decide +kernel) ⟨rfl, hs, h0⟩
    refine aw_ic_le (off := 7) 34 (by decide) (by decide +kernel) (fun hc => ?_) (fun hc => ?_)
    · have hm := (if_pos hc).symm.trans hm
      refine aw_b (pc' := 35) (lv' := [(0, .ref a), (1, .int i0)]) (st' := [.int (0 : Int32), .ref a]) [(34, .iconst 0, 1, .int (0 : Int32))] (by decide +kernel) rfl ?_
      exact J35 (0 : Int32) H7 h0 hs hm
    · have hm := (if_neg hc).symm.trans hm
      refine aw_b (pc' := 35) (lv' := [(0, .ref a), (1, .int i0)]) (st' := [.int (1 : Int32), .ref a]) [(30, .iconst 1, 1, .int (1 : Int32)), (31, .goto 4, 3, .null)] (by decide +kernel) rfl ?_
      exact J35 (1 : Int32) H7 h0 hs hm
def mX8_runToBreach : mt_ := (yX8_runToBreach, cX8_runToBreach, 4, some .int, [], { frames := 12, locals := 276, cells := 0, slots := 0 })
theorem ckX8_runToBreach : cokV_ mX8_runToBreach := ⟨⟨(uw_mem 2058 (by decide +kernel) (by decide +kernel)), (uw_mem 112 (by decide +kernel) (by decide +kernel)), by decide +kernel, by decide +kernel⟩, (uw_mem 2056 (by decide +kernel) (by decide +kernel)), (uw_mem 2057 (by decide +kernel) (by decide +kernel))⟩
theorem nkX8_runToBreach : nok_ mX8_runToBreach 1 := by decide +kernel
def fX8_runToBreach_x26_65 (r5 : st_ × Int32) (v3_x26_65 : Int32) (s_x26_65 : st_) : Option (st_ × Int32) :=
  gd_ (ib_ (17 : Int32) 12584) <|
  if (s_x26_65 1 (ix_ (17 : Int32))) ≤ (r5.1 1 (ix_ (17 : Int32))) then (some (s_x26_65, (-1 : Int32)))
  else (some (s_x26_65, v3_x26_65))
def fX8_runToBreach_k26 (r5 : st_ × Int32) (x : Int32 × st_) : Option (st_ × Int32) :=
  fX8_runToBreach_x26_65 r5 x.1 x.2
def fX8_runToBreach_b26 (i0 : Int32) (r5 : st_ × Int32) (v3_b26 : Int32) (s_b26 : st_) : Option ((Int32 × st_) ⊕ (Int32 × st_)) :=
  gd_ (ib_ (17 : Int32) 12584) <|
  if (s_b26 1 (ix_ (17 : Int32))) = (r5.1 1 (ix_ (17 : Int32))) then (if i0 ≤ v3_b26 then (some (.inr (v3_b26, s_b26)))
  else (gd_ (ib_ (16 : Int32) 12584) <|
  if (1000 : Int32) ≤ (s_b26 1 (ix_ (16 : Int32))) then (some (.inr (v3_b26, s_b26)))
  else (bn_ (fX8_round s_b26) fun r13 =>
  some (.inl ((v3_b26 + (1 : Int32)), r13)))))
  else (some (.inr (v3_b26, s_b26)))
def fX8_runToBreach_l26 (i0 : Int32) (r5 : st_ × Int32) : Nat → (Int32 × st_) → Option (Int32 × st_) :=
  it_ (fun v => fX8_runToBreach_b26 i0 r5 v.1 v.2)
def fX8_runToBreach (s : st_) (i0 : Int32) : Option (st_ × Int32) :=
  bd_ (pt_ s 0 6 (0 : Int32)) fun s1 =>
  bn_ (fX8_noRounds s1 i0 (1 : Int32)) fun r5 =>
  if r5.2 = (0 : Int32) then (gd_ (ib_ (17 : Int32) 12584) <|
  bn_ (fX8_runToBreach_l26 i0 r5 FU_ ((0 : Int32), r5.1)) (fX8_runToBreach_k26 r5))
  else (some (r5.1, (0 : Int32)))
set_option maxRecDepth 8000 in
theorem kX8_runToBreach {E : ev_} {H : Heap} {a : Nat} {s : st_} {i0 : Int32} {r : st_ × Int32} (hm : fX8_runToBreach s i0 = some r) (h0 : has_ E H a ly_O s) (hf : ev_fr E a) : sp_ E mX8_runToBreach [.ref a, .int i0] H (po1 (.inl (some (.int r.2))) (fun Hn => sm_ H Hn a 10 ∧ has_ E Hn a ly_O r.1)) := by
  refine sp_of (by decide +kernel) rfl rfl ?_
  generalize hQ : po1 _ _ = Q
  have hs : sm_ H H a 10 := sm_.rfl'
  unfold fX8_runToBreach at hm
  refine aw_lv (lv' := [(0, .ref a), (1, .int i0)]) [0, 1] rfl ?_
  refine aw_b (pc' := 2) (lv' := [(0, .ref a), (1, .int i0)]) (st' := [.int (0 : Int32), .ref a]) [(0, .aload_n 0, 1, .null), (1, .iconst 0, 1, .int (0 : Int32))] (by decide +kernel) rfl ?_
  obtain ⟨s1, e2, hm⟩ := bd_x hm
  refine aw_pl a 0 h0 eo_O_0 fsq_8_6 fpX8_45 hf rfl rfl e2 (by decide +kernel) (fun H3 h0 z4 => ?_)
  have hs := hs.step z4 (by omega) (by omega)
  refine aw_b (pc' := 8) (lv' := [(0, .ref a), (1, .int i0)]) (st' := [.int (1 : Int32), .int i0, .ref a]) [(5, .aload_n 0, 1, .null), (6, .iload_n 1, 1, .null), (7, .iconst 1, 1, .int (1 : Int32))] (by decide +kernel) rfl ?_
  obtain ⟨r5, e6, hm⟩ := bn_x hm
  refine aw_cv (rest := []) (st1 := [.int r5.2]) a 0 (kX8_noRounds e6 h0 hf) rfl rfl ckX8_noRounds lkX8_445 h0 eo_O_0 ⟨_, _, rfl⟩ nkX8_noRounds rfl rfl rfl (Nat.le_of_ble_eq_true rfl) (Nat.zero_le _) (Nat.zero_le _) (by decide +kernel) (fun H7 z8 => ?_)
  obtain ⟨z8, hn⟩ := z8
  have h0 := hn
  have hs := hs.step z8 (by omega) (by omega)
  refine aw_if_eq (off := 5) 16 (by decide) (by decide +kernel) (fun hc => ?_) (fun hc => ?_)
  · have hm := (if_pos hc).symm.trans hm
    refine aw_b (pc' := 17) (lv' := [(0, .ref a), (1, .int i0)]) (st' := [.ref a]) [(16, .aload_n 0, 1, .null)] (by decide +kernel) rfl ?_
    refine aw_gl (v := .ref (a + 1)) a 0 h0 eo_O_0 fgX8_9 rfl (by decide +kernel) ?_
    refine aw_b (pc' := 22) (lv' := [(0, .ref a), (1, .int i0)]) (st' := [.int (17 : Int32), .ref (a + 1)]) [(20, .bipush 17, 2, .int (17 : Int32))] (by decide +kernel) rfl ?_
    obtain ⟨g9, hm⟩ := gd_x hm
    refine aw_ial a 1 h0 rfl g9 (by decide +kernel) ?_
    refine aw_b (pc' := 26) (lv' := [(3, .int (0 : Int32)), (2, .int (r5.1 1 (ix_ (17 : Int32)))), (0, .ref a), (1, .int i0)]) (st' := []) [(23, .istore_n 2, 1, .null), (24, .iconst 0, 1, .int (0 : Int32)), (25, .istore_n 3, 1, .null)] (by decide +kernel) rfl ?_
    obtain ⟨x26, hx26, hr26⟩ := bn_x hm
    have X26_65 : ∀ (v3_x26_65 : Int32) (s_x26_65 : st_) (H_x26_65 : Heap), has_ E H_x26_65 a ly_O s_x26_65 → sm_ H H_x26_65 a 10 → fX8_runToBreach_x26_65 r5 v3_x26_65 s_x26_65 = some r → aw E mX8_runToBreach Q 65 [(0, .ref a), (2, .int (r5.1 1 (ix_ (17 : Int32)))), (3, .int v3_x26_65)] [] H_x26_65 0 0 := by
      intro v3_x26_65 s_x26_65 H_x26_65 h0 hs hm
      unfold fX8_runToBreach_x26_65 at hm
      refine aw_b (pc' := 66) (lv' := [(0, .ref a), (2, .int (r5.1 1 (ix_ (17 : Int32)))), (3, .int v3_x26_65)]) (st' := [.ref a]) [(65, .aload_n 0, 1, .null)] (by decide +kernel) rfl ?_
      refine aw_gl (v := .ref (a + 1)) a 0 h0 eo_O_0 fgX8_9 rfl (by decide +kernel) ?_
      refine aw_b (pc' := 71) (lv' := [(0, .ref a), (2, .int (r5.1 1 (ix_ (17 : Int32)))), (3, .int v3_x26_65)]) (st' := [.int (17 : Int32), .ref (a + 1)]) [(69, .bipush 17, 2, .int (17 : Int32))] (by decide +kernel) rfl ?_
      obtain ⟨g10, hm⟩ := gd_x hm
      refine aw_ial a 1 h0 rfl g10 (by decide +kernel) ?_
      refine aw_b (pc' := 73) (lv' := [(0, .ref a), (2, .int (r5.1 1 (ix_ (17 : Int32)))), (3, .int v3_x26_65)]) (st' := [.int (r5.1 1 (ix_ (17 : Int32))), .int (s_x26_65 1 (ix_ (17 : Int32)))]) [(72, .iload_n 2, 1, .null)] (by decide +kernel) rfl ?_
      refine aw_ic_le (off := 7) 80 (by decide) (by decide +kernel) (fun hc => ?_) (fun hc => ?_)
      · have hm := (if_pos hc).symm.trans hm
        refine aw_b (pc' := 81) (lv' := [(0, .ref a), (2, .int (r5.1 1 (ix_ (17 : Int32)))), (3, .int v3_x26_65)]) (st' := [.int (-1 : Int32)]) [(80, .iconst (-1), 1, .int (-1 : Int32))] (by decide +kernel) rfl ?_
        obtain rfl := Option.some.inj hm
        subst hQ
        exact aw_iret rfl (Nat.zero_le _) (Nat.zero_le _) (by decide +kernel) ⟨rfl, hs, h0⟩
      · have hm := (if_neg hc).symm.trans hm
        refine aw_b (pc' := 81) (lv' := [(0, .ref a), (2, .int (r5.1 1 (ix_ (17 : Int32)))), (3, .int v3_x26_65)]) (st' := [.int v3_x26_65]) [(76, .iload_n 3, 1, .null), (77, .goto 4, 3, .null)] (by decide +kernel) rfl ?_
        obtain rfl := Option.some.inj hm
        subst hQ
        exact aw_iret rfl (Nat.zero_le _) (Nat.zero_le _) (by decide +kernel) ⟨rfl, hs, h0⟩
    have L26 : ∀ (fu : Nat) (v3_b26 : Int32) (s_b26 : st_) (H_b26 : Heap), has_ E H_b26 a ly_O s_b26 → sm_ H H_b26 a 10 → fX8_runToBreach_l26 i0 r5 fu (v3_b26, s_b26) = some x26 → aw E mX8_runToBreach Q 26 [(0, .ref a), (1, .int i0), (2, .int (r5.1 1 (ix_ (17 : Int32)))), (3, .int v3_b26)] [] H_b26 0 0 := by
      intro fu
      induction fu with
      | zero =>
        intro v3_b26 s_b26 H_b26 h0 hs hm
        exact (it_0 hm).elim
      | succ fu ih26 =>
        intro v3_b26 s_b26 H_b26 h0 hs hm
        obtain ⟨y26, hm, hk26⟩ := it_s hm
        have hm : fX8_runToBreach_b26 i0 r5 v3_b26 s_b26 = some y26 := hm
        unfold fX8_runToBreach_b26 at hm
        refine aw_b (pc' := 27) (lv' := [(0, .ref a), (1, .int i0), (2, .int (r5.1 1 (ix_ (17 : Int32)))), (3, .int v3_b26)]) (st' := [.ref a]) [(26, .aload_n 0, 1, .null)] (by decide +kernel) rfl ?_
        refine aw_gl (v := .ref (a + 1)) a 0 h0 eo_O_0 fgX8_9 rfl (by decide +kernel) ?_
        refine aw_b (pc' := 32) (lv' := [(0, .ref a), (1, .int i0), (2, .int (r5.1 1 (ix_ (17 : Int32)))), (3, .int v3_b26)]) (st' := [.int (17 : Int32), .ref (a + 1)]) [(30, .bipush 17, 2, .int (17 : Int32))] (by decide +kernel) rfl ?_
        obtain ⟨g11, hm⟩ := gd_x hm
        refine aw_ial a 1 h0 rfl g11 (by decide +kernel) ?_
        refine aw_b (pc' := 34) (lv' := [(0, .ref a), (1, .int i0), (2, .int (r5.1 1 (ix_ (17 : Int32)))), (3, .int v3_b26)]) (st' := [.int (r5.1 1 (ix_ (17 : Int32))), .int (s_b26 1 (ix_ (17 : Int32)))]) [(33, .iload_n 2, 1, .null)] (by decide +kernel) rfl ?_
        refine aw_ic_ne (off := 31) 65 (by decide) (by decide +kernel) (fun hc => ?_) (fun hc => ?_)
        · have hm := (if_neg hc).symm.trans hm
          cases hm
          refine aw_lv (lv' := [(0, .ref a), (2, .int (r5.1 1 (ix_ (17 : Int32)))), (3, .int v3_b26)]) [0, 2, 3] rfl ?_
          exact X26_65 v3_b26 s_b26 H_b26 h0 hs ((congrArg (fX8_runToBreach_k26 r5) (show ((v3_b26, s_b26)) = x26 from hk26)).trans hr26)
        · have hm := (if_pos hc).symm.trans hm
          refine aw_b (pc' := 39) (lv' := [(0, .ref a), (1, .int i0), (2, .int (r5.1 1 (ix_ (17 : Int32)))), (3, .int v3_b26)]) (st' := [.int i0, .int v3_b26]) [(37, .iload_n 3, 1, .null), (38, .iload_n 1, 1, .null)] (by decide +kernel) rfl ?_
          refine aw_ic_ge (off := 26) 65 (by decide) (by decide +kernel) (fun hc => ?_) (fun hc => ?_)
          · have hm := (if_pos hc).symm.trans hm
            cases hm
            refine aw_lv (lv' := [(0, .ref a), (2, .int (r5.1 1 (ix_ (17 : Int32)))), (3, .int v3_b26)]) [0, 2, 3] rfl ?_
            exact X26_65 v3_b26 s_b26 H_b26 h0 hs ((congrArg (fX8_runToBreach_k26 r5) (show ((v3_b26, s_b26)) = x26 from hk26)).trans hr26)
          · have hm := (if_neg hc).symm.trans hm
            refine aw_b (pc' := 43) (lv' := [(0, .ref a), (1, .int i0), (2, .int (r5.1 1 (ix_ (17 : Int32)))), (3, .int v3_b26)]) (st' := [.ref a]) [(42, .aload_n 0, 1, .null)] (by decide +kernel) rfl ?_
            refine aw_gl (v := .ref (a + 1)) a 0 h0 eo_O_0 fgX8_9 rfl (by decide +kernel) ?_
            refine aw_b (pc' := 48) (lv' := [(0, .ref a), (1, .int i0), (2, .int (r5.1 1 (ix_ (17 : Int32)))), (3, .int v3_b26)]) (st' := [.int (16 : Int32), .ref (a + 1)]) [(46, .bipush 16, 2, .int (16 : Int32))] (by decide +kernel) rfl ?_
            obtain ⟨g12, hm⟩ := gd_x hm
            refine aw_ial a 1 h0 rfl g12 (by decide +kernel) ?_
            refine aw_b (pc' := 52) (lv' := [(0, .ref a), (1, .int i0), (2, .int (r5.1 1 (ix_ (17 : Int32)))), (3, .int v3_b26)]) (st' := [.int (1000 : Int32), .int (s_b26 1 (ix_ (16 : Int32)))]) [(49, .sipush 1000, 3, .int (1000 : Int32))] (by decide +kernel) rfl ?_
            refine aw_ic_ge (off := 13) 65 (by decide) (by decide +kernel) (fun hc => ?_) (fun hc => ?_)
            · have hm := (if_pos hc).symm.trans hm
              cases hm
              refine aw_lv (lv' := [(0, .ref a), (2, .int (r5.1 1 (ix_ (17 : Int32)))), (3, .int v3_b26)]) [0, 2, 3] rfl ?_
              exact X26_65 v3_b26 s_b26 H_b26 h0 hs ((congrArg (fX8_runToBreach_k26 r5) (show ((v3_b26, s_b26)) = x26 from hk26)).trans hr26)
            · have hm := (if_neg hc).symm.trans hm
              refine aw_b (pc' := 56) (lv' := [(0, .ref a), (1, .int i0), (2, .int (r5.1 1 (ix_ (17 : Int32)))), (3, .int v3_b26)]) (st' := [.ref a]) [(55, .aload_n 0, 1, .null)] (by decide +kernel) rfl ?_
              obtain ⟨r13, e14, hm⟩ := bn_x hm
              refine aw_cv (rest := []) (st1 := []) a 0 (kX8_round e14 h0 hf) rfl rfl ckX8_round lkX8_384 h0 eo_O_0 ⟨_, _, rfl⟩ nkX8_round rfl rfl rfl (Nat.le_of_ble_eq_true rfl) (Nat.zero_le _) (Nat.zero_le _) (by decide +kernel) (fun H15 z16 => ?_)
              obtain ⟨z16, hn⟩ := z16
              have h0 := hn
              have hs := hs.step z16 (by omega) (by omega)
              refine aw_b (pc' := 26) (lv' := [(3, .int (v3_b26 + (1 : Int32))), (0, .ref a), (1, .int i0), (2, .int (r5.1 1 (ix_ (17 : Int32))))]) (st' := []) [(59, .iinc 3 1, 3, .int (1 : Int32)), (62, .goto (-36), 3, .null)] (by decide +kernel) rfl ?_
              cases hm
              refine aw_lv (lv' := [(0, .ref a), (1, .int i0), (2, .int (r5.1 1 (ix_ (17 : Int32)))), (3, .int (v3_b26 + (1 : Int32)))]) [1, 2, 3, 0] rfl ?_
              exact ih26 (v3_b26 + (1 : Int32)) r13 H15 h0 hs hk26
    refine aw_lv (lv' := [(0, .ref a), (1, .int i0), (2, .int (r5.1 1 (ix_ (17 : Int32)))), (3, .int (0 : Int32))]) [2, 3, 1, 0] rfl ?_
    exact L26 FU_ (0 : Int32) r5.1 H7 h0 hs hx26
  · have hm := (if_neg hc).symm.trans hm
    refine aw_b (pc' := 15) (lv' := [(0, .ref a), (1, .int i0)]) (st' := [.int (0 : Int32)]) [(14, .iconst 0, 1, .int (0 : Int32))] (by decide +kernel) rfl ?_
    obtain rfl := Option.some.inj hm
    subst hQ
    exact aw_iret rfl (Nat.zero_le _) (Nat.zero_le _) (by decide +kernel) ⟨rfl, hs, h0⟩
def mX8_hurtOf : mt_ := (yX8_hurtOf, cX8_hurtOf, 2, some .int, [], { frames := 9, locals := 205, cells := 0, slots := 0 })
theorem ckX8_hurtOf : cokV_ mX8_hurtOf := ⟨⟨(uw_mem 2062 (by decide +kernel) (by decide +kernel)), (uw_mem 112 (by decide +kernel) (by decide +kernel)), by decide +kernel, by decide +kernel⟩, (uw_mem 2060 (by decide +kernel) (by decide +kernel)), (uw_mem 2061 (by decide +kernel) (by decide +kernel))⟩
theorem nkX8_hurtOf : nok_ mX8_hurtOf 1 := by decide +kernel
def fX8_hurtOf (s : st_) (i0 : Int32) : Option (st_ × Int32) :=
  bn_ (fX8_noCylinder s i0) fun r1 =>
  if r1.2 = (0 : Int32) then (bn_ (fX8_isFull r1.1) fun r5 =>
  if r5 = (0 : Int32) then (bn_ (fX8_hurts r1.1 i0) fun r9 =>
  some (r9.1, r9.2))
  else (some (r1.1, (-2000000000 : Int32))))
  else (some (r1.1, (0 : Int32)))
set_option maxRecDepth 8000 in
theorem kX8_hurtOf {E : ev_} {H : Heap} {a : Nat} {s : st_} {i0 : Int32} {r : st_ × Int32} (hm : fX8_hurtOf s i0 = some r) (h0 : has_ E H a ly_O s) (hf : ev_fr E a) : sp_ E mX8_hurtOf [.ref a, .int i0] H (po1 (.inl (some (.int r.2))) (fun Hn => sm_ H Hn a 10 ∧ has_ E Hn a ly_O r.1)) := by
  refine sp_of (by decide +kernel) rfl rfl ?_
  generalize hQ : po1 _ _ = Q
  have hs : sm_ H H a 10 := sm_.rfl'
  unfold fX8_hurtOf at hm
  refine aw_lv (lv' := [(0, .ref a), (1, .int i0)]) [0, 1] rfl ?_
  refine aw_b (pc' := 2) (lv' := [(0, .ref a), (1, .int i0)]) (st' := [.int i0, .ref a]) [(0, .aload_n 0, 1, .null), (1, .iload_n 1, 1, .null)] (by decide +kernel) rfl ?_
  obtain ⟨r1, e2, hm⟩ := bn_x hm
  refine aw_cv (rest := []) (st1 := [.int r1.2]) a 0 (kX8_noCylinder e2 h0 hf) rfl rfl ckX8_noCylinder lkX8_242 h0 eo_O_0 ⟨_, _, rfl⟩ nkX8_noCylinder rfl rfl rfl (Nat.le_of_ble_eq_true rfl) (Nat.zero_le _) (Nat.zero_le _) (by decide +kernel) (fun H3 z4 => ?_)
  obtain ⟨z4, hn⟩ := z4
  have h0 := hn
  have hs := hs.step z4 (by omega) (by omega)
  refine aw_if_eq (off := 7) 12 (by decide) (by decide +kernel) (fun hc => ?_) (fun hc => ?_)
  · have hm := (if_pos hc).symm.trans hm
    refine aw_b (pc' := 13) (lv' := [(0, .ref a), (1, .int i0)]) (st' := [.ref a]) [(12, .aload_n 0, 1, .null)] (by decide +kernel) rfl ?_
    obtain ⟨r5, e6, hm⟩ := bn_x hm
    refine aw_cv (rest := []) (st1 := [.int r5]) a 0 (kX8_isFull e6 h0) rfl rfl ckX8_isFull lkX8_245 h0 eo_O_0 ⟨_, _, rfl⟩ nkX8_isFull rfl rfl rfl (Nat.le_of_ble_eq_true rfl) (Nat.zero_le _) (Nat.zero_le _) (by decide +kernel) (fun H7 z8 => ?_)
    have h0 := h0.kept0 z8
    have hs := hs.step0 z8
    refine aw_if_eq (off := 9) 25 (by decide) (by decide +kernel) (fun hc => ?_) (fun hc => ?_)
    · have hm := (if_pos hc).symm.trans hm
      refine aw_b (pc' := 27) (lv' := [(0, .ref a), (1, .int i0)]) (st' := [.int i0, .ref a]) [(25, .aload_n 0, 1, .null), (26, .iload_n 1, 1, .null)] (by decide +kernel) rfl ?_
      obtain ⟨r9, e10, hm⟩ := bn_x hm
      refine aw_cv (rest := []) (st1 := [.int r9.2]) a 0 (kX8_hurts e10 h0 hf) rfl rfl ckX8_hurts lkX8_341 h0 eo_O_0 ⟨_, _, rfl⟩ nkX8_hurts rfl rfl rfl (Nat.le_of_ble_eq_true rfl) (Nat.zero_le _) (Nat.zero_le _) (by decide +kernel) (fun H11 z12 => ?_)
      obtain ⟨z12, hn⟩ := z12
      have h0 := hn
      have hs := hs.step z12 (by omega) (by omega)
      obtain rfl := Option.some.inj hm
      subst hQ
      exact aw_iret rfl (Nat.zero_le _) (Nat.zero_le _) (by decide +kernel) ⟨rfl, hs, h0⟩
    · have hm := (if_neg hc).symm.trans hm
      refine aw_ldcw (v := (-2000000000 : Int32)) kwX8_397 (by decide +kernel) ?_
      refine aw_b (pc' := 30) (lv' := [(0, .ref a), (1, .int i0)]) (st' := [.int (-2000000000 : Int32)]) [(22, .goto 8, 3, .null)] (by decide +kernel) rfl ?_
      obtain rfl := Option.some.inj hm
      subst hQ
      exact aw_iret rfl (Nat.zero_le _) (Nat.zero_le _) (by decide +kernel) ⟨rfl, hs, h0⟩
  · have hm := (if_neg hc).symm.trans hm
    refine aw_b (pc' := 30) (lv' := [(0, .ref a), (1, .int i0)]) (st' := [.int (0 : Int32)]) [(8, .iconst 0, 1, .int (0 : Int32)), (9, .goto 21, 3, .null)] (by decide +kernel) rfl ?_
    obtain rfl := Option.some.inj hm
    subst hQ
    exact aw_iret rfl (Nat.zero_le _) (Nat.zero_le _) (by decide +kernel) ⟨rfl, hs, h0⟩
def mX8_worst : mt_ := (yX8_worst, cX8_worst, 1, some .int, [], { frames := 10, locals := 229, cells := 0, slots := 0 })
theorem ckX8_worst : cokV_ mX8_worst := ⟨⟨(uw_mem 2066 (by decide +kernel) (by decide +kernel)), (uw_mem 112 (by decide +kernel) (by decide +kernel)), by decide +kernel, by decide +kernel⟩, (uw_mem 2064 (by decide +kernel) (by decide +kernel)), (uw_mem 2065 (by decide +kernel) (by decide +kernel))⟩
theorem nkX8_worst : nok_ mX8_worst 0 := by decide +kernel
def fX8_worst (s : st_) : Option (st_ × Int32) :=
  bd_ (pt_ s 0 6 (0 : Int32)) fun s1 =>
  bn_ (fX8_isFull s1) fun r5 =>
  if r5 = (0 : Int32) then (bn_ (fX8_worstOf s1) fun r9 =>
  some (r9.1, r9.2))
  else (some (s1, (-1 : Int32)))
set_option maxRecDepth 8000 in
theorem kX8_worst {E : ev_} {H : Heap} {a : Nat} {s : st_} {r : st_ × Int32} (hm : fX8_worst s = some r) (h0 : has_ E H a ly_O s) (hf : ev_fr E a) : sp_ E mX8_worst [.ref a] H (po1 (.inl (some (.int r.2))) (fun Hn => sm_ H Hn a 10 ∧ has_ E Hn a ly_O r.1)) := by
  refine sp_of (by decide +kernel) rfl rfl ?_
  generalize hQ : po1 _ _ = Q
  have hs : sm_ H H a 10 := sm_.rfl'
  unfold fX8_worst at hm
  refine aw_lv (lv' := [(0, .ref a)]) [0] rfl ?_
  refine aw_b (pc' := 2) (lv' := [(0, .ref a)]) (st' := [.int (0 : Int32), .ref a]) [(0, .aload_n 0, 1, .null), (1, .iconst 0, 1, .int (0 : Int32))] (by decide +kernel) rfl ?_
  obtain ⟨s1, e2, hm⟩ := bd_x hm
  refine aw_pl a 0 h0 eo_O_0 fsq_8_6 fpX8_45 hf rfl rfl e2 (by decide +kernel) (fun H3 h0 z4 => ?_)
  have hs := hs.step z4 (by omega) (by omega)
  refine aw_b (pc' := 6) (lv' := [(0, .ref a)]) (st' := [.ref a]) [(5, .aload_n 0, 1, .null)] (by decide +kernel) rfl ?_
  obtain ⟨r5, e6, hm⟩ := bn_x hm
  refine aw_cv (rest := []) (st1 := [.int r5]) a 0 (kX8_isFull e6 h0) rfl rfl ckX8_isFull lkX8_245 h0 eo_O_0 ⟨_, _, rfl⟩ nkX8_isFull rfl rfl rfl (Nat.le_of_ble_eq_true rfl) (Nat.zero_le _) (Nat.zero_le _) (by decide +kernel) (fun H7 z8 => ?_)
  have h0 := h0.kept0 z8
  have hs := hs.step0 z8
  refine aw_if_eq (off := 7) 16 (by decide) (by decide +kernel) (fun hc => ?_) (fun hc => ?_)
  · have hm := (if_pos hc).symm.trans hm
    refine aw_b (pc' := 17) (lv' := [(0, .ref a)]) (st' := [.ref a]) [(16, .aload_n 0, 1, .null)] (by decide +kernel) rfl ?_
    obtain ⟨r9, e10, hm⟩ := bn_x hm
    refine aw_cv (rest := []) (st1 := [.int r9.2]) a 0 (kX8_worstOf e10 h0 hf) rfl rfl ckX8_worstOf lkX8_347 h0 eo_O_0 ⟨_, _, rfl⟩ nkX8_worstOf rfl rfl rfl (Nat.le_of_ble_eq_true rfl) (Nat.zero_le _) (Nat.zero_le _) (by decide +kernel) (fun H11 z12 => ?_)
    obtain ⟨z12, hn⟩ := z12
    have h0 := hn
    have hs := hs.step z12 (by omega) (by omega)
    obtain rfl := Option.some.inj hm
    subst hQ
    exact aw_iret rfl (Nat.zero_le _) (Nat.zero_le _) (by decide +kernel) ⟨rfl, hs, h0⟩
  · have hm := (if_neg hc).symm.trans hm
    refine aw_b (pc' := 20) (lv' := [(0, .ref a)]) (st' := [.int (-1 : Int32)]) [(12, .iconst (-1), 1, .int (-1 : Int32)), (13, .goto 7, 3, .null)] (by decide +kernel) rfl ?_
    obtain rfl := Option.some.inj hm
    subst hQ
    exact aw_iret rfl (Nat.zero_le _) (Nat.zero_le _) (by decide +kernel) ⟨rfl, hs, h0⟩
def mX8_regretIn : mt_ := (yX8_regretIn, cX8_regretIn, 2, some .int, [], { frames := 14, locals := 320, cells := 0, slots := 0 })
theorem ckX8_regretIn : cokV_ mX8_regretIn := ⟨⟨(uw_mem 2070 (by decide +kernel) (by decide +kernel)), (uw_mem 112 (by decide +kernel) (by decide +kernel)), by decide +kernel, by decide +kernel⟩, (uw_mem 2068 (by decide +kernel) (by decide +kernel)), (uw_mem 2069 (by decide +kernel) (by decide +kernel))⟩
theorem nkX8_regretIn : nok_ mX8_regretIn 1 := by decide +kernel
def fX8_regretIn (s : st_) (i0 : Int32) : Option (st_ × Int32) :=
  bd_ (pt_ s 0 6 (0 : Int32)) fun s1 =>
  bn_ (fX8_noRounds s1 i0 (1 : Int32)) fun r5 =>
  if r5.2 = (0 : Int32) then (bn_ (fX8_goesAside r5.1) fun r9 =>
  bn_ (fX8_regretBehind r9 i0) fun r13 =>
  some (r13.1, r13.2))
  else (some (r5.1, (0 : Int32)))
set_option maxRecDepth 8000 in
theorem kX8_regretIn {E : ev_} {H : Heap} {a : Nat} {s : st_} {i0 : Int32} {r : st_ × Int32} (hm : fX8_regretIn s i0 = some r) (h0 : has_ E H a ly_O s) (hf : ev_fr E a) : sp_ E mX8_regretIn [.ref a, .int i0] H (po1 (.inl (some (.int r.2))) (fun Hn => sm_ H Hn a 10 ∧ has_ E Hn a ly_O r.1)) := by
  refine sp_of (by decide +kernel) rfl rfl ?_
  generalize hQ : po1 _ _ = Q
  have hs : sm_ H H a 10 := sm_.rfl'
  unfold fX8_regretIn at hm
  refine aw_lv (lv' := [(0, .ref a), (1, .int i0)]) [0, 1] rfl ?_
  refine aw_b (pc' := 2) (lv' := [(0, .ref a), (1, .int i0)]) (st' := [.int (0 : Int32), .ref a]) [(0, .aload_n 0, 1, .null), (1, .iconst 0, 1, .int (0 : Int32))] (by decide +kernel) rfl ?_
  obtain ⟨s1, e2, hm⟩ := bd_x hm
  refine aw_pl a 0 h0 eo_O_0 fsq_8_6 fpX8_45 hf rfl rfl e2 (by decide +kernel) (fun H3 h0 z4 => ?_)
  have hs := hs.step z4 (by omega) (by omega)
  refine aw_b (pc' := 8) (lv' := [(0, .ref a), (1, .int i0)]) (st' := [.int (1 : Int32), .int i0, .ref a]) [(5, .aload_n 0, 1, .null), (6, .iload_n 1, 1, .null), (7, .iconst 1, 1, .int (1 : Int32))] (by decide +kernel) rfl ?_
  obtain ⟨r5, e6, hm⟩ := bn_x hm
  refine aw_cv (rest := []) (st1 := [.int r5.2]) a 0 (kX8_noRounds e6 h0 hf) rfl rfl ckX8_noRounds lkX8_445 h0 eo_O_0 ⟨_, _, rfl⟩ nkX8_noRounds rfl rfl rfl (Nat.le_of_ble_eq_true rfl) (Nat.zero_le _) (Nat.zero_le _) (by decide +kernel) (fun H7 z8 => ?_)
  obtain ⟨z8, hn⟩ := z8
  have h0 := hn
  have hs := hs.step z8 (by omega) (by omega)
  refine aw_if_eq (off := 5) 16 (by decide) (by decide +kernel) (fun hc => ?_) (fun hc => ?_)
  · have hm := (if_pos hc).symm.trans hm
    refine aw_b (pc' := 17) (lv' := [(0, .ref a), (1, .int i0)]) (st' := [.ref a]) [(16, .aload_n 0, 1, .null)] (by decide +kernel) rfl ?_
    obtain ⟨r9, e10, hm⟩ := bn_x hm
    refine aw_cv (rest := []) (st1 := []) a 0 (kX8_goesAside e10 h0 hf) rfl rfl ckX8_goesAside lkX8_448 h0 eo_O_0 ⟨_, _, rfl⟩ nkX8_goesAside rfl rfl rfl (Nat.le_of_ble_eq_true rfl) (Nat.zero_le _) (Nat.zero_le _) (by decide +kernel) (fun H11 z12 => ?_)
    obtain ⟨z12, hn⟩ := z12
    have h0 := hn
    have hs := hs.step z12 (by omega) (by omega)
    refine aw_b (pc' := 22) (lv' := [(0, .ref a), (1, .int i0)]) (st' := [.int i0, .ref a]) [(20, .aload_n 0, 1, .null), (21, .iload_n 1, 1, .null)] (by decide +kernel) rfl ?_
    obtain ⟨r13, e14, hm⟩ := bn_x hm
    refine aw_cv (rest := []) (st1 := [.int r13.2]) a 0 (kX8_regretBehind e14 h0 hf) rfl rfl ckX8_regretBehind lkX8_457 h0 eo_O_0 ⟨_, _, rfl⟩ nkX8_regretBehind rfl rfl rfl (Nat.le_of_ble_eq_true rfl) (Nat.zero_le _) (Nat.zero_le _) (by decide +kernel) (fun H15 z16 => ?_)
    obtain ⟨z16, hn⟩ := z16
    have h0 := hn
    have hs := hs.step z16 (by omega) (by omega)
    obtain rfl := Option.some.inj hm
    subst hQ
    exact aw_iret rfl (Nat.zero_le _) (Nat.zero_le _) (by decide +kernel) ⟨rfl, hs, h0⟩
  · have hm := (if_neg hc).symm.trans hm
    refine aw_b (pc' := 15) (lv' := [(0, .ref a), (1, .int i0)]) (st' := [.int (0 : Int32)]) [(14, .iconst 0, 1, .int (0 : Int32))] (by decide +kernel) rfl ?_
    obtain rfl := Option.some.inj hm
    subst hQ
    exact aw_iret rfl (Nat.zero_le _) (Nat.zero_le _) (by decide +kernel) ⟨rfl, hs, h0⟩
def mX8_costIn : mt_ := (yX8_costIn, cX8_costIn, 5, some .int, [], { frames := 13, locals := 298, cells := 0, slots := 0 })
theorem ckX8_costIn : cokV_ mX8_costIn := ⟨⟨(uw_mem 2074 (by decide +kernel) (by decide +kernel)), (uw_mem 112 (by decide +kernel) (by decide +kernel)), by decide +kernel, by decide +kernel⟩, (uw_mem 2072 (by decide +kernel) (by decide +kernel)), (uw_mem 2073 (by decide +kernel) (by decide +kernel))⟩
theorem nkX8_costIn : nok_ mX8_costIn 2 := by decide +kernel
def fX8_costIn (s : st_) (i0 : Int32) (i1 : Int32) : Option (st_ × Int32) :=
  bn_ (fX8_noArm s i0) fun r1 =>
  if r1.2 = (0 : Int32) then (bn_ (fX8_noRounds r1.1 i1 (2 : Int32)) fun r5 =>
  if r5.2 = (0 : Int32) then (bn_ (fX8_told i0) fun r9 =>
  bn_ (fX8_armOf r5.1 r9 (3 : Int32)) fun r13 =>
  bn_ (fX8_goesAside r5.1) fun r17 =>
  bn_ (fX8_rounds r17 i1) fun r21 =>
  bn_ (fX8_told i0) fun r25 =>
  bn_ (fX8_armOf r21 r25 (3 : Int32)) fun r29 =>
  bn_ (fX8_comesBack r21) fun r33 =>
  some (r33, (r29 - r13)))
  else (some (r5.1, (0 : Int32))))
  else (some (r1.1, (0 : Int32)))
set_option maxRecDepth 8000 in
theorem kX8_costIn {E : ev_} {H : Heap} {a : Nat} {s : st_} {i0 : Int32} {i1 : Int32} {r : st_ × Int32} (hm : fX8_costIn s i0 i1 = some r) (h0 : has_ E H a ly_O s) (hf : ev_fr E a) : sp_ E mX8_costIn [.ref a, .int i0, .int i1] H (po1 (.inl (some (.int r.2))) (fun Hn => sm_ H Hn a 10 ∧ has_ E Hn a ly_O r.1)) := by
  refine sp_of (by decide +kernel) rfl rfl ?_
  generalize hQ : po1 _ _ = Q
  have hs : sm_ H H a 10 := sm_.rfl'
  unfold fX8_costIn at hm
  refine aw_lv (lv' := [(0, .ref a), (1, .int i0), (2, .int i1)]) [0, 1, 2] rfl ?_
  refine aw_b (pc' := 2) (lv' := [(0, .ref a), (1, .int i0), (2, .int i1)]) (st' := [.int i0, .ref a]) [(0, .aload_n 0, 1, .null), (1, .iload_n 1, 1, .null)] (by decide +kernel) rfl ?_
  obtain ⟨r1, e2, hm⟩ := bn_x hm
  refine aw_cv (rest := []) (st1 := [.int r1.2]) a 0 (kX8_noArm e2 h0 hf) rfl rfl ckX8_noArm lkX8_387 h0 eo_O_0 ⟨_, _, rfl⟩ nkX8_noArm rfl rfl rfl (Nat.le_of_ble_eq_true rfl) (Nat.zero_le _) (Nat.zero_le _) (by decide +kernel) (fun H3 z4 => ?_)
  obtain ⟨z4, hn⟩ := z4
  have h0 := hn
  have hs := hs.step z4 (by omega) (by omega)
  refine aw_if_ne (off := 12) 17 (by decide) (by decide +kernel) (fun hc => ?_) (fun hc => ?_)
  · have hm := (if_neg hc).symm.trans hm
    refine aw_b (pc' := 18) (lv' := [(0, .ref a), (1, .int i0), (2, .int i1)]) (st' := [.int (0 : Int32)]) [(17, .iconst 0, 1, .int (0 : Int32))] (by decide +kernel) rfl ?_
    obtain rfl := Option.some.inj hm
    subst hQ
    exact aw_iret rfl (Nat.zero_le _) (Nat.zero_le _) (by decide +kernel) ⟨rfl, hs, h0⟩
  · have hm := (if_pos hc).symm.trans hm
    refine aw_b (pc' := 11) (lv' := [(0, .ref a), (1, .int i0), (2, .int i1)]) (st' := [.int (2 : Int32), .int i1, .ref a]) [(8, .aload_n 0, 1, .null), (9, .iload_n 2, 1, .null), (10, .iconst 2, 1, .int (2 : Int32))] (by decide +kernel) rfl ?_
    obtain ⟨r5, e6, hm⟩ := bn_x hm
    refine aw_cv (rest := []) (st1 := [.int r5.2]) a 0 (kX8_noRounds e6 h0 hf) rfl rfl ckX8_noRounds lkX8_445 h0 eo_O_0 ⟨_, _, rfl⟩ nkX8_noRounds rfl rfl rfl (Nat.le_of_ble_eq_true rfl) (Nat.zero_le _) (Nat.zero_le _) (by decide +kernel) (fun H7 z8 => ?_)
    obtain ⟨z8, hn⟩ := z8
    have h0 := hn
    have hs := hs.step z8 (by omega) (by omega)
    refine aw_if_eq (off := 5) 19 (by decide) (by decide +kernel) (fun hc => ?_) (fun hc => ?_)
    · have hm := (if_pos hc).symm.trans hm
      refine aw_b (pc' := 21) (lv' := [(0, .ref a), (1, .int i0), (2, .int i1)]) (st' := [.int i0, .ref a]) [(19, .aload_n 0, 1, .null), (20, .iload_n 1, 1, .null)] (by decide +kernel) rfl ?_
      obtain ⟨r9, e10, hm⟩ := bn_x hm
      refine aw_cs (rest := [.ref a]) (st1 := [.int r9, .ref a]) (kX8_told e10) rfl rfl ckX8_told lkX8_392 nkX8_told rfl rfl rfl (Nat.le_of_ble_eq_true rfl) (Nat.zero_le _) (Nat.zero_le _) (by decide +kernel) (fun H11 z12 => ?_)
      have h0 := h0.kept0 z12
      have hs := hs.step0 z12
      refine aw_b (pc' := 25) (lv' := [(0, .ref a), (1, .int i0), (2, .int i1)]) (st' := [.int (3 : Int32), .int r9, .ref a]) [(24, .iconst 3, 1, .int (3 : Int32))] (by decide +kernel) rfl ?_
      obtain ⟨r13, e14, hm⟩ := bn_x hm
      refine aw_cv (rest := []) (st1 := [.int r13]) a 0 (kX8_armOf e14 h0) rfl rfl ckX8_armOf lkX8_232 h0 eo_O_0 ⟨_, _, rfl⟩ nkX8_armOf rfl rfl rfl (Nat.le_of_ble_eq_true rfl) (Nat.zero_le _) (Nat.zero_le _) (by decide +kernel) (fun H15 z16 => ?_)
      have h0 := h0.kept0 z16
      have hs := hs.step0 z16
      refine aw_b (pc' := 30) (lv' := [(3, .int r13), (0, .ref a), (1, .int i0), (2, .int i1)]) (st' := [.ref a]) [(28, .istore_n 3, 1, .null), (29, .aload_n 0, 1, .null)] (by decide +kernel) rfl ?_
      obtain ⟨r17, e18, hm⟩ := bn_x hm
      refine aw_cv (rest := []) (st1 := []) a 0 (kX8_goesAside e18 h0 hf) rfl rfl ckX8_goesAside lkX8_448 h0 eo_O_0 ⟨_, _, rfl⟩ nkX8_goesAside rfl rfl rfl (Nat.le_of_ble_eq_true rfl) (Nat.zero_le _) (Nat.zero_le _) (by decide +kernel) (fun H19 z20 => ?_)
      obtain ⟨z20, hn⟩ := z20
      have h0 := hn
      have hs := hs.step z20 (by omega) (by omega)
      refine aw_b (pc' := 35) (lv' := [(3, .int r13), (0, .ref a), (1, .int i0), (2, .int i1)]) (st' := [.int i1, .ref a]) [(33, .aload_n 0, 1, .null), (34, .iload_n 2, 1, .null)] (by decide +kernel) rfl ?_
      obtain ⟨r21, e22, hm⟩ := bn_x hm
      refine aw_cv (rest := []) (st1 := []) a 0 (kX8_rounds e22 h0 hf) rfl rfl ckX8_rounds lkX8_451 h0 eo_O_0 ⟨_, _, rfl⟩ nkX8_rounds rfl rfl rfl (Nat.le_of_ble_eq_true rfl) (Nat.zero_le _) (Nat.zero_le _) (by decide +kernel) (fun H23 z24 => ?_)
      obtain ⟨z24, hn⟩ := z24
      have h0 := hn
      have hs := hs.step z24 (by omega) (by omega)
      refine aw_b (pc' := 40) (lv' := [(3, .int r13), (0, .ref a), (1, .int i0), (2, .int i1)]) (st' := [.int i0, .ref a]) [(38, .aload_n 0, 1, .null), (39, .iload_n 1, 1, .null)] (by decide +kernel) rfl ?_
      obtain ⟨r25, e26, hm⟩ := bn_x hm
      refine aw_cs (rest := [.ref a]) (st1 := [.int r25, .ref a]) (kX8_told e26) rfl rfl ckX8_told lkX8_392 nkX8_told rfl rfl rfl (Nat.le_of_ble_eq_true rfl) (Nat.zero_le _) (Nat.zero_le _) (by decide +kernel) (fun H27 z28 => ?_)
      have h0 := h0.kept0 z28
      have hs := hs.step0 z28
      refine aw_b (pc' := 44) (lv' := [(3, .int r13), (0, .ref a), (1, .int i0), (2, .int i1)]) (st' := [.int (3 : Int32), .int r25, .ref a]) [(43, .iconst 3, 1, .int (3 : Int32))] (by decide +kernel) rfl ?_
      obtain ⟨r29, e30, hm⟩ := bn_x hm
      refine aw_cv (rest := []) (st1 := [.int r29]) a 0 (kX8_armOf e30 h0) rfl rfl ckX8_armOf lkX8_232 h0 eo_O_0 ⟨_, _, rfl⟩ nkX8_armOf rfl rfl rfl (Nat.le_of_ble_eq_true rfl) (Nat.zero_le _) (Nat.zero_le _) (by decide +kernel) (fun H31 z32 => ?_)
      have h0 := h0.kept0 z32
      have hs := hs.step0 z32
      refine aw_b (pc' := 52) (lv' := [(4, .int (r29 - r13)), (3, .int r13), (0, .ref a), (1, .int i0), (2, .int i1)]) (st' := [.ref a]) [(47, .iload_n 3, 1, .null), (48, .isub, 1, .null), (49, .istore 4, 2, .null), (51, .aload_n 0, 1, .null)] (by decide +kernel) rfl ?_
      obtain ⟨r33, e34, hm⟩ := bn_x hm
      refine aw_cv (rest := []) (st1 := []) a 0 (kX8_comesBack e34 h0 hf) rfl rfl ckX8_comesBack lkX8_454 h0 eo_O_0 ⟨_, _, rfl⟩ nkX8_comesBack rfl rfl rfl (Nat.le_of_ble_eq_true rfl) (Nat.zero_le _) (Nat.zero_le _) (by decide +kernel) (fun H35 z36 => ?_)
      obtain ⟨z36, hn⟩ := z36
      have h0 := hn
      have hs := hs.step z36 (by omega) (by omega)
      refine aw_b (pc' := 57) (lv' := [(4, .int (r29 - r13)), (3, .int r13), (0, .ref a), (1, .int i0), (2, .int i1)]) (st' := [.int (r29 - r13)]) [(55, .iload 4, 2, .null)] (by decide +kernel) rfl ?_
      obtain rfl := Option.some.inj hm
      subst hQ
      exact aw_iret rfl (Nat.zero_le _) (Nat.zero_le _) (by decide +kernel) ⟨rfl, hs, h0⟩
    · have hm := (if_neg hc).symm.trans hm
      refine aw_b (pc' := 18) (lv' := [(0, .ref a), (1, .int i0), (2, .int i1)]) (st' := [.int (0 : Int32)]) [(17, .iconst 0, 1, .int (0 : Int32))] (by decide +kernel) rfl ?_
      obtain rfl := Option.some.inj hm
      subst hQ
      exact aw_iret rfl (Nat.zero_le _) (Nat.zero_le _) (by decide +kernel) ⟨rfl, hs, h0⟩
def mX8_breachIn : mt_ := (yX8_breachIn, cX8_breachIn, 4, some .int, [], { frames := 12, locals := 276, cells := 0, slots := 0 })
theorem ckX8_breachIn : cokV_ mX8_breachIn := ⟨⟨(uw_mem 2078 (by decide +kernel) (by decide +kernel)), (uw_mem 112 (by decide +kernel) (by decide +kernel)), by decide +kernel, by decide +kernel⟩, (uw_mem 2076 (by decide +kernel) (by decide +kernel)), (uw_mem 2077 (by decide +kernel) (by decide +kernel))⟩
theorem nkX8_breachIn : nok_ mX8_breachIn 0 := by decide +kernel
def fX8_breachIn_j76 (v2_x32_60 : Int32) (s_x32_60 : st_) (z0_j76 : Int32) : Option (st_ × Int32) :=
  bn_ (fX8_comesBack s_x32_60) fun r12 =>
  if z0_j76 = (0 : Int32) then (some (r12, (-1 : Int32)))
  else (some (r12, v2_x32_60))
def fX8_breachIn_x32_60 (r6 : st_) (v2_x32_60 : Int32) (s_x32_60 : st_) : Option (st_ × Int32) :=
  gd_ (ib_ (17 : Int32) 12584) <|
  if (s_x32_60 1 (ix_ (17 : Int32))) ≤ (r6 1 (ix_ (17 : Int32))) then (fX8_breachIn_j76 v2_x32_60 s_x32_60 (0 : Int32))
  else (fX8_breachIn_j76 v2_x32_60 s_x32_60 (1 : Int32))
def fX8_breachIn_k32 (r6 : st_) (x : Int32 × st_) : Option (st_ × Int32) :=
  fX8_breachIn_x32_60 r6 x.1 x.2
def fX8_breachIn_b32 (r6 : st_) (v2_b32 : Int32) (s_b32 : st_) : Option ((Int32 × st_) ⊕ (Int32 × st_)) :=
  gd_ (ib_ (17 : Int32) 12584) <|
  if (s_b32 1 (ix_ (17 : Int32))) = (r6 1 (ix_ (17 : Int32))) then (if (200 : Int32) ≤ v2_b32 then (some (.inr (v2_b32, s_b32)))
  else (bn_ (fX8_round s_b32) fun r17 =>
  some (.inl ((v2_b32 + (1 : Int32)), r17))))
  else (some (.inr (v2_b32, s_b32)))
def fX8_breachIn_l32 (r6 : st_) : Nat → (Int32 × st_) → Option (Int32 × st_) :=
  it_ (fun v => fX8_breachIn_b32 r6 v.1 v.2)
def fX8_breachIn (s : st_) : Option (st_ × Int32) :=
  bd_ (pt_ s 0 6 (0 : Int32)) fun s1 =>
  gd_ (ib_ (11 : Int32) 12584) <|
  if (s1 1 (ix_ (11 : Int32))) = (-1 : Int32) then (some (s1, (-1 : Int32)))
  else (bn_ (fX8_goesAside s1) fun r6 =>
  gd_ (ib_ (17 : Int32) 12584) <|
  bn_ (fX8_breachIn_l32 r6 FU_ ((0 : Int32), r6)) (fX8_breachIn_k32 r6))
set_option maxRecDepth 8000 in
theorem kX8_breachIn {E : ev_} {H : Heap} {a : Nat} {s : st_} {r : st_ × Int32} (hm : fX8_breachIn s = some r) (h0 : has_ E H a ly_O s) (hf : ev_fr E a) : sp_ E mX8_breachIn [.ref a] H (po1 (.inl (some (.int r.2))) (fun Hn => sm_ H Hn a 10 ∧ has_ E Hn a ly_O r.1)) := by
  refine sp_of (by decide +kernel) rfl rfl ?_
  generalize hQ : po1 _ _ = Q
  have hs : sm_ H H a 10 := sm_.rfl'
  unfold fX8_breachIn at hm
  refine aw_lv (lv' := [(0, .ref a)]) [0] rfl ?_
  refine aw_b (pc' := 2) (lv' := [(0, .ref a)]) (st' := [.int (0 : Int32), .ref a]) [(0, .aload_n 0, 1, .null), (1, .iconst 0, 1, .int (0 : Int32))] (by decide +kernel) rfl ?_
  obtain ⟨s1, e2, hm⟩ := bd_x hm
  refine aw_pl a 0 h0 eo_O_0 fsq_8_6 fpX8_45 hf rfl rfl e2 (by decide +kernel) (fun H3 h0 z4 => ?_)
  have hs := hs.step z4 (by omega) (by omega)
  refine aw_b (pc' := 6) (lv' := [(0, .ref a)]) (st' := [.ref a]) [(5, .aload_n 0, 1, .null)] (by decide +kernel) rfl ?_
  refine aw_gl (v := .ref (a + 1)) a 0 h0 eo_O_0 fgX8_9 rfl (by decide +kernel) ?_
  refine aw_b (pc' := 11) (lv' := [(0, .ref a)]) (st' := [.int (11 : Int32), .ref (a + 1)]) [(9, .bipush 11, 2, .int (11 : Int32))] (by decide +kernel) rfl ?_
  obtain ⟨g5, hm⟩ := gd_x hm
  refine aw_ial a 1 h0 rfl g5 (by decide +kernel) ?_
  refine aw_b (pc' := 13) (lv' := [(0, .ref a)]) (st' := [.int (-1 : Int32), .int (s1 1 (ix_ (11 : Int32)))]) [(12, .iconst (-1), 1, .int (-1 : Int32))] (by decide +kernel) rfl ?_
  refine aw_ic_ne (off := 5) 18 (by decide) (by decide +kernel) (fun hc => ?_) (fun hc => ?_)
  · have hm := (if_neg hc).symm.trans hm
    refine aw_b (pc' := 19) (lv' := [(0, .ref a)]) (st' := [.ref a]) [(18, .aload_n 0, 1, .null)] (by decide +kernel) rfl ?_
    obtain ⟨r6, e7, hm⟩ := bn_x hm
    refine aw_cv (rest := []) (st1 := []) a 0 (kX8_goesAside e7 h0 hf) rfl rfl ckX8_goesAside lkX8_448 h0 eo_O_0 ⟨_, _, rfl⟩ nkX8_goesAside rfl rfl rfl (Nat.le_of_ble_eq_true rfl) (Nat.zero_le _) (Nat.zero_le _) (by decide +kernel) (fun H8 z9 => ?_)
    obtain ⟨z9, hn⟩ := z9
    have h0 := hn
    have hs := hs.step z9 (by omega) (by omega)
    refine aw_b (pc' := 23) (lv' := [(0, .ref a)]) (st' := [.ref a]) [(22, .aload_n 0, 1, .null)] (by decide +kernel) rfl ?_
    refine aw_gl (v := .ref (a + 1)) a 0 h0 eo_O_0 fgX8_9 rfl (by decide +kernel) ?_
    refine aw_b (pc' := 28) (lv' := [(0, .ref a)]) (st' := [.int (17 : Int32), .ref (a + 1)]) [(26, .bipush 17, 2, .int (17 : Int32))] (by decide +kernel) rfl ?_
    obtain ⟨g10, hm⟩ := gd_x hm
    refine aw_ial a 1 h0 rfl g10 (by decide +kernel) ?_
    refine aw_b (pc' := 32) (lv' := [(2, .int (0 : Int32)), (1, .int (r6 1 (ix_ (17 : Int32)))), (0, .ref a)]) (st' := []) [(29, .istore_n 1, 1, .null), (30, .iconst 0, 1, .int (0 : Int32)), (31, .istore_n 2, 1, .null)] (by decide +kernel) rfl ?_
    obtain ⟨x32, hx32, hr32⟩ := bn_x hm
    have X32_60 : ∀ (v2_x32_60 : Int32) (s_x32_60 : st_) (H_x32_60 : Heap), has_ E H_x32_60 a ly_O s_x32_60 → sm_ H H_x32_60 a 10 → fX8_breachIn_x32_60 r6 v2_x32_60 s_x32_60 = some r → aw E mX8_breachIn Q 60 [(0, .ref a), (1, .int (r6 1 (ix_ (17 : Int32)))), (2, .int v2_x32_60)] [] H_x32_60 0 0 := by
      intro v2_x32_60 s_x32_60 H_x32_60 h0 hs hm
      unfold fX8_breachIn_x32_60 at hm
      refine aw_b (pc' := 61) (lv' := [(0, .ref a), (1, .int (r6 1 (ix_ (17 : Int32)))), (2, .int v2_x32_60)]) (st' := [.ref a]) [(60, .aload_n 0, 1, .null)] (by decide +kernel) rfl ?_
      refine aw_gl (v := .ref (a + 1)) a 0 h0 eo_O_0 fgX8_9 rfl (by decide +kernel) ?_
      refine aw_b (pc' := 66) (lv' := [(0, .ref a), (1, .int (r6 1 (ix_ (17 : Int32)))), (2, .int v2_x32_60)]) (st' := [.int (17 : Int32), .ref (a + 1)]) [(64, .bipush 17, 2, .int (17 : Int32))] (by decide +kernel) rfl ?_
      obtain ⟨g11, hm⟩ := gd_x hm
      refine aw_ial a 1 h0 rfl g11 (by decide +kernel) ?_
      refine aw_b (pc' := 68) (lv' := [(0, .ref a), (1, .int (r6 1 (ix_ (17 : Int32)))), (2, .int v2_x32_60)]) (st' := [.int (r6 1 (ix_ (17 : Int32))), .int (s_x32_60 1 (ix_ (17 : Int32)))]) [(67, .iload_n 1, 1, .null)] (by decide +kernel) rfl ?_
      have J76 : ∀ (z0_j76 : Int32) (H_j76 : Heap), has_ E H_j76 a ly_O s_x32_60 → sm_ H H_j76 a 10 → fX8_breachIn_j76 v2_x32_60 s_x32_60 z0_j76 = some r → aw E mX8_breachIn Q 76 [(0, .ref a), (2, .int v2_x32_60)] [.int z0_j76] H_j76 0 0 := by
        intro z0_j76 H_j76 h0 hs hm
        unfold fX8_breachIn_j76 at hm
        refine aw_b (pc' := 78) (lv' := [(3, .int z0_j76), (0, .ref a), (2, .int v2_x32_60)]) (st' := [.ref a]) [(76, .istore_n 3, 1, .null), (77, .aload_n 0, 1, .null)] (by decide +kernel) rfl ?_
        obtain ⟨r12, e13, hm⟩ := bn_x hm
        refine aw_cv (rest := []) (st1 := []) a 0 (kX8_comesBack e13 h0 hf) rfl rfl ckX8_comesBack lkX8_454 h0 eo_O_0 ⟨_, _, rfl⟩ nkX8_comesBack rfl rfl rfl (Nat.le_of_ble_eq_true rfl) (Nat.zero_le _) (Nat.zero_le _) (by decide +kernel) (fun H14 z15 => ?_)
        obtain ⟨z15, hn⟩ := z15
        have h0 := hn
        have hs := hs.step z15 (by omega) (by omega)
        refine aw_b (pc' := 82) (lv' := [(3, .int z0_j76), (0, .ref a), (2, .int v2_x32_60)]) (st' := [.int z0_j76]) [(81, .iload_n 3, 1, .null)] (by decide +kernel) rfl ?_
        refine aw_if_eq (off := 7) 89 (by decide) (by decide +kernel) (fun hc => ?_) (fun hc => ?_)
        · have hm := (if_pos hc).symm.trans hm
          refine aw_b (pc' := 90) (lv' := [(3, .int z0_j76), (0, .ref a), (2, .int v2_x32_60)]) (st' := [.int (-1 : Int32)]) [(89, .iconst (-1), 1, .int (-1 : Int32))] (by decide +kernel) rfl ?_
          obtain rfl := Option.some.inj hm
          subst hQ
          exact aw_iret rfl (Nat.zero_le _) (Nat.zero_le _) (by decide +kernel) ⟨rfl, hs, h0⟩
        · have hm := (if_neg hc).symm.trans hm
          refine aw_b (pc' := 90) (lv' := [(3, .int z0_j76), (0, .ref a), (2, .int v2_x32_60)]) (st' := [.int v2_x32_60]) [(85, .iload_n 2, 1, .null), (86, .goto 4, 3, .null)] (by decide +kernel) rfl ?_
          obtain rfl := Option.some.inj hm
          subst hQ
          exact aw_iret rfl (Nat.zero_le _) (Nat.zero_le _) (by decide +kernel) ⟨rfl, hs, h0⟩
      refine aw_ic_le (off := 7) 75 (by decide) (by decide +kernel) (fun hc => ?_) (fun hc => ?_)
      · have hm := (if_pos hc).symm.trans hm
        refine aw_b (pc' := 76) (lv' := [(0, .ref a), (1, .int (r6 1 (ix_ (17 : Int32)))), (2, .int v2_x32_60)]) (st' := [.int (0 : Int32)]) [(75, .iconst 0, 1, .int (0 : Int32))] (by decide +kernel) rfl ?_
        refine aw_lv (lv' := [(0, .ref a), (2, .int v2_x32_60)]) [0, 2] rfl ?_
        exact J76 (0 : Int32) H_x32_60 h0 hs hm
      · have hm := (if_neg hc).symm.trans hm
        refine aw_b (pc' := 76) (lv' := [(0, .ref a), (1, .int (r6 1 (ix_ (17 : Int32)))), (2, .int v2_x32_60)]) (st' := [.int (1 : Int32)]) [(71, .iconst 1, 1, .int (1 : Int32)), (72, .goto 4, 3, .null)] (by decide +kernel) rfl ?_
        refine aw_lv (lv' := [(0, .ref a), (2, .int v2_x32_60)]) [0, 2] rfl ?_
        exact J76 (1 : Int32) H_x32_60 h0 hs hm
    have L32 : ∀ (fu : Nat) (v2_b32 : Int32) (s_b32 : st_) (H_b32 : Heap), has_ E H_b32 a ly_O s_b32 → sm_ H H_b32 a 10 → fX8_breachIn_l32 r6 fu (v2_b32, s_b32) = some x32 → aw E mX8_breachIn Q 32 [(0, .ref a), (1, .int (r6 1 (ix_ (17 : Int32)))), (2, .int v2_b32)] [] H_b32 0 0 := by
      intro fu
      induction fu with
      | zero =>
        intro v2_b32 s_b32 H_b32 h0 hs hm
        exact (it_0 hm).elim
      | succ fu ih32 =>
        intro v2_b32 s_b32 H_b32 h0 hs hm
        obtain ⟨y32, hm, hk32⟩ := it_s hm
        have hm : fX8_breachIn_b32 r6 v2_b32 s_b32 = some y32 := hm
        unfold fX8_breachIn_b32 at hm
        refine aw_b (pc' := 33) (lv' := [(0, .ref a), (1, .int (r6 1 (ix_ (17 : Int32)))), (2, .int v2_b32)]) (st' := [.ref a]) [(32, .aload_n 0, 1, .null)] (by decide +kernel) rfl ?_
        refine aw_gl (v := .ref (a + 1)) a 0 h0 eo_O_0 fgX8_9 rfl (by decide +kernel) ?_
        refine aw_b (pc' := 38) (lv' := [(0, .ref a), (1, .int (r6 1 (ix_ (17 : Int32)))), (2, .int v2_b32)]) (st' := [.int (17 : Int32), .ref (a + 1)]) [(36, .bipush 17, 2, .int (17 : Int32))] (by decide +kernel) rfl ?_
        obtain ⟨g16, hm⟩ := gd_x hm
        refine aw_ial a 1 h0 rfl g16 (by decide +kernel) ?_
        refine aw_b (pc' := 40) (lv' := [(0, .ref a), (1, .int (r6 1 (ix_ (17 : Int32)))), (2, .int v2_b32)]) (st' := [.int (r6 1 (ix_ (17 : Int32))), .int (s_b32 1 (ix_ (17 : Int32)))]) [(39, .iload_n 1, 1, .null)] (by decide +kernel) rfl ?_
        refine aw_ic_ne (off := 20) 60 (by decide) (by decide +kernel) (fun hc => ?_) (fun hc => ?_)
        · have hm := (if_neg hc).symm.trans hm
          cases hm
          exact X32_60 v2_b32 s_b32 H_b32 h0 hs ((congrArg (fX8_breachIn_k32 r6) (show ((v2_b32, s_b32)) = x32 from hk32)).trans hr32)
        · have hm := (if_pos hc).symm.trans hm
          refine aw_b (pc' := 47) (lv' := [(0, .ref a), (1, .int (r6 1 (ix_ (17 : Int32)))), (2, .int v2_b32)]) (st' := [.int (200 : Int32), .int v2_b32]) [(43, .iload_n 2, 1, .null), (44, .sipush 200, 3, .int (200 : Int32))] (by decide +kernel) rfl ?_
          refine aw_ic_ge (off := 13) 60 (by decide) (by decide +kernel) (fun hc => ?_) (fun hc => ?_)
          · have hm := (if_pos hc).symm.trans hm
            cases hm
            exact X32_60 v2_b32 s_b32 H_b32 h0 hs ((congrArg (fX8_breachIn_k32 r6) (show ((v2_b32, s_b32)) = x32 from hk32)).trans hr32)
          · have hm := (if_neg hc).symm.trans hm
            refine aw_b (pc' := 51) (lv' := [(0, .ref a), (1, .int (r6 1 (ix_ (17 : Int32)))), (2, .int v2_b32)]) (st' := [.ref a]) [(50, .aload_n 0, 1, .null)] (by decide +kernel) rfl ?_
            obtain ⟨r17, e18, hm⟩ := bn_x hm
            refine aw_cv (rest := []) (st1 := []) a 0 (kX8_round e18 h0 hf) rfl rfl ckX8_round lkX8_384 h0 eo_O_0 ⟨_, _, rfl⟩ nkX8_round rfl rfl rfl (Nat.le_of_ble_eq_true rfl) (Nat.zero_le _) (Nat.zero_le _) (by decide +kernel) (fun H19 z20 => ?_)
            obtain ⟨z20, hn⟩ := z20
            have h0 := hn
            have hs := hs.step z20 (by omega) (by omega)
            refine aw_b (pc' := 32) (lv' := [(2, .int (v2_b32 + (1 : Int32))), (0, .ref a), (1, .int (r6 1 (ix_ (17 : Int32))))]) (st' := []) [(54, .iinc 2 1, 3, .int (1 : Int32)), (57, .goto (-25), 3, .null)] (by decide +kernel) rfl ?_
            cases hm
            refine aw_lv (lv' := [(0, .ref a), (1, .int (r6 1 (ix_ (17 : Int32)))), (2, .int (v2_b32 + (1 : Int32)))]) [1, 2, 0] rfl ?_
            exact ih32 (v2_b32 + (1 : Int32)) r17 H19 h0 hs hk32
    refine aw_lv (lv' := [(0, .ref a), (1, .int (r6 1 (ix_ (17 : Int32)))), (2, .int (0 : Int32))]) [2, 1, 0] rfl ?_
    exact L32 FU_ (0 : Int32) r6 H8 h0 hs hx32
  · have hm := (if_pos hc).symm.trans hm
    refine aw_b (pc' := 17) (lv' := [(0, .ref a)]) (st' := [.int (-1 : Int32)]) [(16, .iconst (-1), 1, .int (-1 : Int32))] (by decide +kernel) rfl ?_
    obtain rfl := Option.some.inj hm
    subst hQ
    exact aw_iret rfl (Nat.zero_le _) (Nat.zero_le _) (by decide +kernel) ⟨rfl, hs, h0⟩
def mX8_regretKeeping : mt_ := (yX8_regretKeeping, cX8_regretKeeping, 3, some .int, [], { frames := 14, locals := 320, cells := 0, slots := 0 })
theorem ckX8_regretKeeping : cokV_ mX8_regretKeeping := ⟨⟨(uw_mem 2082 (by decide +kernel) (by decide +kernel)), (uw_mem 112 (by decide +kernel) (by decide +kernel)), by decide +kernel, by decide +kernel⟩, (uw_mem 2080 (by decide +kernel) (by decide +kernel)), (uw_mem 2081 (by decide +kernel) (by decide +kernel))⟩
theorem nkX8_regretKeeping : nok_ mX8_regretKeeping 2 := by decide +kernel
def fX8_regretKeeping (s : st_) (i0 : Int32) (i1 : Int32) : Option (st_ × Int32) :=
  bn_ (fX8_noRule s i0) fun r1 =>
  if r1.2 = (0 : Int32) then (bn_ (fX8_noRounds r1.1 i1 (2 : Int32)) fun r5 =>
  if r5.2 = (0 : Int32) then (bn_ (fX8_goesAside r5.1) fun r9 =>
  gd_ (ib_ (5 : Int32) 12584) <|
  bd_ (pt_ r9 1 (ix_ (5 : Int32)) (2 : Int32)) fun s14 =>
  gd_ (ib_ (6 : Int32) 12584) <|
  bd_ (pt_ s14 1 (ix_ (6 : Int32)) i0) fun s19 =>
  bn_ (fX8_regretBehind s19 i1) fun r23 =>
  some (r23.1, r23.2))
  else (some (r5.1, (0 : Int32))))
  else (some (r1.1, (0 : Int32)))
set_option maxRecDepth 8000 in
theorem kX8_regretKeeping {E : ev_} {H : Heap} {a : Nat} {s : st_} {i0 : Int32} {i1 : Int32} {r : st_ × Int32} (hm : fX8_regretKeeping s i0 i1 = some r) (h0 : has_ E H a ly_O s) (hf : ev_fr E a) : sp_ E mX8_regretKeeping [.ref a, .int i0, .int i1] H (po1 (.inl (some (.int r.2))) (fun Hn => sm_ H Hn a 10 ∧ has_ E Hn a ly_O r.1)) := by
  refine sp_of (by decide +kernel) rfl rfl ?_
  generalize hQ : po1 _ _ = Q
  have hs : sm_ H H a 10 := sm_.rfl'
  unfold fX8_regretKeeping at hm
  refine aw_lv (lv' := [(0, .ref a), (1, .int i0), (2, .int i1)]) [0, 1, 2] rfl ?_
  refine aw_b (pc' := 2) (lv' := [(0, .ref a), (1, .int i0), (2, .int i1)]) (st' := [.int i0, .ref a]) [(0, .aload_n 0, 1, .null), (1, .iload_n 1, 1, .null)] (by decide +kernel) rfl ?_
  obtain ⟨r1, e2, hm⟩ := bn_x hm
  refine aw_cv (rest := []) (st1 := [.int r1.2]) a 0 (kX8_noRule e2 h0 hf) rfl rfl ckX8_noRule lkX8_227 h0 eo_O_0 ⟨_, _, rfl⟩ nkX8_noRule rfl rfl rfl (Nat.le_of_ble_eq_true rfl) (Nat.zero_le _) (Nat.zero_le _) (by decide +kernel) (fun H3 z4 => ?_)
  obtain ⟨z4, hn⟩ := z4
  have h0 := hn
  have hs := hs.step z4 (by omega) (by omega)
  refine aw_if_ne (off := 12) 17 (by decide) (by decide +kernel) (fun hc => ?_) (fun hc => ?_)
  · have hm := (if_neg hc).symm.trans hm
    refine aw_b (pc' := 18) (lv' := [(0, .ref a), (1, .int i0), (2, .int i1)]) (st' := [.int (0 : Int32)]) [(17, .iconst 0, 1, .int (0 : Int32))] (by decide +kernel) rfl ?_
    obtain rfl := Option.some.inj hm
    subst hQ
    exact aw_iret rfl (Nat.zero_le _) (Nat.zero_le _) (by decide +kernel) ⟨rfl, hs, h0⟩
  · have hm := (if_pos hc).symm.trans hm
    refine aw_b (pc' := 11) (lv' := [(0, .ref a), (1, .int i0), (2, .int i1)]) (st' := [.int (2 : Int32), .int i1, .ref a]) [(8, .aload_n 0, 1, .null), (9, .iload_n 2, 1, .null), (10, .iconst 2, 1, .int (2 : Int32))] (by decide +kernel) rfl ?_
    obtain ⟨r5, e6, hm⟩ := bn_x hm
    refine aw_cv (rest := []) (st1 := [.int r5.2]) a 0 (kX8_noRounds e6 h0 hf) rfl rfl ckX8_noRounds lkX8_445 h0 eo_O_0 ⟨_, _, rfl⟩ nkX8_noRounds rfl rfl rfl (Nat.le_of_ble_eq_true rfl) (Nat.zero_le _) (Nat.zero_le _) (by decide +kernel) (fun H7 z8 => ?_)
    obtain ⟨z8, hn⟩ := z8
    have h0 := hn
    have hs := hs.step z8 (by omega) (by omega)
    refine aw_if_eq (off := 5) 19 (by decide) (by decide +kernel) (fun hc => ?_) (fun hc => ?_)
    · have hm := (if_pos hc).symm.trans hm
      refine aw_b (pc' := 20) (lv' := [(0, .ref a), (1, .int i0), (2, .int i1)]) (st' := [.ref a]) [(19, .aload_n 0, 1, .null)] (by decide +kernel) rfl ?_
      obtain ⟨r9, e10, hm⟩ := bn_x hm
      refine aw_cv (rest := []) (st1 := []) a 0 (kX8_goesAside e10 h0 hf) rfl rfl ckX8_goesAside lkX8_448 h0 eo_O_0 ⟨_, _, rfl⟩ nkX8_goesAside rfl rfl rfl (Nat.le_of_ble_eq_true rfl) (Nat.zero_le _) (Nat.zero_le _) (by decide +kernel) (fun H11 z12 => ?_)
      obtain ⟨z12, hn⟩ := z12
      have h0 := hn
      have hs := hs.step z12 (by omega) (by omega)
      refine aw_b (pc' := 24) (lv' := [(0, .ref a), (1, .int i0), (2, .int i1)]) (st' := [.ref a]) [(23, .aload_n 0, 1, .null)] (by decide +kernel) rfl ?_
      refine aw_gl (v := .ref (a + 1)) a 0 h0 eo_O_0 fgX8_9 rfl (by decide +kernel) ?_
      refine aw_b (pc' := 29) (lv' := [(0, .ref a), (1, .int i0), (2, .int i1)]) (st' := [.int (2 : Int32), .int (5 : Int32), .ref (a + 1)]) [(27, .iconst 5, 1, .int (5 : Int32)), (28, .iconst 2, 1, .int (2 : Int32))] (by decide +kernel) rfl ?_
      obtain ⟨g13, hm⟩ := gd_x hm
      obtain ⟨s14, e15, hm⟩ := bd_x hm
      refine aw_isl a 1 h0 rfl hf g13 e15 (by decide +kernel) (fun H16 h0 z17 => ?_)
      have hs := hs.step z17 (by omega) (by omega)
      refine aw_b (pc' := 31) (lv' := [(0, .ref a), (1, .int i0), (2, .int i1)]) (st' := [.ref a]) [(30, .aload_n 0, 1, .null)] (by decide +kernel) rfl ?_
      refine aw_gl (v := .ref (a + 1)) a 0 h0 eo_O_0 fgX8_9 rfl (by decide +kernel) ?_
      refine aw_b (pc' := 37) (lv' := [(0, .ref a), (1, .int i0), (2, .int i1)]) (st' := [.int i0, .int (6 : Int32), .ref (a + 1)]) [(34, .bipush 6, 2, .int (6 : Int32)), (36, .iload_n 1, 1, .null)] (by decide +kernel) rfl ?_
      obtain ⟨g18, hm⟩ := gd_x hm
      obtain ⟨s19, e20, hm⟩ := bd_x hm
      refine aw_isl a 1 h0 rfl hf g18 e20 (by decide +kernel) (fun H21 h0 z22 => ?_)
      have hs := hs.step z22 (by omega) (by omega)
      refine aw_b (pc' := 40) (lv' := [(0, .ref a), (1, .int i0), (2, .int i1)]) (st' := [.int i1, .ref a]) [(38, .aload_n 0, 1, .null), (39, .iload_n 2, 1, .null)] (by decide +kernel) rfl ?_
      obtain ⟨r23, e24, hm⟩ := bn_x hm
      refine aw_cv (rest := []) (st1 := [.int r23.2]) a 0 (kX8_regretBehind e24 h0 hf) rfl rfl ckX8_regretBehind lkX8_457 h0 eo_O_0 ⟨_, _, rfl⟩ nkX8_regretBehind rfl rfl rfl (Nat.le_of_ble_eq_true rfl) (Nat.zero_le _) (Nat.zero_le _) (by decide +kernel) (fun H25 z26 => ?_)
      obtain ⟨z26, hn⟩ := z26
      have h0 := hn
      have hs := hs.step z26 (by omega) (by omega)
      obtain rfl := Option.some.inj hm
      subst hQ
      exact aw_iret rfl (Nat.zero_le _) (Nat.zero_le _) (by decide +kernel) ⟨rfl, hs, h0⟩
    · have hm := (if_neg hc).symm.trans hm
      refine aw_b (pc' := 18) (lv' := [(0, .ref a), (1, .int i0), (2, .int i1)]) (st' := [.int (0 : Int32)]) [(17, .iconst 0, 1, .int (0 : Int32))] (by decide +kernel) rfl ?_
      obtain rfl := Option.some.inj hm
      subst hQ
      exact aw_iret rfl (Nat.zero_le _) (Nat.zero_le _) (by decide +kernel) ⟨rfl, hs, h0⟩
def mX8_regretAgainst : mt_ := (yX8_regretAgainst, cX8_regretAgainst, 3, some .int, [], { frames := 14, locals := 320, cells := 0, slots := 0 })
theorem ckX8_regretAgainst : cokV_ mX8_regretAgainst := ⟨⟨(uw_mem 2086 (by decide +kernel) (by decide +kernel)), (uw_mem 112 (by decide +kernel) (by decide +kernel)), by decide +kernel, by decide +kernel⟩, (uw_mem 2084 (by decide +kernel) (by decide +kernel)), (uw_mem 2085 (by decide +kernel) (by decide +kernel))⟩
theorem nkX8_regretAgainst : nok_ mX8_regretAgainst 2 := by decide +kernel
def fX8_regretAgainst_j18 (s : st_) (i0 : Int32) (i1 : Int32) (z1_j18 : Int32) : Option (st_ × Int32) :=
  bn_ (fX8_wrong s z1_j18) fun r5 =>
  if r5.2 = (0 : Int32) then (bn_ (fX8_noRounds r5.1 i1 (1 : Int32)) fun r9 =>
  if r9.2 = (0 : Int32) then (bn_ (fX8_goesAside r9.1) fun r13 =>
  gd_ (ib_ (9 : Int32) 12584) <|
  bd_ (pt_ r13 1 (ix_ (9 : Int32)) i0) fun s18 =>
  bn_ (fX8_regretBehind s18 i1) fun r22 =>
  some (r22.1, r22.2))
  else (some (r9.1, (0 : Int32))))
  else (some (r5.1, (0 : Int32)))
def fX8_regretAgainst (s : st_) (i0 : Int32) (i1 : Int32) : Option (st_ × Int32) :=
  bn_ (fX8_in (Int32.toInt64 i0) (0 : Int64) (5 : Int64)) fun r1 =>
  if r1 = (0 : Int32) then (fX8_regretAgainst_j18 s i0 i1 (1 : Int32))
  else (fX8_regretAgainst_j18 s i0 i1 (0 : Int32))
set_option maxRecDepth 8000 in
theorem kX8_regretAgainst {E : ev_} {H : Heap} {a : Nat} {s : st_} {i0 : Int32} {i1 : Int32} {r : st_ × Int32} (hm : fX8_regretAgainst s i0 i1 = some r) (h0 : has_ E H a ly_O s) (hf : ev_fr E a) : sp_ E mX8_regretAgainst [.ref a, .int i0, .int i1] H (po1 (.inl (some (.int r.2))) (fun Hn => sm_ H Hn a 10 ∧ has_ E Hn a ly_O r.1)) := by
  refine sp_of (by decide +kernel) rfl rfl ?_
  generalize hQ : po1 _ _ = Q
  have hs : sm_ H H a 10 := sm_.rfl'
  unfold fX8_regretAgainst at hm
  refine aw_lv (lv' := [(0, .ref a), (1, .int i0), (2, .int i1)]) [0, 1, 2] rfl ?_
  refine aw_b (pc' := 4) (lv' := [(0, .ref a), (1, .int i0), (2, .int i1)]) (st' := [.long (0 : Int64), .long (Int32.toInt64 i0), .ref a]) [(0, .aload_n 0, 1, .null), (1, .iload_n 1, 1, .null), (2, .i2l, 1, .null), (3, .lconst 0, 1, .long (0 : Int64))] (by decide +kernel) rfl ?_
  refine aw_ldc2 (v := (5 : Int64)) kwX8_230 (by decide +kernel) ?_
  obtain ⟨r1, e2, hm⟩ := bn_x hm
  refine aw_cs (rest := [.ref a]) (st1 := [.int r1, .ref a]) (kX8_in e2) rfl rfl ckX8_in lkX8_70 nkX8_in rfl rfl rfl (Nat.le_of_ble_eq_true rfl) (Nat.zero_le _) (Nat.zero_le _) (by decide +kernel) (fun H3 z4 => ?_)
  have h0 := h0.kept0 z4
  have hs := hs.step0 z4
  have J18 : ∀ (z1_j18 : Int32) (H_j18 : Heap), has_ E H_j18 a ly_O s → sm_ H H_j18 a 10 → fX8_regretAgainst_j18 s i0 i1 z1_j18 = some r → aw E mX8_regretAgainst Q 18 [(0, .ref a), (1, .int i0), (2, .int i1)] [.int z1_j18, .ref a] H_j18 0 0 := by
    intro z1_j18 H_j18 h0 hs hm
    unfold fX8_regretAgainst_j18 at hm
    obtain ⟨r5, e6, hm⟩ := bn_x hm
    refine aw_cv (rest := []) (st1 := [.int r5.2]) a 0 (kX8_wrong e6 h0 hf) rfl rfl ckX8_wrong lkX8_221 h0 eo_O_0 ⟨_, _, rfl⟩ nkX8_wrong rfl rfl rfl (Nat.le_of_ble_eq_true rfl) (Nat.zero_le _) (Nat.zero_le _) (by decide +kernel) (fun H7 z8 => ?_)
    obtain ⟨z8, hn⟩ := z8
    have h0 := hn
    have hs := hs.step z8 (by omega) (by omega)
    refine aw_if_ne (off := 12) 33 (by decide) (by decide +kernel) (fun hc => ?_) (fun hc => ?_)
    · have hm := (if_neg hc).symm.trans hm
      refine aw_b (pc' := 34) (lv' := [(0, .ref a), (1, .int i0), (2, .int i1)]) (st' := [.int (0 : Int32)]) [(33, .iconst 0, 1, .int (0 : Int32))] (by decide +kernel) rfl ?_
      obtain rfl := Option.some.inj hm
      subst hQ
      exact aw_iret rfl (Nat.zero_le _) (Nat.zero_le _) (by decide +kernel) ⟨rfl, hs, h0⟩
    · have hm := (if_pos hc).symm.trans hm
      refine aw_b (pc' := 27) (lv' := [(0, .ref a), (1, .int i0), (2, .int i1)]) (st' := [.int (1 : Int32), .int i1, .ref a]) [(24, .aload_n 0, 1, .null), (25, .iload_n 2, 1, .null), (26, .iconst 1, 1, .int (1 : Int32))] (by decide +kernel) rfl ?_
      obtain ⟨r9, e10, hm⟩ := bn_x hm
      refine aw_cv (rest := []) (st1 := [.int r9.2]) a 0 (kX8_noRounds e10 h0 hf) rfl rfl ckX8_noRounds lkX8_445 h0 eo_O_0 ⟨_, _, rfl⟩ nkX8_noRounds rfl rfl rfl (Nat.le_of_ble_eq_true rfl) (Nat.zero_le _) (Nat.zero_le _) (by decide +kernel) (fun H11 z12 => ?_)
      obtain ⟨z12, hn⟩ := z12
      have h0 := hn
      have hs := hs.step z12 (by omega) (by omega)
      refine aw_if_eq (off := 5) 35 (by decide) (by decide +kernel) (fun hc => ?_) (fun hc => ?_)
      · have hm := (if_pos hc).symm.trans hm
        refine aw_b (pc' := 36) (lv' := [(0, .ref a), (1, .int i0), (2, .int i1)]) (st' := [.ref a]) [(35, .aload_n 0, 1, .null)] (by decide +kernel) rfl ?_
        obtain ⟨r13, e14, hm⟩ := bn_x hm
        refine aw_cv (rest := []) (st1 := []) a 0 (kX8_goesAside e14 h0 hf) rfl rfl ckX8_goesAside lkX8_448 h0 eo_O_0 ⟨_, _, rfl⟩ nkX8_goesAside rfl rfl rfl (Nat.le_of_ble_eq_true rfl) (Nat.zero_le _) (Nat.zero_le _) (by decide +kernel) (fun H15 z16 => ?_)
        obtain ⟨z16, hn⟩ := z16
        have h0 := hn
        have hs := hs.step z16 (by omega) (by omega)
        refine aw_b (pc' := 40) (lv' := [(0, .ref a), (1, .int i0), (2, .int i1)]) (st' := [.ref a]) [(39, .aload_n 0, 1, .null)] (by decide +kernel) rfl ?_
        refine aw_gl (v := .ref (a + 1)) a 0 h0 eo_O_0 fgX8_9 rfl (by decide +kernel) ?_
        refine aw_b (pc' := 46) (lv' := [(0, .ref a), (1, .int i0), (2, .int i1)]) (st' := [.int i0, .int (9 : Int32), .ref (a + 1)]) [(43, .bipush 9, 2, .int (9 : Int32)), (45, .iload_n 1, 1, .null)] (by decide +kernel) rfl ?_
        obtain ⟨g17, hm⟩ := gd_x hm
        obtain ⟨s18, e19, hm⟩ := bd_x hm
        refine aw_isl a 1 h0 rfl hf g17 e19 (by decide +kernel) (fun H20 h0 z21 => ?_)
        have hs := hs.step z21 (by omega) (by omega)
        refine aw_b (pc' := 49) (lv' := [(0, .ref a), (1, .int i0), (2, .int i1)]) (st' := [.int i1, .ref a]) [(47, .aload_n 0, 1, .null), (48, .iload_n 2, 1, .null)] (by decide +kernel) rfl ?_
        obtain ⟨r22, e23, hm⟩ := bn_x hm
        refine aw_cv (rest := []) (st1 := [.int r22.2]) a 0 (kX8_regretBehind e23 h0 hf) rfl rfl ckX8_regretBehind lkX8_457 h0 eo_O_0 ⟨_, _, rfl⟩ nkX8_regretBehind rfl rfl rfl (Nat.le_of_ble_eq_true rfl) (Nat.zero_le _) (Nat.zero_le _) (by decide +kernel) (fun H24 z25 => ?_)
        obtain ⟨z25, hn⟩ := z25
        have h0 := hn
        have hs := hs.step z25 (by omega) (by omega)
        obtain rfl := Option.some.inj hm
        subst hQ
        exact aw_iret rfl (Nat.zero_le _) (Nat.zero_le _) (by decide +kernel) ⟨rfl, hs, h0⟩
      · have hm := (if_neg hc).symm.trans hm
        refine aw_b (pc' := 34) (lv' := [(0, .ref a), (1, .int i0), (2, .int i1)]) (st' := [.int (0 : Int32)]) [(33, .iconst 0, 1, .int (0 : Int32))] (by decide +kernel) rfl ?_
        obtain rfl := Option.some.inj hm
        subst hQ
        exact aw_iret rfl (Nat.zero_le _) (Nat.zero_le _) (by decide +kernel) ⟨rfl, hs, h0⟩
  refine aw_if_ne (off := 7) 17 (by decide) (by decide +kernel) (fun hc => ?_) (fun hc => ?_)
  · have hm := (if_neg hc).symm.trans hm
    refine aw_b (pc' := 18) (lv' := [(0, .ref a), (1, .int i0), (2, .int i1)]) (st' := [.int (0 : Int32), .ref a]) [(17, .iconst 0, 1, .int (0 : Int32))] (by decide +kernel) rfl ?_
    exact J18 (0 : Int32) H3 h0 hs hm
  · have hm := (if_pos hc).symm.trans hm
    refine aw_b (pc' := 18) (lv' := [(0, .ref a), (1, .int i0), (2, .int i1)]) (st' := [.int (1 : Int32), .ref a]) [(13, .iconst 1, 1, .int (1 : Int32)), (14, .goto 4, 3, .null)] (by decide +kernel) rfl ?_
    exact J18 (1 : Int32) H3 h0 hs hm
def mX8_saveSnapshot : mt_ := (yX8_saveSnapshot, cX8_saveSnapshot, 2, some .int, [], { frames := 2, locals := 43, cells := 0, slots := 0 })
theorem ckX8_saveSnapshot : cokV_ mX8_saveSnapshot := ⟨⟨(uw_mem 2090 (by decide +kernel) (by decide +kernel)), (uw_mem 112 (by decide +kernel) (by decide +kernel)), by decide +kernel, by decide +kernel⟩, (uw_mem 2088 (by decide +kernel) (by decide +kernel)), (uw_mem 2089 (by decide +kernel) (by decide +kernel))⟩
theorem nkX8_saveSnapshot : nok_ mX8_saveSnapshot 1 := by decide +kernel
theorem fgX8_22 : fok_ RX8 22 8 4 := ⟨_, _, _, rfl, by decide, (uw_mem 1439 (by decide +kernel) (by decide +kernel)), wkX8⟩
theorem su_O_5_IW : sub_ ly_O 5 ly_IW := sub_of rfl
theorem fgX8_25 : fok_ RX8 25 8 5 := ⟨_, _, _, rfl, by decide, (uw_mem 1440 (by decide +kernel) (by decide +kernel)), wkX8⟩
theorem fgX8_19 : fok_ RX8 19 8 3 := ⟨_, _, _, rfl, by decide, (uw_mem 1438 (by decide +kernel) (by decide +kernel)), wkX8⟩
theorem su_O_4_IW : sub_ ly_O 4 ly_IW := sub_of rfl
def fX8_saveSnapshot (s : st_) (i0 : Int32) : Option (st_ × Int32) :=
  bn_ (fX8_in (Int32.toInt64 i0) (0 : Int64) (1 : Int64)) fun r1 =>
  if r1 = (0 : Int32) then (bn_ (fX8_wrong s (1 : Int32)) fun r33 =>
  if r33.2 = (0 : Int32) then (if i0 = (0 : Int32) then (bn_ (fX8_copies (sb_ r33.1 1) (sb_ r33.1 4)) fun r49 =>
  bd_ (mg_ r33.1 4 1 r49) fun s53 =>
  gd_ (ib_ i0 2) <|
  bd_ (pt_ s53 6 (ix_ i0) (vp_nar .boolean (1 : Int32))) fun s56 =>
  gd_ (ib_ (16 : Int32) 12584) <|
  some (s56, (s56 1 (ix_ (16 : Int32)))))
  else (bn_ (fX8_copies (sb_ r33.1 1) (sb_ r33.1 5)) fun r37 =>
  bd_ (mg_ r33.1 5 1 r37) fun s41 =>
  gd_ (ib_ i0 2) <|
  bd_ (pt_ s41 6 (ix_ i0) (vp_nar .boolean (1 : Int32))) fun s44 =>
  gd_ (ib_ (16 : Int32) 12584) <|
  some (s44, (s44 1 (ix_ (16 : Int32))))))
  else (some (r33.1, (0 : Int32))))
  else (bn_ (fX8_wrong s (0 : Int32)) fun r5 =>
  if r5.2 = (0 : Int32) then (if i0 = (0 : Int32) then (bn_ (fX8_copies (sb_ r5.1 1) (sb_ r5.1 4)) fun r21 =>
  bd_ (mg_ r5.1 4 1 r21) fun s25 =>
  gd_ (ib_ i0 2) <|
  bd_ (pt_ s25 6 (ix_ i0) (vp_nar .boolean (1 : Int32))) fun s28 =>
  gd_ (ib_ (16 : Int32) 12584) <|
  some (s28, (s28 1 (ix_ (16 : Int32)))))
  else (bn_ (fX8_copies (sb_ r5.1 1) (sb_ r5.1 5)) fun r9 =>
  bd_ (mg_ r5.1 5 1 r9) fun s13 =>
  gd_ (ib_ i0 2) <|
  bd_ (pt_ s13 6 (ix_ i0) (vp_nar .boolean (1 : Int32))) fun s16 =>
  gd_ (ib_ (16 : Int32) 12584) <|
  some (s16, (s16 1 (ix_ (16 : Int32))))))
  else (some (r5.1, (0 : Int32))))
set_option maxRecDepth 8000 in
theorem kX8_saveSnapshot {E : ev_} {H : Heap} {a : Nat} {s : st_} {i0 : Int32} {r : st_ × Int32} (hm : fX8_saveSnapshot s i0 = some r) (h0 : has_ E H a ly_O s) (hf : ev_fr E a) : sp_ E mX8_saveSnapshot [.ref a, .int i0] H (po1 (.inl (some (.int r.2))) (fun Hn => sm_ H Hn a 10 ∧ has_ E Hn a ly_O r.1)) := by
  refine sp_of (by decide +kernel) rfl rfl ?_
  generalize hQ : po1 _ _ = Q
  have hs : sm_ H H a 10 := sm_.rfl'
  unfold fX8_saveSnapshot at hm
  refine aw_lv (lv' := [(0, .ref a), (1, .int i0)]) [0, 1] rfl ?_
  refine aw_b (pc' := 5) (lv' := [(0, .ref a), (1, .int i0)]) (st' := [.long (1 : Int64), .long (0 : Int64), .long (Int32.toInt64 i0), .ref a]) [(0, .aload_n 0, 1, .null), (1, .iload_n 1, 1, .null), (2, .i2l, 1, .null), (3, .lconst 0, 1, .long (0 : Int64)), (4, .lconst 1, 1, .long (1 : Int64))] (by decide +kernel) rfl ?_
  obtain ⟨r1, e2, hm⟩ := bn_x hm
  refine aw_cs (rest := [.ref a]) (st1 := [.int r1, .ref a]) (kX8_in e2) rfl rfl ckX8_in lkX8_70 nkX8_in rfl rfl rfl (Nat.le_of_ble_eq_true rfl) (Nat.zero_le _) (Nat.zero_le _) (by decide +kernel) (fun H3 z4 => ?_)
  have h0 := h0.kept0 z4
  have hs := hs.step0 z4
  refine aw_if_ne (off := 7) 15 (by decide) (by decide +kernel) (fun hc => ?_) (fun hc => ?_)
  · have hm := (if_neg hc).symm.trans hm
    refine aw_b (pc' := 16) (lv' := [(0, .ref a), (1, .int i0)]) (st' := [.int (0 : Int32), .ref a]) [(15, .iconst 0, 1, .int (0 : Int32))] (by decide +kernel) rfl ?_
    obtain ⟨r5, e6, hm⟩ := bn_x hm
    refine aw_cv (rest := []) (st1 := [.int r5.2]) a 0 (kX8_wrong e6 h0 hf) rfl rfl ckX8_wrong lkX8_221 h0 eo_O_0 ⟨_, _, rfl⟩ nkX8_wrong rfl rfl rfl (Nat.le_of_ble_eq_true rfl) (Nat.zero_le _) (Nat.zero_le _) (by decide +kernel) (fun H7 z8 => ?_)
    obtain ⟨z8, hn⟩ := z8
    have h0 := hn
    have hs := hs.step z8 (by omega) (by omega)
    refine aw_if_eq (off := 5) 24 (by decide) (by decide +kernel) (fun hc => ?_) (fun hc => ?_)
    · have hm := (if_pos hc).symm.trans hm
      refine aw_b (pc' := 25) (lv' := [(0, .ref a), (1, .int i0)]) (st' := [.ref a]) [(24, .aload_n 0, 1, .null)] (by decide +kernel) rfl ?_
      refine aw_gl (v := .ref (a + 1)) a 0 h0 eo_O_0 fgX8_9 rfl (by decide +kernel) ?_
      refine aw_b (pc' := 29) (lv' := [(0, .ref a), (1, .int i0)]) (st' := [.int i0, .ref (a + 1)]) [(28, .iload_n 1, 1, .null)] (by decide +kernel) rfl ?_
      refine aw_if_ne (off := 10) 39 (by decide) (by decide +kernel) (fun hc => ?_) (fun hc => ?_)
      · have hm := (if_neg hc).symm.trans hm
        refine aw_b (pc' := 40) (lv' := [(0, .ref a), (1, .int i0)]) (st' := [.ref a, .ref (a + 1)]) [(39, .aload_n 0, 1, .null)] (by decide +kernel) rfl ?_
        refine aw_gl (v := .ref (a + 5)) a 0 h0 eo_O_0 fgX8_22 rfl (by decide +kernel) ?_
        obtain ⟨r9, e10, hm⟩ := bn_x hm
        refine aw_cs (rest := []) (st1 := []) (kX8_copies e10 (h0.sub su_O_1_IW) (h0.sub su_O_5_IW) (Nat.le_trans hf (Nat.le_add_right _ _)) (by omega)) rfl rfl ckX8_copies lkX8_211 nkX8_copies rfl rfl rfl (Nat.le_of_ble_eq_true rfl) (Nat.zero_le _) (Nat.zero_le _) (by decide +kernel) (fun H11 z12 => ?_)
        obtain ⟨z12, hn⟩ := z12
        obtain ⟨s13, e14, hm⟩ := bd_x hm
        have h0 := h0.mg su_O_5_IW hn z12 rfl e14
        have hs := hs.step z12 (by omega) (by omega)
        refine aw_b (pc' := 47) (lv' := [(0, .ref a), (1, .int i0)]) (st' := [.ref a]) [(46, .aload_n 0, 1, .null)] (by decide +kernel) rfl ?_
        refine aw_gl (v := .ref (a + 6)) a 0 h0 eo_O_0 fgX8_25 rfl (by decide +kernel) ?_
        refine aw_b (pc' := 52) (lv' := [(0, .ref a), (1, .int i0)]) (st' := [.int (1 : Int32), .int i0, .ref (a + 6)]) [(50, .iload_n 1, 1, .null), (51, .iconst 1, 1, .int (1 : Int32))] (by decide +kernel) rfl ?_
        obtain ⟨g15, hm⟩ := gd_x hm
        obtain ⟨s16, e17, hm⟩ := bd_x hm
        refine aw_zsl a 6 h0 rfl hf g15 e17 (by decide +kernel) (fun H18 h0 z19 => ?_)
        have hs := hs.step z19 (by omega) (by omega)
        refine aw_b (pc' := 54) (lv' := [(0, .ref a), (1, .int i0)]) (st' := [.ref a]) [(53, .aload_n 0, 1, .null)] (by decide +kernel) rfl ?_
        refine aw_gl (v := .ref (a + 1)) a 0 h0 eo_O_0 fgX8_9 rfl (by decide +kernel) ?_
        refine aw_b (pc' := 59) (lv' := [(0, .ref a), (1, .int i0)]) (st' := [.int (16 : Int32), .ref (a + 1)]) [(57, .bipush 16, 2, .int (16 : Int32))] (by decide +kernel) rfl ?_
        obtain ⟨g20, hm⟩ := gd_x hm
        refine aw_ial a 1 h0 rfl g20 (by decide +kernel) ?_
        obtain rfl := Option.some.inj hm
        subst hQ
        exact aw_iret rfl (Nat.zero_le _) (Nat.zero_le _) (by decide +kernel) ⟨rfl, hs, h0⟩
      · have hm := (if_pos hc).symm.trans hm
        refine aw_b (pc' := 33) (lv' := [(0, .ref a), (1, .int i0)]) (st' := [.ref a, .ref (a + 1)]) [(32, .aload_n 0, 1, .null)] (by decide +kernel) rfl ?_
        refine aw_gl (v := .ref (a + 4)) a 0 h0 eo_O_0 fgX8_19 rfl (by decide +kernel) ?_
        refine aw_b (pc' := 43) (lv' := [(0, .ref a), (1, .int i0)]) (st' := [.ref (a + 4), .ref (a + 1)]) [(36, .goto 7, 3, .null)] (by decide +kernel) rfl ?_
        obtain ⟨r21, e22, hm⟩ := bn_x hm
        refine aw_cs (rest := []) (st1 := []) (kX8_copies e22 (h0.sub su_O_1_IW) (h0.sub su_O_4_IW) (Nat.le_trans hf (Nat.le_add_right _ _)) (by omega)) rfl rfl ckX8_copies lkX8_211 nkX8_copies rfl rfl rfl (Nat.le_of_ble_eq_true rfl) (Nat.zero_le _) (Nat.zero_le _) (by decide +kernel) (fun H23 z24 => ?_)
        obtain ⟨z24, hn⟩ := z24
        obtain ⟨s25, e26, hm⟩ := bd_x hm
        have h0 := h0.mg su_O_4_IW hn z24 rfl e26
        have hs := hs.step z24 (by omega) (by omega)
        refine aw_b (pc' := 47) (lv' := [(0, .ref a), (1, .int i0)]) (st' := [.ref a]) [(46, .aload_n 0, 1, .null)] (by decide +kernel) rfl ?_
        refine aw_gl (v := .ref (a + 6)) a 0 h0 eo_O_0 fgX8_25 rfl (by decide +kernel) ?_
        refine aw_b (pc' := 52) (lv' := [(0, .ref a), (1, .int i0)]) (st' := [.int (1 : Int32), .int i0, .ref (a + 6)]) [(50, .iload_n 1, 1, .null), (51, .iconst 1, 1, .int (1 : Int32))] (by decide +kernel) rfl ?_
        obtain ⟨g27, hm⟩ := gd_x hm
        obtain ⟨s28, e29, hm⟩ := bd_x hm
        refine aw_zsl a 6 h0 rfl hf g27 e29 (by decide +kernel) (fun H30 h0 z31 => ?_)
        have hs := hs.step z31 (by omega) (by omega)
        refine aw_b (pc' := 54) (lv' := [(0, .ref a), (1, .int i0)]) (st' := [.ref a]) [(53, .aload_n 0, 1, .null)] (by decide +kernel) rfl ?_
        refine aw_gl (v := .ref (a + 1)) a 0 h0 eo_O_0 fgX8_9 rfl (by decide +kernel) ?_
        refine aw_b (pc' := 59) (lv' := [(0, .ref a), (1, .int i0)]) (st' := [.int (16 : Int32), .ref (a + 1)]) [(57, .bipush 16, 2, .int (16 : Int32))] (by decide +kernel) rfl ?_
        obtain ⟨g32, hm⟩ := gd_x hm
        refine aw_ial a 1 h0 rfl g32 (by decide +kernel) ?_
        obtain rfl := Option.some.inj hm
        subst hQ
        exact aw_iret rfl (Nat.zero_le _) (Nat.zero_le _) (by decide +kernel) ⟨rfl, hs, h0⟩
    · have hm := (if_neg hc).symm.trans hm
      refine aw_b (pc' := 23) (lv' := [(0, .ref a), (1, .int i0)]) (st' := [.int (0 : Int32)]) [(22, .iconst 0, 1, .int (0 : Int32))] (by decide +kernel) rfl ?_
      obtain rfl := Option.some.inj hm
      subst hQ
      exact aw_iret rfl (Nat.zero_le _) (Nat.zero_le _) (by decide +kernel) ⟨rfl, hs, h0⟩
  · have hm := (if_pos hc).symm.trans hm
    refine aw_b (pc' := 16) (lv' := [(0, .ref a), (1, .int i0)]) (st' := [.int (1 : Int32), .ref a]) [(11, .iconst 1, 1, .int (1 : Int32)), (12, .goto 4, 3, .null)] (by decide +kernel) rfl ?_
    obtain ⟨r33, e34, hm⟩ := bn_x hm
    refine aw_cv (rest := []) (st1 := [.int r33.2]) a 0 (kX8_wrong e34 h0 hf) rfl rfl ckX8_wrong lkX8_221 h0 eo_O_0 ⟨_, _, rfl⟩ nkX8_wrong rfl rfl rfl (Nat.le_of_ble_eq_true rfl) (Nat.zero_le _) (Nat.zero_le _) (by decide +kernel) (fun H35 z36 => ?_)
    obtain ⟨z36, hn⟩ := z36
    have h0 := hn
    have hs := hs.step z36 (by omega) (by omega)
    refine aw_if_eq (off := 5) 24 (by decide) (by decide +kernel) (fun hc => ?_) (fun hc => ?_)
    · have hm := (if_pos hc).symm.trans hm
      refine aw_b (pc' := 25) (lv' := [(0, .ref a), (1, .int i0)]) (st' := [.ref a]) [(24, .aload_n 0, 1, .null)] (by decide +kernel) rfl ?_
      refine aw_gl (v := .ref (a + 1)) a 0 h0 eo_O_0 fgX8_9 rfl (by decide +kernel) ?_
      refine aw_b (pc' := 29) (lv' := [(0, .ref a), (1, .int i0)]) (st' := [.int i0, .ref (a + 1)]) [(28, .iload_n 1, 1, .null)] (by decide +kernel) rfl ?_
      refine aw_if_ne (off := 10) 39 (by decide) (by decide +kernel) (fun hc => ?_) (fun hc => ?_)
      · have hm := (if_neg hc).symm.trans hm
        refine aw_b (pc' := 40) (lv' := [(0, .ref a), (1, .int i0)]) (st' := [.ref a, .ref (a + 1)]) [(39, .aload_n 0, 1, .null)] (by decide +kernel) rfl ?_
        refine aw_gl (v := .ref (a + 5)) a 0 h0 eo_O_0 fgX8_22 rfl (by decide +kernel) ?_
        obtain ⟨r37, e38, hm⟩ := bn_x hm
        refine aw_cs (rest := []) (st1 := []) (kX8_copies e38 (h0.sub su_O_1_IW) (h0.sub su_O_5_IW) (Nat.le_trans hf (Nat.le_add_right _ _)) (by omega)) rfl rfl ckX8_copies lkX8_211 nkX8_copies rfl rfl rfl (Nat.le_of_ble_eq_true rfl) (Nat.zero_le _) (Nat.zero_le _) (by decide +kernel) (fun H39 z40 => ?_)
        obtain ⟨z40, hn⟩ := z40
        obtain ⟨s41, e42, hm⟩ := bd_x hm
        have h0 := h0.mg su_O_5_IW hn z40 rfl e42
        have hs := hs.step z40 (by omega) (by omega)
        refine aw_b (pc' := 47) (lv' := [(0, .ref a), (1, .int i0)]) (st' := [.ref a]) [(46, .aload_n 0, 1, .null)] (by decide +kernel) rfl ?_
        refine aw_gl (v := .ref (a + 6)) a 0 h0 eo_O_0 fgX8_25 rfl (by decide +kernel) ?_
        refine aw_b (pc' := 52) (lv' := [(0, .ref a), (1, .int i0)]) (st' := [.int (1 : Int32), .int i0, .ref (a + 6)]) [(50, .iload_n 1, 1, .null), (51, .iconst 1, 1, .int (1 : Int32))] (by decide +kernel) rfl ?_
        obtain ⟨g43, hm⟩ := gd_x hm
        obtain ⟨s44, e45, hm⟩ := bd_x hm
        refine aw_zsl a 6 h0 rfl hf g43 e45 (by decide +kernel) (fun H46 h0 z47 => ?_)
        have hs := hs.step z47 (by omega) (by omega)
        refine aw_b (pc' := 54) (lv' := [(0, .ref a), (1, .int i0)]) (st' := [.ref a]) [(53, .aload_n 0, 1, .null)] (by decide +kernel) rfl ?_
        refine aw_gl (v := .ref (a + 1)) a 0 h0 eo_O_0 fgX8_9 rfl (by decide +kernel) ?_
        refine aw_b (pc' := 59) (lv' := [(0, .ref a), (1, .int i0)]) (st' := [.int (16 : Int32), .ref (a + 1)]) [(57, .bipush 16, 2, .int (16 : Int32))] (by decide +kernel) rfl ?_
        obtain ⟨g48, hm⟩ := gd_x hm
        refine aw_ial a 1 h0 rfl g48 (by decide +kernel) ?_
        obtain rfl := Option.some.inj hm
        subst hQ
        exact aw_iret rfl (Nat.zero_le _) (Nat.zero_le _) (by decide +kernel) ⟨rfl, hs, h0⟩
      · have hm := (if_pos hc).symm.trans hm
        refine aw_b (pc' := 33) (lv' := [(0, .ref a), (1, .int i0)]) (st' := [.ref a, .ref (a + 1)]) [(32, .aload_n 0, 1, .null)] (by decide +kernel) rfl ?_
        refine aw_gl (v := .ref (a + 4)) a 0 h0 eo_O_0 fgX8_19 rfl (by decide +kernel) ?_
        refine aw_b (pc' := 43) (lv' := [(0, .ref a), (1, .int i0)]) (st' := [.ref (a + 4), .ref (a + 1)]) [(36, .goto 7, 3, .null)] (by decide +kernel) rfl ?_
        obtain ⟨r49, e50, hm⟩ := bn_x hm
        refine aw_cs (rest := []) (st1 := []) (kX8_copies e50 (h0.sub su_O_1_IW) (h0.sub su_O_4_IW) (Nat.le_trans hf (Nat.le_add_right _ _)) (by omega)) rfl rfl ckX8_copies lkX8_211 nkX8_copies rfl rfl rfl (Nat.le_of_ble_eq_true rfl) (Nat.zero_le _) (Nat.zero_le _) (by decide +kernel) (fun H51 z52 => ?_)
        obtain ⟨z52, hn⟩ := z52
        obtain ⟨s53, e54, hm⟩ := bd_x hm
        have h0 := h0.mg su_O_4_IW hn z52 rfl e54
        have hs := hs.step z52 (by omega) (by omega)
        refine aw_b (pc' := 47) (lv' := [(0, .ref a), (1, .int i0)]) (st' := [.ref a]) [(46, .aload_n 0, 1, .null)] (by decide +kernel) rfl ?_
        refine aw_gl (v := .ref (a + 6)) a 0 h0 eo_O_0 fgX8_25 rfl (by decide +kernel) ?_
        refine aw_b (pc' := 52) (lv' := [(0, .ref a), (1, .int i0)]) (st' := [.int (1 : Int32), .int i0, .ref (a + 6)]) [(50, .iload_n 1, 1, .null), (51, .iconst 1, 1, .int (1 : Int32))] (by decide +kernel) rfl ?_
        obtain ⟨g55, hm⟩ := gd_x hm
        obtain ⟨s56, e57, hm⟩ := bd_x hm
        refine aw_zsl a 6 h0 rfl hf g55 e57 (by decide +kernel) (fun H58 h0 z59 => ?_)
        have hs := hs.step z59 (by omega) (by omega)
        refine aw_b (pc' := 54) (lv' := [(0, .ref a), (1, .int i0)]) (st' := [.ref a]) [(53, .aload_n 0, 1, .null)] (by decide +kernel) rfl ?_
        refine aw_gl (v := .ref (a + 1)) a 0 h0 eo_O_0 fgX8_9 rfl (by decide +kernel) ?_
        refine aw_b (pc' := 59) (lv' := [(0, .ref a), (1, .int i0)]) (st' := [.int (16 : Int32), .ref (a + 1)]) [(57, .bipush 16, 2, .int (16 : Int32))] (by decide +kernel) rfl ?_
        obtain ⟨g60, hm⟩ := gd_x hm
        refine aw_ial a 1 h0 rfl g60 (by decide +kernel) ?_
        obtain rfl := Option.some.inj hm
        subst hQ
        exact aw_iret rfl (Nat.zero_le _) (Nat.zero_le _) (by decide +kernel) ⟨rfl, hs, h0⟩
    · have hm := (if_neg hc).symm.trans hm
      refine aw_b (pc' := 23) (lv' := [(0, .ref a), (1, .int i0)]) (st' := [.int (0 : Int32)]) [(22, .iconst 0, 1, .int (0 : Int32))] (by decide +kernel) rfl ?_
      obtain rfl := Option.some.inj hm
      subst hQ
      exact aw_iret rfl (Nat.zero_le _) (Nat.zero_le _) (by decide +kernel) ⟨rfl, hs, h0⟩
def mX8_restoreSnapshot : mt_ := (yX8_restoreSnapshot, cX8_restoreSnapshot, 2, some .int, [], { frames := 2, locals := 43, cells := 0, slots := 0 })
theorem ckX8_restoreSnapshot : cokV_ mX8_restoreSnapshot := ⟨⟨(uw_mem 2094 (by decide +kernel) (by decide +kernel)), (uw_mem 112 (by decide +kernel) (by decide +kernel)), by decide +kernel, by decide +kernel⟩, (uw_mem 2092 (by decide +kernel) (by decide +kernel)), (uw_mem 2093 (by decide +kernel) (by decide +kernel))⟩
theorem nkX8_restoreSnapshot : nok_ mX8_restoreSnapshot 1 := by decide +kernel
def fX8_restoreSnapshot (s : st_) (i0 : Int32) : Option (st_ × Int32) :=
  bn_ (fX8_in (Int32.toInt64 i0) (0 : Int64) (1 : Int64)) fun r1 =>
  if r1 = (0 : Int32) then (bn_ (fX8_wrong s (1 : Int32)) fun r24 =>
  if r24.2 = (0 : Int32) then (gd_ (ib_ i0 2) <|
  if (r24.1 6 (ix_ i0)) = (0 : Int32) then (some (r24.1, (-1 : Int32)))
  else (if i0 = (0 : Int32) then (bn_ (fX8_copies (sb_ r24.1 4) (sb_ r24.1 1)) fun r36 =>
  bd_ (mg_ r24.1 1 1 r36) fun s40 =>
  gd_ (ib_ (16 : Int32) 12584) <|
  some (s40, (s40 1 (ix_ (16 : Int32)))))
  else (bn_ (fX8_copies (sb_ r24.1 5) (sb_ r24.1 1)) fun r29 =>
  bd_ (mg_ r24.1 1 1 r29) fun s33 =>
  gd_ (ib_ (16 : Int32) 12584) <|
  some (s33, (s33 1 (ix_ (16 : Int32)))))))
  else (some (r24.1, (0 : Int32))))
  else (bn_ (fX8_wrong s (0 : Int32)) fun r5 =>
  if r5.2 = (0 : Int32) then (gd_ (ib_ i0 2) <|
  if (r5.1 6 (ix_ i0)) = (0 : Int32) then (some (r5.1, (-1 : Int32)))
  else (if i0 = (0 : Int32) then (bn_ (fX8_copies (sb_ r5.1 4) (sb_ r5.1 1)) fun r17 =>
  bd_ (mg_ r5.1 1 1 r17) fun s21 =>
  gd_ (ib_ (16 : Int32) 12584) <|
  some (s21, (s21 1 (ix_ (16 : Int32)))))
  else (bn_ (fX8_copies (sb_ r5.1 5) (sb_ r5.1 1)) fun r10 =>
  bd_ (mg_ r5.1 1 1 r10) fun s14 =>
  gd_ (ib_ (16 : Int32) 12584) <|
  some (s14, (s14 1 (ix_ (16 : Int32)))))))
  else (some (r5.1, (0 : Int32))))
set_option maxRecDepth 8000 in
theorem kX8_restoreSnapshot {E : ev_} {H : Heap} {a : Nat} {s : st_} {i0 : Int32} {r : st_ × Int32} (hm : fX8_restoreSnapshot s i0 = some r) (h0 : has_ E H a ly_O s) (hf : ev_fr E a) : sp_ E mX8_restoreSnapshot [.ref a, .int i0] H (po1 (.inl (some (.int r.2))) (fun Hn => sm_ H Hn a 10 ∧ has_ E Hn a ly_O r.1)) := by
  refine sp_of (by decide +kernel) rfl rfl ?_
  generalize hQ : po1 _ _ = Q
  have hs : sm_ H H a 10 := sm_.rfl'
  unfold fX8_restoreSnapshot at hm
  refine aw_lv (lv' := [(0, .ref a), (1, .int i0)]) [0, 1] rfl ?_
  refine aw_b (pc' := 5) (lv' := [(0, .ref a), (1, .int i0)]) (st' := [.long (1 : Int64), .long (0 : Int64), .long (Int32.toInt64 i0), .ref a]) [(0, .aload_n 0, 1, .null), (1, .iload_n 1, 1, .null), (2, .i2l, 1, .null), (3, .lconst 0, 1, .long (0 : Int64)), (4, .lconst 1, 1, .long (1 : Int64))] (by decide +kernel) rfl ?_
  obtain ⟨r1, e2, hm⟩ := bn_x hm
  refine aw_cs (rest := [.ref a]) (st1 := [.int r1, .ref a]) (kX8_in e2) rfl rfl ckX8_in lkX8_70 nkX8_in rfl rfl rfl (Nat.le_of_ble_eq_true rfl) (Nat.zero_le _) (Nat.zero_le _) (by decide +kernel) (fun H3 z4 => ?_)
  have h0 := h0.kept0 z4
  have hs := hs.step0 z4
  refine aw_if_ne (off := 7) 15 (by decide) (by decide +kernel) (fun hc => ?_) (fun hc => ?_)
  · have hm := (if_neg hc).symm.trans hm
    refine aw_b (pc' := 16) (lv' := [(0, .ref a), (1, .int i0)]) (st' := [.int (0 : Int32), .ref a]) [(15, .iconst 0, 1, .int (0 : Int32))] (by decide +kernel) rfl ?_
    obtain ⟨r5, e6, hm⟩ := bn_x hm
    refine aw_cv (rest := []) (st1 := [.int r5.2]) a 0 (kX8_wrong e6 h0 hf) rfl rfl ckX8_wrong lkX8_221 h0 eo_O_0 ⟨_, _, rfl⟩ nkX8_wrong rfl rfl rfl (Nat.le_of_ble_eq_true rfl) (Nat.zero_le _) (Nat.zero_le _) (by decide +kernel) (fun H7 z8 => ?_)
    obtain ⟨z8, hn⟩ := z8
    have h0 := hn
    have hs := hs.step z8 (by omega) (by omega)
    refine aw_if_eq (off := 5) 24 (by decide) (by decide +kernel) (fun hc => ?_) (fun hc => ?_)
    · have hm := (if_pos hc).symm.trans hm
      refine aw_b (pc' := 25) (lv' := [(0, .ref a), (1, .int i0)]) (st' := [.ref a]) [(24, .aload_n 0, 1, .null)] (by decide +kernel) rfl ?_
      refine aw_gl (v := .ref (a + 6)) a 0 h0 eo_O_0 fgX8_25 rfl (by decide +kernel) ?_
      refine aw_b (pc' := 29) (lv' := [(0, .ref a), (1, .int i0)]) (st' := [.int i0, .ref (a + 6)]) [(28, .iload_n 1, 1, .null)] (by decide +kernel) rfl ?_
      obtain ⟨g9, hm⟩ := gd_x hm
      refine aw_zal a 6 h0 rfl g9 (by decide +kernel) ?_
      refine aw_if_ne (off := 5) 35 (by decide) (by decide +kernel) (fun hc => ?_) (fun hc => ?_)
      · have hm := (if_neg hc).symm.trans hm
        refine aw_b (pc' := 36) (lv' := [(0, .ref a), (1, .int i0)]) (st' := [.int i0]) [(35, .iload_n 1, 1, .null)] (by decide +kernel) rfl ?_
        refine aw_if_ne (off := 10) 46 (by decide) (by decide +kernel) (fun hc => ?_) (fun hc => ?_)
        · have hm := (if_neg hc).symm.trans hm
          refine aw_b (pc' := 47) (lv' := [(0, .ref a), (1, .int i0)]) (st' := [.ref a]) [(46, .aload_n 0, 1, .null)] (by decide +kernel) rfl ?_
          refine aw_gl (v := .ref (a + 5)) a 0 h0 eo_O_0 fgX8_22 rfl (by decide +kernel) ?_
          refine aw_b (pc' := 51) (lv' := [(0, .ref a), (1, .int i0)]) (st' := [.ref a, .ref (a + 5)]) [(50, .aload_n 0, 1, .null)] (by decide +kernel) rfl ?_
          refine aw_gl (v := .ref (a + 1)) a 0 h0 eo_O_0 fgX8_9 rfl (by decide +kernel) ?_
          obtain ⟨r10, e11, hm⟩ := bn_x hm
          refine aw_cs (rest := []) (st1 := []) (kX8_copies e11 (h0.sub su_O_5_IW) (h0.sub su_O_1_IW) (Nat.le_trans hf (Nat.le_add_right _ _)) (by omega)) rfl rfl ckX8_copies lkX8_211 nkX8_copies rfl rfl rfl (Nat.le_of_ble_eq_true rfl) (Nat.zero_le _) (Nat.zero_le _) (by decide +kernel) (fun H12 z13 => ?_)
          obtain ⟨z13, hn⟩ := z13
          obtain ⟨s14, e15, hm⟩ := bd_x hm
          have h0 := h0.mg su_O_1_IW hn z13 rfl e15
          have hs := hs.step z13 (by omega) (by omega)
          refine aw_b (pc' := 58) (lv' := [(0, .ref a), (1, .int i0)]) (st' := [.ref a]) [(57, .aload_n 0, 1, .null)] (by decide +kernel) rfl ?_
          refine aw_gl (v := .ref (a + 1)) a 0 h0 eo_O_0 fgX8_9 rfl (by decide +kernel) ?_
          refine aw_b (pc' := 63) (lv' := [(0, .ref a), (1, .int i0)]) (st' := [.int (16 : Int32), .ref (a + 1)]) [(61, .bipush 16, 2, .int (16 : Int32))] (by decide +kernel) rfl ?_
          obtain ⟨g16, hm⟩ := gd_x hm
          refine aw_ial a 1 h0 rfl g16 (by decide +kernel) ?_
          obtain rfl := Option.some.inj hm
          subst hQ
          exact aw_iret rfl (Nat.zero_le _) (Nat.zero_le _) (by decide +kernel) ⟨rfl, hs, h0⟩
        · have hm := (if_pos hc).symm.trans hm
          refine aw_b (pc' := 40) (lv' := [(0, .ref a), (1, .int i0)]) (st' := [.ref a]) [(39, .aload_n 0, 1, .null)] (by decide +kernel) rfl ?_
          refine aw_gl (v := .ref (a + 4)) a 0 h0 eo_O_0 fgX8_19 rfl (by decide +kernel) ?_
          refine aw_b (pc' := 50) (lv' := [(0, .ref a), (1, .int i0)]) (st' := [.ref (a + 4)]) [(43, .goto 7, 3, .null)] (by decide +kernel) rfl ?_
          refine aw_b (pc' := 51) (lv' := [(0, .ref a), (1, .int i0)]) (st' := [.ref a, .ref (a + 4)]) [(50, .aload_n 0, 1, .null)] (by decide +kernel) rfl ?_
          refine aw_gl (v := .ref (a + 1)) a 0 h0 eo_O_0 fgX8_9 rfl (by decide +kernel) ?_
          obtain ⟨r17, e18, hm⟩ := bn_x hm
          refine aw_cs (rest := []) (st1 := []) (kX8_copies e18 (h0.sub su_O_4_IW) (h0.sub su_O_1_IW) (Nat.le_trans hf (Nat.le_add_right _ _)) (by omega)) rfl rfl ckX8_copies lkX8_211 nkX8_copies rfl rfl rfl (Nat.le_of_ble_eq_true rfl) (Nat.zero_le _) (Nat.zero_le _) (by decide +kernel) (fun H19 z20 => ?_)
          obtain ⟨z20, hn⟩ := z20
          obtain ⟨s21, e22, hm⟩ := bd_x hm
          have h0 := h0.mg su_O_1_IW hn z20 rfl e22
          have hs := hs.step z20 (by omega) (by omega)
          refine aw_b (pc' := 58) (lv' := [(0, .ref a), (1, .int i0)]) (st' := [.ref a]) [(57, .aload_n 0, 1, .null)] (by decide +kernel) rfl ?_
          refine aw_gl (v := .ref (a + 1)) a 0 h0 eo_O_0 fgX8_9 rfl (by decide +kernel) ?_
          refine aw_b (pc' := 63) (lv' := [(0, .ref a), (1, .int i0)]) (st' := [.int (16 : Int32), .ref (a + 1)]) [(61, .bipush 16, 2, .int (16 : Int32))] (by decide +kernel) rfl ?_
          obtain ⟨g23, hm⟩ := gd_x hm
          refine aw_ial a 1 h0 rfl g23 (by decide +kernel) ?_
          obtain rfl := Option.some.inj hm
          subst hQ
          exact aw_iret rfl (Nat.zero_le _) (Nat.zero_le _) (by decide +kernel) ⟨rfl, hs, h0⟩
      · have hm := (if_pos hc).symm.trans hm
        refine aw_b (pc' := 34) (lv' := [(0, .ref a), (1, .int i0)]) (st' := [.int (-1 : Int32)]) [(33, .iconst (-1), 1, .int (-1 : Int32))] (by decide +kernel) rfl ?_
        obtain rfl := Option.some.inj hm
        subst hQ
        exact aw_iret rfl (Nat.zero_le _) (Nat.zero_le _) (by decide +kernel) ⟨rfl, hs, h0⟩
    · have hm := (if_neg hc).symm.trans hm
      refine aw_b (pc' := 23) (lv' := [(0, .ref a), (1, .int i0)]) (st' := [.int (0 : Int32)]) [(22, .iconst 0, 1, .int (0 : Int32))] (by decide +kernel) rfl ?_
      obtain rfl := Option.some.inj hm
      subst hQ
      exact aw_iret rfl (Nat.zero_le _) (Nat.zero_le _) (by decide +kernel) ⟨rfl, hs, h0⟩
  · have hm := (if_pos hc).symm.trans hm
    refine aw_b (pc' := 16) (lv' := [(0, .ref a), (1, .int i0)]) (st' := [.int (1 : Int32), .ref a]) [(11, .iconst 1, 1, .int (1 : Int32)), (12, .goto 4, 3, .null)] (by decide +kernel) rfl ?_
    obtain ⟨r24, e25, hm⟩ := bn_x hm
    refine aw_cv (rest := []) (st1 := [.int r24.2]) a 0 (kX8_wrong e25 h0 hf) rfl rfl ckX8_wrong lkX8_221 h0 eo_O_0 ⟨_, _, rfl⟩ nkX8_wrong rfl rfl rfl (Nat.le_of_ble_eq_true rfl) (Nat.zero_le _) (Nat.zero_le _) (by decide +kernel) (fun H26 z27 => ?_)
    obtain ⟨z27, hn⟩ := z27
    have h0 := hn
    have hs := hs.step z27 (by omega) (by omega)
    refine aw_if_eq (off := 5) 24 (by decide) (by decide +kernel) (fun hc => ?_) (fun hc => ?_)
    · have hm := (if_pos hc).symm.trans hm
      refine aw_b (pc' := 25) (lv' := [(0, .ref a), (1, .int i0)]) (st' := [.ref a]) [(24, .aload_n 0, 1, .null)] (by decide +kernel) rfl ?_
      refine aw_gl (v := .ref (a + 6)) a 0 h0 eo_O_0 fgX8_25 rfl (by decide +kernel) ?_
      refine aw_b (pc' := 29) (lv' := [(0, .ref a), (1, .int i0)]) (st' := [.int i0, .ref (a + 6)]) [(28, .iload_n 1, 1, .null)] (by decide +kernel) rfl ?_
      obtain ⟨g28, hm⟩ := gd_x hm
      refine aw_zal a 6 h0 rfl g28 (by decide +kernel) ?_
      refine aw_if_ne (off := 5) 35 (by decide) (by decide +kernel) (fun hc => ?_) (fun hc => ?_)
      · have hm := (if_neg hc).symm.trans hm
        refine aw_b (pc' := 36) (lv' := [(0, .ref a), (1, .int i0)]) (st' := [.int i0]) [(35, .iload_n 1, 1, .null)] (by decide +kernel) rfl ?_
        refine aw_if_ne (off := 10) 46 (by decide) (by decide +kernel) (fun hc => ?_) (fun hc => ?_)
        · have hm := (if_neg hc).symm.trans hm
          refine aw_b (pc' := 47) (lv' := [(0, .ref a), (1, .int i0)]) (st' := [.ref a]) [(46, .aload_n 0, 1, .null)] (by decide +kernel) rfl ?_
          refine aw_gl (v := .ref (a + 5)) a 0 h0 eo_O_0 fgX8_22 rfl (by decide +kernel) ?_
          refine aw_b (pc' := 51) (lv' := [(0, .ref a), (1, .int i0)]) (st' := [.ref a, .ref (a + 5)]) [(50, .aload_n 0, 1, .null)] (by decide +kernel) rfl ?_
          refine aw_gl (v := .ref (a + 1)) a 0 h0 eo_O_0 fgX8_9 rfl (by decide +kernel) ?_
          obtain ⟨r29, e30, hm⟩ := bn_x hm
          refine aw_cs (rest := []) (st1 := []) (kX8_copies e30 (h0.sub su_O_5_IW) (h0.sub su_O_1_IW) (Nat.le_trans hf (Nat.le_add_right _ _)) (by omega)) rfl rfl ckX8_copies lkX8_211 nkX8_copies rfl rfl rfl (Nat.le_of_ble_eq_true rfl) (Nat.zero_le _) (Nat.zero_le _) (by decide +kernel) (fun H31 z32 => ?_)
          obtain ⟨z32, hn⟩ := z32
          obtain ⟨s33, e34, hm⟩ := bd_x hm
          have h0 := h0.mg su_O_1_IW hn z32 rfl e34
          have hs := hs.step z32 (by omega) (by omega)
          refine aw_b (pc' := 58) (lv' := [(0, .ref a), (1, .int i0)]) (st' := [.ref a]) [(57, .aload_n 0, 1, .null)] (by decide +kernel) rfl ?_
          refine aw_gl (v := .ref (a + 1)) a 0 h0 eo_O_0 fgX8_9 rfl (by decide +kernel) ?_
          refine aw_b (pc' := 63) (lv' := [(0, .ref a), (1, .int i0)]) (st' := [.int (16 : Int32), .ref (a + 1)]) [(61, .bipush 16, 2, .int (16 : Int32))] (by decide +kernel) rfl ?_
          obtain ⟨g35, hm⟩ := gd_x hm
          refine aw_ial a 1 h0 rfl g35 (by decide +kernel) ?_
          obtain rfl := Option.some.inj hm
          subst hQ
          exact aw_iret rfl (Nat.zero_le _) (Nat.zero_le _) (by decide +kernel) ⟨rfl, hs, h0⟩
        · have hm := (if_pos hc).symm.trans hm
          refine aw_b (pc' := 40) (lv' := [(0, .ref a), (1, .int i0)]) (st' := [.ref a]) [(39, .aload_n 0, 1, .null)] (by decide +kernel) rfl ?_
          refine aw_gl (v := .ref (a + 4)) a 0 h0 eo_O_0 fgX8_19 rfl (by decide +kernel) ?_
          refine aw_b (pc' := 50) (lv' := [(0, .ref a), (1, .int i0)]) (st' := [.ref (a + 4)]) [(43, .goto 7, 3, .null)] (by decide +kernel) rfl ?_
          refine aw_b (pc' := 51) (lv' := [(0, .ref a), (1, .int i0)]) (st' := [.ref a, .ref (a + 4)]) [(50, .aload_n 0, 1, .null)] (by decide +kernel) rfl ?_
          refine aw_gl (v := .ref (a + 1)) a 0 h0 eo_O_0 fgX8_9 rfl (by decide +kernel) ?_
          obtain ⟨r36, e37, hm⟩ := bn_x hm
          refine aw_cs (rest := []) (st1 := []) (kX8_copies e37 (h0.sub su_O_4_IW) (h0.sub su_O_1_IW) (Nat.le_trans hf (Nat.le_add_right _ _)) (by omega)) rfl rfl ckX8_copies lkX8_211 nkX8_copies rfl rfl rfl (Nat.le_of_ble_eq_true rfl) (Nat.zero_le _) (Nat.zero_le _) (by decide +kernel) (fun H38 z39 => ?_)
          obtain ⟨z39, hn⟩ := z39
          obtain ⟨s40, e41, hm⟩ := bd_x hm
          have h0 := h0.mg su_O_1_IW hn z39 rfl e41
          have hs := hs.step z39 (by omega) (by omega)
          refine aw_b (pc' := 58) (lv' := [(0, .ref a), (1, .int i0)]) (st' := [.ref a]) [(57, .aload_n 0, 1, .null)] (by decide +kernel) rfl ?_
          refine aw_gl (v := .ref (a + 1)) a 0 h0 eo_O_0 fgX8_9 rfl (by decide +kernel) ?_
          refine aw_b (pc' := 63) (lv' := [(0, .ref a), (1, .int i0)]) (st' := [.int (16 : Int32), .ref (a + 1)]) [(61, .bipush 16, 2, .int (16 : Int32))] (by decide +kernel) rfl ?_
          obtain ⟨g42, hm⟩ := gd_x hm
          refine aw_ial a 1 h0 rfl g42 (by decide +kernel) ?_
          obtain rfl := Option.some.inj hm
          subst hQ
          exact aw_iret rfl (Nat.zero_le _) (Nat.zero_le _) (by decide +kernel) ⟨rfl, hs, h0⟩
      · have hm := (if_pos hc).symm.trans hm
        refine aw_b (pc' := 34) (lv' := [(0, .ref a), (1, .int i0)]) (st' := [.int (-1 : Int32)]) [(33, .iconst (-1), 1, .int (-1 : Int32))] (by decide +kernel) rfl ?_
        obtain rfl := Option.some.inj hm
        subst hQ
        exact aw_iret rfl (Nat.zero_le _) (Nat.zero_le _) (by decide +kernel) ⟨rfl, hs, h0⟩
    · have hm := (if_neg hc).symm.trans hm
      refine aw_b (pc' := 23) (lv' := [(0, .ref a), (1, .int i0)]) (st' := [.int (0 : Int32)]) [(22, .iconst 0, 1, .int (0 : Int32))] (by decide +kernel) rfl ?_
      obtain rfl := Option.some.inj hm
      subst hQ
      exact aw_iret rfl (Nat.zero_le _) (Nat.zero_le _) (by decide +kernel) ⟨rfl, hs, h0⟩
