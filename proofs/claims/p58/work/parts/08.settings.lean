/-! mirrors of methods, and that the methods do as they say: printed by wip/whole/gen_parts.py out of the listing -/
def mX5_becomeDefault : mt_ := (yX5_becomeDefault, cX5_becomeDefault, 1, none, [], { frames := 0, locals := 0, cells := 0, slots := 0 })
theorem ckX5_becomeDefault : cokV_ mX5_becomeDefault := ⟨⟨(uw_mem 428 (by decide +kernel) (by decide +kernel)), (uw_mem 31 (by decide +kernel) (by decide +kernel)), by decide +kernel, by decide +kernel⟩, (uw_mem 426 (by decide +kernel) (by decide +kernel)), (uw_mem 427 (by decide +kernel) (by decide +kernel))⟩
theorem nkX5_becomeDefault : nok_ mX5_becomeDefault 0 := by decide +kernel
theorem fpX5_21 : fpk_ RX5 21 5 0 .int := ⟨_, _, _, tyX5, rfl, by decide, (uw_mem 73 (by decide +kernel) (by decide +kernel)), wkX5, tyX5_ok, nmX5, rfl, by decide +kernel⟩
theorem eo_S_0 : eo_ ly_S 0 5 fsX5 := rfl
theorem fsq_5_0 : fsp_ fsX5 0 := ⟨fun _ _ => rfl, fun _ _ _ => rfl⟩
theorem fpX5_25 : fpk_ RX5 25 5 1 .int := ⟨_, _, _, tyX5, rfl, by decide, (uw_mem 78 (by decide +kernel) (by decide +kernel)), wkX5, tyX5_ok, nmX5, rfl, by decide +kernel⟩
theorem fsq_5_1 : fsp_ fsX5 1 := ⟨fun _ _ => rfl, fun _ _ _ => rfl⟩
theorem fpX5_28 : fpk_ RX5 28 5 2 .int := ⟨_, _, _, tyX5, rfl, by decide, (uw_mem 82 (by decide +kernel) (by decide +kernel)), wkX5, tyX5_ok, nmX5, rfl, by decide +kernel⟩
theorem fsq_5_2 : fsp_ fsX5 2 := ⟨fun _ _ => rfl, fun _ _ _ => rfl⟩
theorem fpX5_31 : fpk_ RX5 31 5 3 .int := ⟨_, _, _, tyX5, rfl, by decide, (uw_mem 85 (by decide +kernel) (by decide +kernel)), wkX5, tyX5_ok, nmX5, rfl, by decide +kernel⟩
theorem fsq_5_3 : fsp_ fsX5 3 := ⟨fun _ _ => rfl, fun _ _ _ => rfl⟩
theorem fpX5_34 : fpk_ RX5 34 5 4 .int := ⟨_, _, _, tyX5, rfl, by decide, (uw_mem 89 (by decide +kernel) (by decide +kernel)), wkX5, tyX5_ok, nmX5, rfl, by decide +kernel⟩
theorem fsq_5_4 : fsp_ fsX5 4 := ⟨fun _ _ => rfl, fun _ _ _ => rfl⟩
theorem fpX5_37 : fpk_ RX5 37 5 7 .int := ⟨_, _, _, tyX5, rfl, by decide, (uw_mem 95 (by decide +kernel) (by decide +kernel)), wkX5, tyX5_ok, nmX5, rfl, by decide +kernel⟩
theorem fsq_5_7 : fsp_ fsX5 7 := ⟨fun _ _ => rfl, fun _ _ _ => rfl⟩
theorem fpX5_40 : fpk_ RX5 40 5 8 .int := ⟨_, _, _, tyX5, rfl, by decide, (uw_mem 98 (by decide +kernel) (by decide +kernel)), wkX5, tyX5_ok, nmX5, rfl, by decide +kernel⟩
theorem fsq_5_8 : fsp_ fsX5 8 := ⟨fun _ _ => rfl, fun _ _ _ => rfl⟩
theorem fpX5_43 : fpk_ RX5 43 5 9 .int := ⟨_, _, _, tyX5, rfl, by decide, (uw_mem 101 (by decide +kernel) (by decide +kernel)), wkX5, tyX5_ok, nmX5, rfl, by decide +kernel⟩
theorem fsq_5_9 : fsp_ fsX5 9 := ⟨fun _ _ => rfl, fun _ _ _ => rfl⟩
theorem fpX5_46 : fpk_ RX5 46 5 10 .int := ⟨_, _, _, tyX5, rfl, by decide, (uw_mem 105 (by decide +kernel) (by decide +kernel)), wkX5, tyX5_ok, nmX5, rfl, by decide +kernel⟩
theorem fsq_5_10 : fsp_ fsX5 10 := ⟨fun _ _ => rfl, fun _ _ _ => rfl⟩
theorem fpX5_49 : fpk_ RX5 49 5 11 .int := ⟨_, _, _, tyX5, rfl, by decide, (uw_mem 108 (by decide +kernel) (by decide +kernel)), wkX5, tyX5_ok, nmX5, rfl, by decide +kernel⟩
theorem fsq_5_11 : fsp_ fsX5 11 := ⟨fun _ _ => rfl, fun _ _ _ => rfl⟩
theorem fpX5_52 : fpk_ RX5 52 5 12 .int := ⟨_, _, _, tyX5, rfl, by decide, (uw_mem 112 (by decide +kernel) (by decide +kernel)), wkX5, tyX5_ok, nmX5, rfl, by decide +kernel⟩
theorem fsq_5_12 : fsp_ fsX5 12 := ⟨fun _ _ => rfl, fun _ _ _ => rfl⟩
theorem fpX5_55 : fpk_ RX5 55 5 14 .int := ⟨_, _, _, tyX5, rfl, by decide, (uw_mem 117 (by decide +kernel) (by decide +kernel)), wkX5, tyX5_ok, nmX5, rfl, by decide +kernel⟩
theorem fsq_5_14 : fsp_ fsX5 14 := ⟨fun _ _ => rfl, fun _ _ _ => rfl⟩
theorem fpX5_58 : fpk_ RX5 58 5 15 .int := ⟨_, _, _, tyX5, rfl, by decide, (uw_mem 121 (by decide +kernel) (by decide +kernel)), wkX5, tyX5_ok, nmX5, rfl, by decide +kernel⟩
theorem fsq_5_15 : fsp_ fsX5 15 := ⟨fun _ _ => rfl, fun _ _ _ => rfl⟩
theorem fpX5_61 : fpk_ RX5 61 5 16 .int := ⟨_, _, _, tyX5, rfl, by decide, (uw_mem 124 (by decide +kernel) (by decide +kernel)), wkX5, tyX5_ok, nmX5, rfl, by decide +kernel⟩
theorem fsq_5_16 : fsp_ fsX5 16 := ⟨fun _ _ => rfl, fun _ _ _ => rfl⟩
theorem fpX5_64 : fpk_ RX5 64 5 17 .int := ⟨_, _, _, tyX5, rfl, by decide, (uw_mem 128 (by decide +kernel) (by decide +kernel)), wkX5, tyX5_ok, nmX5, rfl, by decide +kernel⟩
theorem fsq_5_17 : fsp_ fsX5 17 := ⟨fun _ _ => rfl, fun _ _ _ => rfl⟩
theorem fpX5_67 : fpk_ RX5 67 5 18 .int := ⟨_, _, _, tyX5, rfl, by decide, (uw_mem 132 (by decide +kernel) (by decide +kernel)), wkX5, tyX5_ok, nmX5, rfl, by decide +kernel⟩
theorem fsq_5_18 : fsp_ fsX5 18 := ⟨fun _ _ => rfl, fun _ _ _ => rfl⟩
theorem kX5_becomeDefault {E : ev_} {H : Heap} {a : Nat} {s : st_} {r : st_} (hm : fX5_becomeDefault s = some r) (h0 : has_ E H a ly_S s) (hf : ev_fr E a) : sp_ E mX5_becomeDefault [.ref a] H (po1 (.inl (none)) (fun Hn => sm_ H Hn a 4 ∧ has_ E Hn a ly_S r)) := by
  refine sp_of (by decide +kernel) rfl rfl ?_
  generalize hQ : po1 _ _ = Q
  have hs : sm_ H H a 4 := sm_.rfl'
  unfold fX5_becomeDefault at hm
  refine aw_lv (lv' := [(0, .ref a)]) [0] rfl ?_
  refine aw_b (pc' := 3) (lv' := [(0, .ref a)]) (st' := [.int (10 : Int32), .ref a]) [(0, .aload_n 0, 1, .null), (1, .bipush 10, 2, .int (10 : Int32))] (by decide +kernel) rfl ?_
  obtain ⟨s1, e2, hm⟩ := bd_x hm
  refine aw_pl a 0 h0 eo_S_0 fsq_5_0 fpX5_21 hf rfl rfl e2 (by decide +kernel) (fun H3 h0 z4 => ?_)
  have hs := hs.step z4 (by omega) (by omega)
  refine aw_b (pc' := 8) (lv' := [(0, .ref a)]) (st' := [.int (0 : Int32), .ref a]) [(6, .aload_n 0, 1, .null), (7, .iconst 0, 1, .int (0 : Int32))] (by decide +kernel) rfl ?_
  obtain ⟨s5, e6, hm⟩ := bd_x hm
  refine aw_pl a 0 h0 eo_S_0 fsq_5_1 fpX5_25 hf rfl rfl e6 (by decide +kernel) (fun H7 h0 z8 => ?_)
  have hs := hs.step z8 (by omega) (by omega)
  refine aw_b (pc' := 13) (lv' := [(0, .ref a)]) (st' := [.int (0 : Int32), .ref a]) [(11, .aload_n 0, 1, .null), (12, .iconst 0, 1, .int (0 : Int32))] (by decide +kernel) rfl ?_
  obtain ⟨s9, e10, hm⟩ := bd_x hm
  refine aw_pl a 0 h0 eo_S_0 fsq_5_2 fpX5_28 hf rfl rfl e10 (by decide +kernel) (fun H11 h0 z12 => ?_)
  have hs := hs.step z12 (by omega) (by omega)
  refine aw_b (pc' := 18) (lv' := [(0, .ref a)]) (st' := [.int (1 : Int32), .ref a]) [(16, .aload_n 0, 1, .null), (17, .iconst 1, 1, .int (1 : Int32))] (by decide +kernel) rfl ?_
  obtain ⟨s13, e14, hm⟩ := bd_x hm
  refine aw_pl a 0 h0 eo_S_0 fsq_5_3 fpX5_31 hf rfl rfl e14 (by decide +kernel) (fun H15 h0 z16 => ?_)
  have hs := hs.step z16 (by omega) (by omega)
  refine aw_b (pc' := 23) (lv' := [(0, .ref a)]) (st' := [.int (0 : Int32), .ref a]) [(21, .aload_n 0, 1, .null), (22, .iconst 0, 1, .int (0 : Int32))] (by decide +kernel) rfl ?_
  obtain ⟨s17, e18, hm⟩ := bd_x hm
  refine aw_pl a 0 h0 eo_S_0 fsq_5_4 fpX5_34 hf rfl rfl e18 (by decide +kernel) (fun H19 h0 z20 => ?_)
  have hs := hs.step z20 (by omega) (by omega)
  refine aw_b (pc' := 28) (lv' := [(0, .ref a)]) (st' := [.int (2 : Int32), .ref a]) [(26, .aload_n 0, 1, .null), (27, .iconst 2, 1, .int (2 : Int32))] (by decide +kernel) rfl ?_
  obtain ⟨s21, e22, hm⟩ := bd_x hm
  refine aw_pl a 0 h0 eo_S_0 fsq_5_7 fpX5_37 hf rfl rfl e22 (by decide +kernel) (fun H23 h0 z24 => ?_)
  have hs := hs.step z24 (by omega) (by omega)
  refine aw_b (pc' := 33) (lv' := [(0, .ref a)]) (st' := [.int (0 : Int32), .ref a]) [(31, .aload_n 0, 1, .null), (32, .iconst 0, 1, .int (0 : Int32))] (by decide +kernel) rfl ?_
  obtain ⟨s25, e26, hm⟩ := bd_x hm
  refine aw_pl a 0 h0 eo_S_0 fsq_5_8 fpX5_40 hf rfl rfl e26 (by decide +kernel) (fun H27 h0 z28 => ?_)
  have hs := hs.step z28 (by omega) (by omega)
  refine aw_b (pc' := 39) (lv' := [(0, .ref a)]) (st' := [.int (100 : Int32), .ref a]) [(36, .aload_n 0, 1, .null), (37, .bipush 100, 2, .int (100 : Int32))] (by decide +kernel) rfl ?_
  obtain ⟨s29, e30, hm⟩ := bd_x hm
  refine aw_pl a 0 h0 eo_S_0 fsq_5_9 fpX5_43 hf rfl rfl e30 (by decide +kernel) (fun H31 h0 z32 => ?_)
  have hs := hs.step z32 (by omega) (by omega)
  refine aw_b (pc' := 44) (lv' := [(0, .ref a)]) (st' := [.int (1 : Int32), .ref a]) [(42, .aload_n 0, 1, .null), (43, .iconst 1, 1, .int (1 : Int32))] (by decide +kernel) rfl ?_
  obtain ⟨s33, e34, hm⟩ := bd_x hm
  refine aw_pl a 0 h0 eo_S_0 fsq_5_10 fpX5_46 hf rfl rfl e34 (by decide +kernel) (fun H35 h0 z36 => ?_)
  have hs := hs.step z36 (by omega) (by omega)
  refine aw_b (pc' := 49) (lv' := [(0, .ref a)]) (st' := [.int (0 : Int32), .ref a]) [(47, .aload_n 0, 1, .null), (48, .iconst 0, 1, .int (0 : Int32))] (by decide +kernel) rfl ?_
  obtain ⟨s37, e38, hm⟩ := bd_x hm
  refine aw_pl a 0 h0 eo_S_0 fsq_5_11 fpX5_49 hf rfl rfl e38 (by decide +kernel) (fun H39 h0 z40 => ?_)
  have hs := hs.step z40 (by omega) (by omega)
  refine aw_b (pc' := 54) (lv' := [(0, .ref a)]) (st' := [.int (0 : Int32), .ref a]) [(52, .aload_n 0, 1, .null), (53, .iconst 0, 1, .int (0 : Int32))] (by decide +kernel) rfl ?_
  obtain ⟨s41, e42, hm⟩ := bd_x hm
  refine aw_pl a 0 h0 eo_S_0 fsq_5_12 fpX5_52 hf rfl rfl e42 (by decide +kernel) (fun H43 h0 z44 => ?_)
  have hs := hs.step z44 (by omega) (by omega)
  refine aw_b (pc' := 59) (lv' := [(0, .ref a)]) (st' := [.int (-1 : Int32), .ref a]) [(57, .aload_n 0, 1, .null), (58, .iconst (-1), 1, .int (-1 : Int32))] (by decide +kernel) rfl ?_
  obtain ⟨s45, e46, hm⟩ := bd_x hm
  refine aw_pl a 0 h0 eo_S_0 fsq_5_14 fpX5_55 hf rfl rfl e46 (by decide +kernel) (fun H47 h0 z48 => ?_)
  have hs := hs.step z48 (by omega) (by omega)
  refine aw_b (pc' := 64) (lv' := [(0, .ref a)]) (st' := [.int (-1 : Int32), .ref a]) [(62, .aload_n 0, 1, .null), (63, .iconst (-1), 1, .int (-1 : Int32))] (by decide +kernel) rfl ?_
  obtain ⟨s49, e50, hm⟩ := bd_x hm
  refine aw_pl a 0 h0 eo_S_0 fsq_5_15 fpX5_58 hf rfl rfl e50 (by decide +kernel) (fun H51 h0 z52 => ?_)
  have hs := hs.step z52 (by omega) (by omega)
  refine aw_b (pc' := 69) (lv' := [(0, .ref a)]) (st' := [.int (-1 : Int32), .ref a]) [(67, .aload_n 0, 1, .null), (68, .iconst (-1), 1, .int (-1 : Int32))] (by decide +kernel) rfl ?_
  obtain ⟨s53, e54, hm⟩ := bd_x hm
  refine aw_pl a 0 h0 eo_S_0 fsq_5_16 fpX5_61 hf rfl rfl e54 (by decide +kernel) (fun H55 h0 z56 => ?_)
  have hs := hs.step z56 (by omega) (by omega)
  refine aw_b (pc' := 74) (lv' := [(0, .ref a)]) (st' := [.int (-1 : Int32), .ref a]) [(72, .aload_n 0, 1, .null), (73, .iconst (-1), 1, .int (-1 : Int32))] (by decide +kernel) rfl ?_
  obtain ⟨s57, e58, hm⟩ := bd_x hm
  refine aw_pl a 0 h0 eo_S_0 fsq_5_17 fpX5_64 hf rfl rfl e58 (by decide +kernel) (fun H59 h0 z60 => ?_)
  have hs := hs.step z60 (by omega) (by omega)
  refine aw_b (pc' := 79) (lv' := [(0, .ref a)]) (st' := [.int (-1 : Int32), .ref a]) [(77, .aload_n 0, 1, .null), (78, .iconst (-1), 1, .int (-1 : Int32))] (by decide +kernel) rfl ?_
  obtain ⟨s61, e62, hm⟩ := bd_x hm
  refine aw_pl a 0 h0 eo_S_0 fsq_5_18 fpX5_67 hf rfl rfl e62 (by decide +kernel) (fun H63 h0 z64 => ?_)
  have hs := hs.step z64 (by omega) (by omega)
  obtain rfl := Option.some.inj hm
  subst hQ
  exact aw_vret rfl (Nat.zero_le _) (Nat.zero_le _) (by decide +kernel) ⟨rfl, hs, h0⟩
def mX5_putRule : mt_ := (yX5_putRule, cX5_putRule, 3, none, [], { frames := 0, locals := 0, cells := 0, slots := 0 })
theorem ckX5_putRule : cokV_ mX5_putRule := ⟨⟨(uw_mem 436 (by decide +kernel) (by decide +kernel)), (uw_mem 31 (by decide +kernel) (by decide +kernel)), by decide +kernel, by decide +kernel⟩, (uw_mem 434 (by decide +kernel) (by decide +kernel)), (uw_mem 435 (by decide +kernel) (by decide +kernel))⟩
theorem nkX5_putRule : nok_ mX5_putRule 2 := by decide +kernel
theorem fgX5_34 : fok_ RX5 34 5 4 := ⟨_, _, _, rfl, by decide, (uw_mem 89 (by decide +kernel) (by decide +kernel)), wkX5⟩
theorem fgX5_9 : fok_ RX5 9 5 5 := ⟨_, _, _, rfl, by decide, (uw_mem 93 (by decide +kernel) (by decide +kernel)), wkX5⟩
theorem fgX5_15 : fok_ RX5 15 5 6 := ⟨_, _, _, rfl, by decide, (uw_mem 94 (by decide +kernel) (by decide +kernel)), wkX5⟩
theorem kX5_putRule {E : ev_} {H : Heap} {a : Nat} {s : st_} {i0 : Int32} {i1 : Int32} {r : st_} (hm : fX5_putRule s i0 i1 = some r) (h0 : has_ E H a ly_S s) (hf : ev_fr E a) : sp_ E mX5_putRule [.ref a, .int i0, .int i1] H (po1 (.inl (none)) (fun Hn => sm_ H Hn a 4 ∧ has_ E Hn a ly_S r)) := by
  refine sp_of (by decide +kernel) rfl rfl ?_
  generalize hQ : po1 _ _ = Q
  have hs : sm_ H H a 4 := sm_.rfl'
  unfold fX5_putRule at hm
  refine aw_lv (lv' := [(0, .ref a), (1, .int i0), (2, .int i1)]) [0, 1, 2] rfl ?_
  refine aw_b (pc' := 1) (lv' := [(0, .ref a), (1, .int i0), (2, .int i1)]) (st' := [.ref a]) [(0, .aload_n 0, 1, .null)] (by decide +kernel) rfl ?_
  refine aw_gl (v := .int (s 0 4)) a 0 h0 eo_S_0 fgX5_34 rfl (by decide +kernel) ?_
  refine aw_b (pc' := 6) (lv' := [(0, .ref a), (1, .int i0), (2, .int i1)]) (st' := [.int (6 : Int32), .int (s 0 4)]) [(4, .bipush 6, 2, .int (6 : Int32))] (by decide +kernel) rfl ?_
  refine aw_ic_ge (off := 33) 39 (by decide) (by decide +kernel) (fun hc => ?_) (fun hc => ?_)
  · have hm := (if_pos hc).symm.trans hm
    obtain rfl := Option.some.inj hm
    subst hQ
    exact aw_vret rfl (Nat.zero_le _) (Nat.zero_le _) (by decide +kernel) ⟨rfl, hs, h0⟩
  · have hm := (if_neg hc).symm.trans hm
    refine aw_b (pc' := 10) (lv' := [(0, .ref a), (1, .int i0), (2, .int i1)]) (st' := [.ref a]) [(9, .aload_n 0, 1, .null)] (by decide +kernel) rfl ?_
    refine aw_gl (v := .ref (a + 1)) a 0 h0 eo_S_0 fgX5_9 rfl (by decide +kernel) ?_
    refine aw_b (pc' := 14) (lv' := [(0, .ref a), (1, .int i0), (2, .int i1)]) (st' := [.ref a, .ref (a + 1)]) [(13, .aload_n 0, 1, .null)] (by decide +kernel) rfl ?_
    refine aw_gl (v := .int (s 0 4)) a 0 h0 eo_S_0 fgX5_34 rfl (by decide +kernel) ?_
    refine aw_b (pc' := 18) (lv' := [(0, .ref a), (1, .int i0), (2, .int i1)]) (st' := [.int i0, .int (s 0 4), .ref (a + 1)]) [(17, .iload_n 1, 1, .null)] (by decide +kernel) rfl ?_
    obtain ⟨g1, hm⟩ := gd_x hm
    obtain ⟨s2, e3, hm⟩ := bd_x hm
    refine aw_isl a 1 h0 rfl hf g1 e3 (by decide +kernel) (fun H4 h0 z5 => ?_)
    have hs := hs.step z5 (by omega) (by omega)
    refine aw_b (pc' := 20) (lv' := [(0, .ref a), (1, .int i0), (2, .int i1)]) (st' := [.ref a]) [(19, .aload_n 0, 1, .null)] (by decide +kernel) rfl ?_
    refine aw_gl (v := .ref (a + 2)) a 0 h0 eo_S_0 fgX5_15 rfl (by decide +kernel) ?_
    refine aw_b (pc' := 24) (lv' := [(0, .ref a), (1, .int i0), (2, .int i1)]) (st' := [.ref a, .ref (a + 2)]) [(23, .aload_n 0, 1, .null)] (by decide +kernel) rfl ?_
    refine aw_gl (v := .int (s2 0 4)) a 0 h0 eo_S_0 fgX5_34 rfl (by decide +kernel) ?_
    refine aw_b (pc' := 28) (lv' := [(0, .ref a), (1, .int i0), (2, .int i1)]) (st' := [.int i1, .int (s2 0 4), .ref (a + 2)]) [(27, .iload_n 2, 1, .null)] (by decide +kernel) rfl ?_
    obtain ⟨g6, hm⟩ := gd_x hm
    obtain ⟨s7, e8, hm⟩ := bd_x hm
    refine aw_isl a 2 h0 rfl hf g6 e8 (by decide +kernel) (fun H9 h0 z10 => ?_)
    have hs := hs.step z10 (by omega) (by omega)
    refine aw_b (pc' := 31) (lv' := [(0, .ref a), (1, .int i0), (2, .int i1)]) (st' := [.ref a, .ref a]) [(29, .aload_n 0, 1, .null), (30, .dup, 1, .null)] (by decide +kernel) rfl ?_
    refine aw_gl (v := .int (s7 0 4)) a 0 h0 eo_S_0 fgX5_34 rfl (by decide +kernel) ?_
    refine aw_b (pc' := 36) (lv' := [(0, .ref a), (1, .int i0), (2, .int i1)]) (st' := [.int ((s7 0 4) + (1 : Int32)), .ref a]) [(34, .iconst 1, 1, .int (1 : Int32)), (35, .iadd, 1, .null)] (by decide +kernel) rfl ?_
    obtain ⟨s11, e12, hm⟩ := bd_x hm
    refine aw_pl a 0 h0 eo_S_0 fsq_5_4 fpX5_34 hf rfl rfl e12 (by decide +kernel) (fun H13 h0 z14 => ?_)
    have hs := hs.step z14 (by omega) (by omega)
    obtain rfl := Option.some.inj hm
    subst hQ
    exact aw_vret rfl (Nat.zero_le _) (Nat.zero_le _) (by decide +kernel) ⟨rfl, hs, h0⟩
def mX5_completeRules : mt_ := (yX5_completeRules, cX5_completeRules, 1, none, [], { frames := 1, locals := 22, cells := 0, slots := 0 })
theorem ckX5_completeRules : cokV_ mX5_completeRules := ⟨⟨(uw_mem 432 (by decide +kernel) (by decide +kernel)), (uw_mem 31 (by decide +kernel) (by decide +kernel)), by decide +kernel, by decide +kernel⟩, (uw_mem 430 (by decide +kernel) (by decide +kernel)), (uw_mem 431 (by decide +kernel) (by decide +kernel))⟩
theorem nkX5_completeRules : nok_ mX5_completeRules 0 := by decide +kernel
theorem lkX5_70 : Cond.methodLink RX5 70 yX5_putRule ∈ uw_ := (uw_mem 433 (by decide +kernel) (by decide +kernel))
theorem kX5_completeRules {E : ev_} {H : Heap} {a : Nat} {s : st_} {r : st_} (hm : fX5_completeRules s = some r) (h0 : has_ E H a ly_S s) (hf : ev_fr E a) : sp_ E mX5_completeRules [.ref a] H (po1 (.inl (none)) (fun Hn => sm_ H Hn a 4 ∧ has_ E Hn a ly_S r)) := by
  refine sp_of (by decide +kernel) rfl rfl ?_
  generalize hQ : po1 _ _ = Q
  have hs : sm_ H H a 4 := sm_.rfl'
  unfold fX5_completeRules at hm
  refine aw_lv (lv' := [(0, .ref a)]) [0] rfl ?_
  refine aw_b (pc' := 1) (lv' := [(0, .ref a)]) (st' := [.ref a]) [(0, .aload_n 0, 1, .null)] (by decide +kernel) rfl ?_
  refine aw_gl (v := .int (s 0 4)) a 0 h0 eo_S_0 fgX5_34 rfl (by decide +kernel) ?_
  refine aw_if_ne (off := 9) 13 (by decide) (by decide +kernel) (fun hc => ?_) (fun hc => ?_)
  · have hm := (if_neg hc).symm.trans hm
    obtain rfl := Option.some.inj hm
    subst hQ
    exact aw_vret rfl (Nat.zero_le _) (Nat.zero_le _) (by decide +kernel) ⟨rfl, hs, h0⟩
  · have hm := (if_pos hc).symm.trans hm
    refine aw_b (pc' := 10) (lv' := [(0, .ref a)]) (st' := [.int (-1 : Int32), .int (0 : Int32), .ref a]) [(7, .aload_n 0, 1, .null), (8, .iconst 0, 1, .int (0 : Int32)), (9, .iconst (-1), 1, .int (-1 : Int32))] (by decide +kernel) rfl ?_
    obtain ⟨r1, e2, hm⟩ := bn_x hm
    refine aw_cv (rest := []) (st1 := []) a 0 (kX5_putRule e2 h0 hf) rfl rfl ckX5_putRule lkX5_70 h0 eo_S_0 ⟨_, _, rfl⟩ nkX5_putRule rfl rfl rfl (Nat.le_of_ble_eq_true rfl) (Nat.zero_le _) (Nat.zero_le _) (by decide +kernel) (fun H3 z4 => ?_)
    obtain ⟨z4, hn⟩ := z4
    have h0 := hn
    have hs := hs.step z4 (by omega) (by omega)
    obtain rfl := Option.some.inj hm
    subst hQ
    exact aw_vret rfl (Nat.zero_le _) (Nat.zero_le _) (by decide +kernel) ⟨rfl, hs, h0⟩
def mX5_copyFrom : mt_ := (yX5_copyFrom, cX5_copyFrom, 2, none, [], { frames := 1, locals := 48, cells := 0, slots := 0 })
theorem ckX5_copyFrom : cokV_ mX5_copyFrom := ⟨⟨(uw_mem 448 (by decide +kernel) (by decide +kernel)), (uw_mem 31 (by decide +kernel) (by decide +kernel)), by decide +kernel, by decide +kernel⟩, (uw_mem 446 (by decide +kernel) (by decide +kernel)), (uw_mem 447 (by decide +kernel) (by decide +kernel))⟩
theorem nkX5_copyFrom : nok_ mX5_copyFrom 1 := by decide +kernel
theorem fgX5_21 : fok_ RX5 21 5 0 := ⟨_, _, _, rfl, by decide, (uw_mem 73 (by decide +kernel) (by decide +kernel)), wkX5⟩
theorem fgX5_25 : fok_ RX5 25 5 1 := ⟨_, _, _, rfl, by decide, (uw_mem 78 (by decide +kernel) (by decide +kernel)), wkX5⟩
theorem fgX5_28 : fok_ RX5 28 5 2 := ⟨_, _, _, rfl, by decide, (uw_mem 82 (by decide +kernel) (by decide +kernel)), wkX5⟩
theorem fgX5_31 : fok_ RX5 31 5 3 := ⟨_, _, _, rfl, by decide, (uw_mem 85 (by decide +kernel) (by decide +kernel)), wkX5⟩
theorem cpX5_74 : al_ RX5 74 := ⟨(uw_mem 449 (by decide +kernel) (by decide +kernel)), (uw_mem 451 (by decide +kernel) (by decide +kernel)), (uw_mem 450 (by decide +kernel) (by decide +kernel)), (uw_mem 37 (by decide +kernel) (by decide +kernel))⟩
theorem fgX5_37 : fok_ RX5 37 5 7 := ⟨_, _, _, rfl, by decide, (uw_mem 95 (by decide +kernel) (by decide +kernel)), wkX5⟩
theorem fgX5_40 : fok_ RX5 40 5 8 := ⟨_, _, _, rfl, by decide, (uw_mem 98 (by decide +kernel) (by decide +kernel)), wkX5⟩
theorem fgX5_43 : fok_ RX5 43 5 9 := ⟨_, _, _, rfl, by decide, (uw_mem 101 (by decide +kernel) (by decide +kernel)), wkX5⟩
theorem fgX5_46 : fok_ RX5 46 5 10 := ⟨_, _, _, rfl, by decide, (uw_mem 105 (by decide +kernel) (by decide +kernel)), wkX5⟩
theorem fgX5_49 : fok_ RX5 49 5 11 := ⟨_, _, _, rfl, by decide, (uw_mem 108 (by decide +kernel) (by decide +kernel)), wkX5⟩
theorem fgX5_52 : fok_ RX5 52 5 12 := ⟨_, _, _, rfl, by decide, (uw_mem 112 (by decide +kernel) (by decide +kernel)), wkX5⟩
theorem fgX5_18 : fok_ RX5 18 5 13 := ⟨_, _, _, rfl, by decide, (uw_mem 116 (by decide +kernel) (by decide +kernel)), wkX5⟩
theorem fgX5_55 : fok_ RX5 55 5 14 := ⟨_, _, _, rfl, by decide, (uw_mem 117 (by decide +kernel) (by decide +kernel)), wkX5⟩
theorem fgX5_58 : fok_ RX5 58 5 15 := ⟨_, _, _, rfl, by decide, (uw_mem 121 (by decide +kernel) (by decide +kernel)), wkX5⟩
theorem fgX5_61 : fok_ RX5 61 5 16 := ⟨_, _, _, rfl, by decide, (uw_mem 124 (by decide +kernel) (by decide +kernel)), wkX5⟩
theorem fgX5_64 : fok_ RX5 64 5 17 := ⟨_, _, _, rfl, by decide, (uw_mem 128 (by decide +kernel) (by decide +kernel)), wkX5⟩
theorem fgX5_67 : fok_ RX5 67 5 18 := ⟨_, _, _, rfl, by decide, (uw_mem 132 (by decide +kernel) (by decide +kernel)), wkX5⟩
theorem kX5_copyFrom {E : ev_} {H : Heap} {a b : Nat} {s : st_} {t : st_} {r : st_} (hm : fX5_copyFrom s t = some r) (h0 : has_ E H a ly_S s) (h1 : has_ E H b ly_S t) (hf : ev_fr E a) (d1 : a + 4 ≤ b ∨ b + 4 ≤ a) : sp_ E mX5_copyFrom [.ref a, .ref b] H (po1 (.inl (none)) (fun Hn => sm_ H Hn a 4 ∧ has_ E Hn a ly_S r)) := by
  refine sp_of (by decide +kernel) rfl rfl ?_
  generalize hQ : po1 _ _ = Q
  have hs : sm_ H H a 4 := sm_.rfl'
  unfold fX5_copyFrom at hm
  refine aw_lv (lv' := [(0, .ref a), (1, .ref b)]) [0, 1] rfl ?_
  refine aw_b (pc' := 2) (lv' := [(0, .ref a), (1, .ref b)]) (st' := [.ref b, .ref a]) [(0, .aload_n 0, 1, .null), (1, .aload_n 1, 1, .null)] (by decide +kernel) rfl ?_
  refine aw_gl (v := .int (t 0 0)) b 0 h1 eo_S_0 fgX5_21 rfl (by decide +kernel) ?_
  obtain ⟨s1, e2, hm⟩ := bd_x hm
  refine aw_pl a 0 h0 eo_S_0 fsq_5_0 fpX5_21 hf rfl rfl e2 (by decide +kernel) (fun H3 h0 z4 => ?_)
  have h1 := h1.kept (n := 4) z4 rfl (by omega)
  have hs := hs.step z4 (by omega) (by omega)
  refine aw_b (pc' := 10) (lv' := [(0, .ref a), (1, .ref b)]) (st' := [.ref b, .ref a]) [(8, .aload_n 0, 1, .null), (9, .aload_n 1, 1, .null)] (by decide +kernel) rfl ?_
  refine aw_gl (v := .int (t 0 1)) b 0 h1 eo_S_0 fgX5_25 rfl (by decide +kernel) ?_
  obtain ⟨s5, e6, hm⟩ := bd_x hm
  refine aw_pl a 0 h0 eo_S_0 fsq_5_1 fpX5_25 hf rfl rfl e6 (by decide +kernel) (fun H7 h0 z8 => ?_)
  have h1 := h1.kept (n := 4) z8 rfl (by omega)
  have hs := hs.step z8 (by omega) (by omega)
  refine aw_b (pc' := 18) (lv' := [(0, .ref a), (1, .ref b)]) (st' := [.ref b, .ref a]) [(16, .aload_n 0, 1, .null), (17, .aload_n 1, 1, .null)] (by decide +kernel) rfl ?_
  refine aw_gl (v := .int (t 0 2)) b 0 h1 eo_S_0 fgX5_28 rfl (by decide +kernel) ?_
  obtain ⟨s9, e10, hm⟩ := bd_x hm
  refine aw_pl a 0 h0 eo_S_0 fsq_5_2 fpX5_28 hf rfl rfl e10 (by decide +kernel) (fun H11 h0 z12 => ?_)
  have h1 := h1.kept (n := 4) z12 rfl (by omega)
  have hs := hs.step z12 (by omega) (by omega)
  refine aw_b (pc' := 26) (lv' := [(0, .ref a), (1, .ref b)]) (st' := [.ref b, .ref a]) [(24, .aload_n 0, 1, .null), (25, .aload_n 1, 1, .null)] (by decide +kernel) rfl ?_
  refine aw_gl (v := .int (t 0 3)) b 0 h1 eo_S_0 fgX5_31 rfl (by decide +kernel) ?_
  obtain ⟨s13, e14, hm⟩ := bd_x hm
  refine aw_pl a 0 h0 eo_S_0 fsq_5_3 fpX5_31 hf rfl rfl e14 (by decide +kernel) (fun H15 h0 z16 => ?_)
  have h1 := h1.kept (n := 4) z16 rfl (by omega)
  have hs := hs.step z16 (by omega) (by omega)
  refine aw_b (pc' := 34) (lv' := [(0, .ref a), (1, .ref b)]) (st' := [.ref b, .ref a]) [(32, .aload_n 0, 1, .null), (33, .aload_n 1, 1, .null)] (by decide +kernel) rfl ?_
  refine aw_gl (v := .int (t 0 4)) b 0 h1 eo_S_0 fgX5_34 rfl (by decide +kernel) ?_
  obtain ⟨s17, e18, hm⟩ := bd_x hm
  refine aw_pl a 0 h0 eo_S_0 fsq_5_4 fpX5_34 hf rfl rfl e18 (by decide +kernel) (fun H19 h0 z20 => ?_)
  have h1 := h1.kept (n := 4) z20 rfl (by omega)
  have hs := hs.step z20 (by omega) (by omega)
  refine aw_b (pc' := 41) (lv' := [(0, .ref a), (1, .ref b)]) (st' := [.ref b]) [(40, .aload_n 1, 1, .null)] (by decide +kernel) rfl ?_
  refine aw_gl (v := .ref (b + 1)) b 0 h1 eo_S_0 fgX5_9 rfl (by decide +kernel) ?_
  refine aw_b (pc' := 46) (lv' := [(0, .ref a), (1, .ref b)]) (st' := [.ref a, .int (0 : Int32), .ref (b + 1)]) [(44, .iconst 0, 1, .int (0 : Int32)), (45, .aload_n 0, 1, .null)] (by decide +kernel) rfl ?_
  refine aw_gl (v := .ref (a + 1)) a 0 h0 eo_S_0 fgX5_9 rfl (by decide +kernel) ?_
  refine aw_b (pc' := 51) (lv' := [(0, .ref a), (1, .ref b)]) (st' := [.ref a, .int (0 : Int32), .ref (a + 1), .int (0 : Int32), .ref (b + 1)]) [(49, .iconst 0, 1, .int (0 : Int32)), (50, .aload_n 0, 1, .null)] (by decide +kernel) rfl ?_
  refine aw_gl (v := .ref (a + 1)) a 0 h0 eo_S_0 fgX5_9 rfl (by decide +kernel) ?_
  refine aw_all (ci := 0) (N := 6) (v := (6 : Int32)) a 1 h0 rfl (x := fun _ _ c => .inl c) (fun _ _ => rfl) rfl (by decide +kernel) (by decide +kernel) ?_
  obtain ⟨s21, e22, hm⟩ := bd_x hm
  refine aw_cpl (rest := []) b 1 a 1 h0 rfl h1 rfl cpX5_74 hf (by decide) (by decide +kernel) e22 rfl (Nat.le_of_ble_eq_true rfl) (by decide +kernel) (fun H23 h0 z24 => ?_)
  have h1 := h1.kept (n := 4) z24 rfl (by omega)
  have hs := hs.step z24 (by omega) (by omega)
  refine aw_b (pc' := 59) (lv' := [(0, .ref a), (1, .ref b)]) (st' := [.ref b]) [(58, .aload_n 1, 1, .null)] (by decide +kernel) rfl ?_
  refine aw_gl (v := .ref (b + 2)) b 0 h1 eo_S_0 fgX5_15 rfl (by decide +kernel) ?_
  refine aw_b (pc' := 64) (lv' := [(0, .ref a), (1, .ref b)]) (st' := [.ref a, .int (0 : Int32), .ref (b + 2)]) [(62, .iconst 0, 1, .int (0 : Int32)), (63, .aload_n 0, 1, .null)] (by decide +kernel) rfl ?_
  refine aw_gl (v := .ref (a + 2)) a 0 h0 eo_S_0 fgX5_15 rfl (by decide +kernel) ?_
  refine aw_b (pc' := 69) (lv' := [(0, .ref a), (1, .ref b)]) (st' := [.ref a, .int (0 : Int32), .ref (a + 2), .int (0 : Int32), .ref (b + 2)]) [(67, .iconst 0, 1, .int (0 : Int32)), (68, .aload_n 0, 1, .null)] (by decide +kernel) rfl ?_
  refine aw_gl (v := .ref (a + 2)) a 0 h0 eo_S_0 fgX5_15 rfl (by decide +kernel) ?_
  refine aw_all (ci := 0) (N := 6) (v := (6 : Int32)) a 2 h0 rfl (x := fun _ _ c => .inl c) (fun _ _ => rfl) rfl (by decide +kernel) (by decide +kernel) ?_
  obtain ⟨s25, e26, hm⟩ := bd_x hm
  refine aw_cpl (rest := []) b 2 a 2 h0 rfl h1 rfl cpX5_74 hf (by decide) (by decide +kernel) e26 rfl (Nat.le_of_ble_eq_true rfl) (by decide +kernel) (fun H27 h0 z28 => ?_)
  have h1 := h1.kept (n := 4) z28 rfl (by omega)
  have hs := hs.step z28 (by omega) (by omega)
  refine aw_b (pc' := 78) (lv' := [(0, .ref a), (1, .ref b)]) (st' := [.ref b, .ref a]) [(76, .aload_n 0, 1, .null), (77, .aload_n 1, 1, .null)] (by decide +kernel) rfl ?_
  refine aw_gl (v := .int (t 0 7)) b 0 h1 eo_S_0 fgX5_37 rfl (by decide +kernel) ?_
  obtain ⟨s29, e30, hm⟩ := bd_x hm
  refine aw_pl a 0 h0 eo_S_0 fsq_5_7 fpX5_37 hf rfl rfl e30 (by decide +kernel) (fun H31 h0 z32 => ?_)
  have h1 := h1.kept (n := 4) z32 rfl (by omega)
  have hs := hs.step z32 (by omega) (by omega)
  refine aw_b (pc' := 86) (lv' := [(0, .ref a), (1, .ref b)]) (st' := [.ref b, .ref a]) [(84, .aload_n 0, 1, .null), (85, .aload_n 1, 1, .null)] (by decide +kernel) rfl ?_
  refine aw_gl (v := .int (t 0 8)) b 0 h1 eo_S_0 fgX5_40 rfl (by decide +kernel) ?_
  obtain ⟨s33, e34, hm⟩ := bd_x hm
  refine aw_pl a 0 h0 eo_S_0 fsq_5_8 fpX5_40 hf rfl rfl e34 (by decide +kernel) (fun H35 h0 z36 => ?_)
  have h1 := h1.kept (n := 4) z36 rfl (by omega)
  have hs := hs.step z36 (by omega) (by omega)
  refine aw_b (pc' := 94) (lv' := [(0, .ref a), (1, .ref b)]) (st' := [.ref b, .ref a]) [(92, .aload_n 0, 1, .null), (93, .aload_n 1, 1, .null)] (by decide +kernel) rfl ?_
  refine aw_gl (v := .int (t 0 9)) b 0 h1 eo_S_0 fgX5_43 rfl (by decide +kernel) ?_
  obtain ⟨s37, e38, hm⟩ := bd_x hm
  refine aw_pl a 0 h0 eo_S_0 fsq_5_9 fpX5_43 hf rfl rfl e38 (by decide +kernel) (fun H39 h0 z40 => ?_)
  have h1 := h1.kept (n := 4) z40 rfl (by omega)
  have hs := hs.step z40 (by omega) (by omega)
  refine aw_b (pc' := 102) (lv' := [(0, .ref a), (1, .ref b)]) (st' := [.ref b, .ref a]) [(100, .aload_n 0, 1, .null), (101, .aload_n 1, 1, .null)] (by decide +kernel) rfl ?_
  refine aw_gl (v := .int (t 0 10)) b 0 h1 eo_S_0 fgX5_46 rfl (by decide +kernel) ?_
  obtain ⟨s41, e42, hm⟩ := bd_x hm
  refine aw_pl a 0 h0 eo_S_0 fsq_5_10 fpX5_46 hf rfl rfl e42 (by decide +kernel) (fun H43 h0 z44 => ?_)
  have h1 := h1.kept (n := 4) z44 rfl (by omega)
  have hs := hs.step z44 (by omega) (by omega)
  refine aw_b (pc' := 110) (lv' := [(0, .ref a), (1, .ref b)]) (st' := [.ref b, .ref a]) [(108, .aload_n 0, 1, .null), (109, .aload_n 1, 1, .null)] (by decide +kernel) rfl ?_
  refine aw_gl (v := .int (t 0 11)) b 0 h1 eo_S_0 fgX5_49 rfl (by decide +kernel) ?_
  obtain ⟨s45, e46, hm⟩ := bd_x hm
  refine aw_pl a 0 h0 eo_S_0 fsq_5_11 fpX5_49 hf rfl rfl e46 (by decide +kernel) (fun H47 h0 z48 => ?_)
  have h1 := h1.kept (n := 4) z48 rfl (by omega)
  have hs := hs.step z48 (by omega) (by omega)
  refine aw_b (pc' := 118) (lv' := [(0, .ref a), (1, .ref b)]) (st' := [.ref b, .ref a]) [(116, .aload_n 0, 1, .null), (117, .aload_n 1, 1, .null)] (by decide +kernel) rfl ?_
  refine aw_gl (v := .int (t 0 12)) b 0 h1 eo_S_0 fgX5_52 rfl (by decide +kernel) ?_
  obtain ⟨s49, e50, hm⟩ := bd_x hm
  refine aw_pl a 0 h0 eo_S_0 fsq_5_12 fpX5_52 hf rfl rfl e50 (by decide +kernel) (fun H51 h0 z52 => ?_)
  have h1 := h1.kept (n := 4) z52 rfl (by omega)
  have hs := hs.step z52 (by omega) (by omega)
  refine aw_b (pc' := 125) (lv' := [(0, .ref a), (1, .ref b)]) (st' := [.ref b]) [(124, .aload_n 1, 1, .null)] (by decide +kernel) rfl ?_
  refine aw_gl (v := .ref (b + 3)) b 0 h1 eo_S_0 fgX5_18 rfl (by decide +kernel) ?_
  refine aw_b (pc' := 130) (lv' := [(0, .ref a), (1, .ref b)]) (st' := [.ref a, .int (0 : Int32), .ref (b + 3)]) [(128, .iconst 0, 1, .int (0 : Int32)), (129, .aload_n 0, 1, .null)] (by decide +kernel) rfl ?_
  refine aw_gl (v := .ref (a + 3)) a 0 h0 eo_S_0 fgX5_18 rfl (by decide +kernel) ?_
  refine aw_b (pc' := 135) (lv' := [(0, .ref a), (1, .ref b)]) (st' := [.ref a, .int (0 : Int32), .ref (a + 3), .int (0 : Int32), .ref (b + 3)]) [(133, .iconst 0, 1, .int (0 : Int32)), (134, .aload_n 0, 1, .null)] (by decide +kernel) rfl ?_
  refine aw_gl (v := .ref (a + 3)) a 0 h0 eo_S_0 fgX5_18 rfl (by decide +kernel) ?_
  refine aw_all (ci := 0) (N := 16) (v := (16 : Int32)) a 3 h0 rfl (x := fun _ _ c => .inl c) (fun _ _ => rfl) rfl (by decide +kernel) (by decide +kernel) ?_
  obtain ⟨s53, e54, hm⟩ := bd_x hm
  refine aw_cpl (rest := []) b 3 a 3 h0 rfl h1 rfl cpX5_74 hf (by decide) (by decide +kernel) e54 rfl (Nat.le_of_ble_eq_true rfl) (by decide +kernel) (fun H55 h0 z56 => ?_)
  have h1 := h1.kept (n := 4) z56 rfl (by omega)
  have hs := hs.step z56 (by omega) (by omega)
  refine aw_b (pc' := 144) (lv' := [(0, .ref a), (1, .ref b)]) (st' := [.ref b, .ref a]) [(142, .aload_n 0, 1, .null), (143, .aload_n 1, 1, .null)] (by decide +kernel) rfl ?_
  refine aw_gl (v := .int (t 0 14)) b 0 h1 eo_S_0 fgX5_55 rfl (by decide +kernel) ?_
  obtain ⟨s57, e58, hm⟩ := bd_x hm
  refine aw_pl a 0 h0 eo_S_0 fsq_5_14 fpX5_55 hf rfl rfl e58 (by decide +kernel) (fun H59 h0 z60 => ?_)
  have h1 := h1.kept (n := 4) z60 rfl (by omega)
  have hs := hs.step z60 (by omega) (by omega)
  refine aw_b (pc' := 152) (lv' := [(0, .ref a), (1, .ref b)]) (st' := [.ref b, .ref a]) [(150, .aload_n 0, 1, .null), (151, .aload_n 1, 1, .null)] (by decide +kernel) rfl ?_
  refine aw_gl (v := .int (t 0 15)) b 0 h1 eo_S_0 fgX5_58 rfl (by decide +kernel) ?_
  obtain ⟨s61, e62, hm⟩ := bd_x hm
  refine aw_pl a 0 h0 eo_S_0 fsq_5_15 fpX5_58 hf rfl rfl e62 (by decide +kernel) (fun H63 h0 z64 => ?_)
  have h1 := h1.kept (n := 4) z64 rfl (by omega)
  have hs := hs.step z64 (by omega) (by omega)
  refine aw_b (pc' := 160) (lv' := [(0, .ref a), (1, .ref b)]) (st' := [.ref b, .ref a]) [(158, .aload_n 0, 1, .null), (159, .aload_n 1, 1, .null)] (by decide +kernel) rfl ?_
  refine aw_gl (v := .int (t 0 16)) b 0 h1 eo_S_0 fgX5_61 rfl (by decide +kernel) ?_
  obtain ⟨s65, e66, hm⟩ := bd_x hm
  refine aw_pl a 0 h0 eo_S_0 fsq_5_16 fpX5_61 hf rfl rfl e66 (by decide +kernel) (fun H67 h0 z68 => ?_)
  have h1 := h1.kept (n := 4) z68 rfl (by omega)
  have hs := hs.step z68 (by omega) (by omega)
  refine aw_b (pc' := 168) (lv' := [(0, .ref a), (1, .ref b)]) (st' := [.ref b, .ref a]) [(166, .aload_n 0, 1, .null), (167, .aload_n 1, 1, .null)] (by decide +kernel) rfl ?_
  refine aw_gl (v := .int (t 0 17)) b 0 h1 eo_S_0 fgX5_64 rfl (by decide +kernel) ?_
  obtain ⟨s69, e70, hm⟩ := bd_x hm
  refine aw_pl a 0 h0 eo_S_0 fsq_5_17 fpX5_64 hf rfl rfl e70 (by decide +kernel) (fun H71 h0 z72 => ?_)
  have h1 := h1.kept (n := 4) z72 rfl (by omega)
  have hs := hs.step z72 (by omega) (by omega)
  refine aw_b (pc' := 176) (lv' := [(0, .ref a), (1, .ref b)]) (st' := [.ref b, .ref a]) [(174, .aload_n 0, 1, .null), (175, .aload_n 1, 1, .null)] (by decide +kernel) rfl ?_
  refine aw_gl (v := .int (t 0 18)) b 0 h1 eo_S_0 fgX5_67 rfl (by decide +kernel) ?_
  obtain ⟨s73, e74, hm⟩ := bd_x hm
  refine aw_pl a 0 h0 eo_S_0 fsq_5_18 fpX5_67 hf rfl rfl e74 (by decide +kernel) (fun H75 h0 z76 => ?_)
  have h1 := h1.kept (n := 4) z76 rfl (by omega)
  have hs := hs.step z76 (by omega) (by omega)
  obtain rfl := Option.some.inj hm
  subst hQ
  exact aw_vret rfl (Nat.zero_le _) (Nat.zero_le _) (by decide +kernel) ⟨rfl, hs, h0⟩
def mX5_putAsk : mt_ := (yX5_putAsk, cX5_putAsk, 2, none, [], { frames := 0, locals := 0, cells := 0, slots := 0 })
theorem ckX5_putAsk : cokV_ mX5_putAsk := ⟨⟨(uw_mem 698 (by decide +kernel) (by decide +kernel)), (uw_mem 31 (by decide +kernel) (by decide +kernel)), by decide +kernel, by decide +kernel⟩, (uw_mem 696 (by decide +kernel) (by decide +kernel)), (uw_mem 697 (by decide +kernel) (by decide +kernel))⟩
theorem nkX5_putAsk : nok_ mX5_putAsk 1 := by decide +kernel
theorem kX5_putAsk {E : ev_} {H : Heap} {a : Nat} {s : st_} {i0 : Int32} {r : st_} (hm : fX5_putAsk s i0 = some r) (h0 : has_ E H a ly_S s) (hf : ev_fr E a) : sp_ E mX5_putAsk [.ref a, .int i0] H (po1 (.inl (none)) (fun Hn => sm_ H Hn a 4 ∧ has_ E Hn a ly_S r)) := by
  refine sp_of (by decide +kernel) rfl rfl ?_
  generalize hQ : po1 _ _ = Q
  have hs : sm_ H H a 4 := sm_.rfl'
  unfold fX5_putAsk at hm
  refine aw_lv (lv' := [(0, .ref a), (1, .int i0)]) [0, 1] rfl ?_
  refine aw_b (pc' := 1) (lv' := [(0, .ref a), (1, .int i0)]) (st' := [.ref a]) [(0, .aload_n 0, 1, .null)] (by decide +kernel) rfl ?_
  refine aw_gl (v := .int (s 0 12)) a 0 h0 eo_S_0 fgX5_52 rfl (by decide +kernel) ?_
  refine aw_b (pc' := 6) (lv' := [(0, .ref a), (1, .int i0)]) (st' := [.int (16 : Int32), .int (s 0 12)]) [(4, .bipush 16, 2, .int (16 : Int32))] (by decide +kernel) rfl ?_
  refine aw_ic_ge (off := 23) 29 (by decide) (by decide +kernel) (fun hc => ?_) (fun hc => ?_)
  · have hm := (if_pos hc).symm.trans hm
    obtain rfl := Option.some.inj hm
    subst hQ
    exact aw_vret rfl (Nat.zero_le _) (Nat.zero_le _) (by decide +kernel) ⟨rfl, hs, h0⟩
  · have hm := (if_neg hc).symm.trans hm
    refine aw_b (pc' := 10) (lv' := [(0, .ref a), (1, .int i0)]) (st' := [.ref a]) [(9, .aload_n 0, 1, .null)] (by decide +kernel) rfl ?_
    refine aw_gl (v := .ref (a + 3)) a 0 h0 eo_S_0 fgX5_18 rfl (by decide +kernel) ?_
    refine aw_b (pc' := 14) (lv' := [(0, .ref a), (1, .int i0)]) (st' := [.ref a, .ref (a + 3)]) [(13, .aload_n 0, 1, .null)] (by decide +kernel) rfl ?_
    refine aw_gl (v := .int (s 0 12)) a 0 h0 eo_S_0 fgX5_52 rfl (by decide +kernel) ?_
    refine aw_b (pc' := 18) (lv' := [(0, .ref a), (1, .int i0)]) (st' := [.int i0, .int (s 0 12), .ref (a + 3)]) [(17, .iload_n 1, 1, .null)] (by decide +kernel) rfl ?_
    obtain ⟨g1, hm⟩ := gd_x hm
    obtain ⟨s2, e3, hm⟩ := bd_x hm
    refine aw_isl a 3 h0 rfl hf g1 e3 (by decide +kernel) (fun H4 h0 z5 => ?_)
    have hs := hs.step z5 (by omega) (by omega)
    refine aw_b (pc' := 21) (lv' := [(0, .ref a), (1, .int i0)]) (st' := [.ref a, .ref a]) [(19, .aload_n 0, 1, .null), (20, .dup, 1, .null)] (by decide +kernel) rfl ?_
    refine aw_gl (v := .int (s2 0 12)) a 0 h0 eo_S_0 fgX5_52 rfl (by decide +kernel) ?_
    refine aw_b (pc' := 26) (lv' := [(0, .ref a), (1, .int i0)]) (st' := [.int ((s2 0 12) + (1 : Int32)), .ref a]) [(24, .iconst 1, 1, .int (1 : Int32)), (25, .iadd, 1, .null)] (by decide +kernel) rfl ?_
    obtain ⟨s6, e7, hm⟩ := bd_x hm
    refine aw_pl a 0 h0 eo_S_0 fsq_5_12 fpX5_52 hf rfl rfl e7 (by decide +kernel) (fun H8 h0 z9 => ?_)
    have hs := hs.step z9 (by omega) (by omega)
    obtain rfl := Option.some.inj hm
    subst hQ
    exact aw_vret rfl (Nat.zero_le _) (Nat.zero_le _) (by decide +kernel) ⟨rfl, hs, h0⟩
def mX5_takeMaster : mt_ := (yX5_takeMaster, cX5_takeMaster, 3, none, [], { frames := 0, locals := 0, cells := 0, slots := 0 })
theorem ckX5_takeMaster : cokV_ mX5_takeMaster := ⟨⟨(uw_mem 689 (by decide +kernel) (by decide +kernel)), (uw_mem 31 (by decide +kernel) (by decide +kernel)), by decide +kernel, by decide +kernel⟩, (uw_mem 687 (by decide +kernel) (by decide +kernel)), (uw_mem 688 (by decide +kernel) (by decide +kernel))⟩
theorem nkX5_takeMaster : nok_ mX5_takeMaster 2 := by decide +kernel
theorem kX5_takeMaster {E : ev_} {H : Heap} {a : Nat} {s : st_} {i0 : Int32} {i1 : Int32} {r : st_} (hm : fX5_takeMaster s i0 i1 = some r) (h0 : has_ E H a ly_S s) (hf : ev_fr E a) : sp_ E mX5_takeMaster [.ref a, .int i0, .int i1] H (po1 (.inl (none)) (fun Hn => sm_ H Hn a 4 ∧ has_ E Hn a ly_S r)) := by
  refine sp_of (by decide +kernel) rfl rfl ?_
  generalize hQ : po1 _ _ = Q
  have hs : sm_ H H a 4 := sm_.rfl'
  unfold fX5_takeMaster at hm
  refine aw_lv (lv' := [(0, .ref a), (1, .int i0), (2, .int i1)]) [0, 1, 2] rfl ?_
  refine aw_b (pc' := 2) (lv' := [(0, .ref a), (1, .int i0), (2, .int i1)]) (st' := [.int i0, .ref a]) [(0, .aload_n 0, 1, .null), (1, .iload_n 1, 1, .null)] (by decide +kernel) rfl ?_
  obtain ⟨s1, e2, hm⟩ := bd_x hm
  refine aw_pl a 0 h0 eo_S_0 fsq_5_7 fpX5_37 hf rfl rfl e2 (by decide +kernel) (fun H3 h0 z4 => ?_)
  have hs := hs.step z4 (by omega) (by omega)
  refine aw_b (pc' := 8) (lv' := [(0, .ref a), (1, .int i0), (2, .int i1)]) (st' := [.int (2 : Int32), .int i0, .ref a]) [(5, .aload_n 0, 1, .null), (6, .iload_n 1, 1, .null), (7, .iconst 2, 1, .int (2 : Int32))] (by decide +kernel) rfl ?_
  have J16 : ∀ (z1_j16 : Int32) (H_j16 : Heap), has_ E H_j16 a ly_S s1 → sm_ H H_j16 a 4 → fX5_takeMaster_j16 s1 z1_j16 = some r → aw E mX5_takeMaster Q 16 [] [.int z1_j16, .ref a] H_j16 0 0 := by
    intro z1_j16 H_j16 h0 hs hm
    unfold fX5_takeMaster_j16 at hm
    obtain ⟨s5, e6, hm⟩ := bd_x hm
    refine aw_pl a 0 h0 eo_S_0 fsq_5_8 fpX5_40 hf rfl rfl e6 (by decide +kernel) (fun H7 h0 z8 => ?_)
    have hs := hs.step z8 (by omega) (by omega)
    obtain rfl := Option.some.inj hm
    subst hQ
    exact aw_vret rfl (Nat.zero_le _) (Nat.zero_le _) (by decide +kernel) ⟨rfl, hs, h0⟩
  refine aw_ic_ne (off := 7) 15 (by decide) (by decide +kernel) (fun hc => ?_) (fun hc => ?_)
  · have hm := (if_neg hc).symm.trans hm
    refine aw_b (pc' := 16) (lv' := [(0, .ref a), (1, .int i0), (2, .int i1)]) (st' := [.int (-1 : Int32), .ref a]) [(15, .iconst (-1), 1, .int (-1 : Int32))] (by decide +kernel) rfl ?_
    refine aw_lv (lv' := []) [] rfl ?_
    exact J16 (-1 : Int32) H3 h0 hs hm
  · have hm := (if_pos hc).symm.trans hm
    refine aw_b (pc' := 16) (lv' := [(0, .ref a), (1, .int i0), (2, .int i1)]) (st' := [.int i1, .ref a]) [(11, .iload_n 2, 1, .null), (12, .goto 4, 3, .null)] (by decide +kernel) rfl ?_
    refine aw_lv (lv' := []) [] rfl ?_
    exact J16 i1 H3 h0 hs hm
def mX5_hasRival : mt_ := (yX5_hasRival, cX5_hasRival, 1, some .boolean, [], { frames := 0, locals := 0, cells := 0, slots := 0 })
theorem ckX5_hasRival : cokV_ mX5_hasRival := ⟨⟨(uw_mem 1001 (by decide +kernel) (by decide +kernel)), (uw_mem 31 (by decide +kernel) (by decide +kernel)), by decide +kernel, by decide +kernel⟩, (uw_mem 999 (by decide +kernel) (by decide +kernel)), (uw_mem 1000 (by decide +kernel) (by decide +kernel))⟩
theorem nkX5_hasRival : nok_ mX5_hasRival 0 := by decide +kernel
theorem kX5_hasRival {E : ev_} {H : Heap} {a : Nat} {s : st_} {r : Int32} (hm : fX5_hasRival s = some r) (h0 : has_ E H a ly_S s) : sp_ E mX5_hasRival [.ref a] H (po1 (.inl (some (.int r))) (fun Hn => sm_ H Hn 0 0)) := by
  refine sp_of (by decide +kernel) rfl rfl ?_
  generalize hQ : po1 _ _ = Q
  have hs : sm_ H H 0 0 := sm_.rfl'
  unfold fX5_hasRival at hm
  refine aw_lv (lv' := [(0, .ref a)]) [0] rfl ?_
  refine aw_b (pc' := 1) (lv' := [(0, .ref a)]) (st' := [.ref a]) [(0, .aload_n 0, 1, .null)] (by decide +kernel) rfl ?_
  refine aw_gl (v := .int (s 0 14)) a 0 h0 eo_S_0 fgX5_55 rfl (by decide +kernel) ?_
  refine aw_b (pc' := 5) (lv' := [(0, .ref a)]) (st' := [.int (-1 : Int32), .int (s 0 14)]) [(4, .iconst (-1), 1, .int (-1 : Int32))] (by decide +kernel) rfl ?_
  refine aw_ic_eq (off := 7) 12 (by decide) (by decide +kernel) (fun hc => ?_) (fun hc => ?_)
  · have hm := (if_pos hc).symm.trans hm
    refine aw_b (pc' := 13) (lv' := [(0, .ref a)]) (st' := [.int (0 : Int32)]) [(12, .iconst 0, 1, .int (0 : Int32))] (by decide +kernel) rfl ?_
    obtain rfl := Option.some.inj hm
    subst hQ
    exact aw_zret rfl (by decide +kernel) (Nat.zero_le _) (Nat.zero_le _) (by decide +kernel) ⟨rfl, hs⟩
  · have hm := (if_neg hc).symm.trans hm
    refine aw_b (pc' := 13) (lv' := [(0, .ref a)]) (st' := [.int (1 : Int32)]) [(8, .iconst 1, 1, .int (1 : Int32)), (9, .goto 4, 3, .null)] (by decide +kernel) rfl ?_
    obtain rfl := Option.some.inj hm
    subst hQ
    exact aw_zret rfl (by decide +kernel) (Nat.zero_le _) (Nat.zero_le _) (by decide +kernel) ⟨rfl, hs⟩
def mX5_hasRule : mt_ := (yX5_hasRule, cX5_hasRule, 2, some .boolean, [], { frames := 0, locals := 0, cells := 0, slots := 0 })
theorem ckX5_hasRule : cokV_ mX5_hasRule := ⟨⟨(uw_mem 1017 (by decide +kernel) (by decide +kernel)), (uw_mem 31 (by decide +kernel) (by decide +kernel)), by decide +kernel, by decide +kernel⟩, (uw_mem 1015 (by decide +kernel) (by decide +kernel)), (uw_mem 1016 (by decide +kernel) (by decide +kernel))⟩
theorem nkX5_hasRule : nok_ mX5_hasRule 1 := by decide +kernel
theorem kX5_hasRule {E : ev_} {H : Heap} {a : Nat} {s : st_} {i0 : Int32} {r : Int32} (hm : fX5_hasRule s i0 = some r) (h0 : has_ E H a ly_S s) : sp_ E mX5_hasRule [.ref a, .int i0] H (po1 (.inl (some (.int r))) (fun Hn => sm_ H Hn 0 0)) := by
  refine sp_of (by decide +kernel) rfl rfl ?_
  generalize hQ : po1 _ _ = Q
  have hs : sm_ H H 0 0 := sm_.rfl'
  unfold fX5_hasRule at hm
  refine aw_lv (lv' := [(0, .ref a), (1, .int i0)]) [0, 1] rfl ?_
  refine aw_b (pc' := 1) (lv' := [(0, .ref a), (1, .int i0)]) (st' := [.int i0]) [(0, .iload_n 1, 1, .null)] (by decide +kernel) rfl ?_
  have J16 : ∀ (H_j16 : Heap), has_ E H_j16 a ly_S s → sm_ H H_j16 0 0 → fX5_hasRule_j16 = some r → aw E mX5_hasRule Q 16 [] [] H_j16 0 0 := by
    intro H_j16 h0 hs hm
    unfold fX5_hasRule_j16 at hm
    refine aw_b (pc' := 17) (lv' := []) (st' := [.int (0 : Int32)]) [(16, .iconst 0, 1, .int (0 : Int32))] (by decide +kernel) rfl ?_
    obtain rfl := Option.some.inj hm
    subst hQ
    exact aw_zret rfl (by decide +kernel) (Nat.zero_le _) (Nat.zero_le _) (by decide +kernel) ⟨rfl, hs⟩
  refine aw_if_lt (off := 15) 16 (by decide) (by decide +kernel) (fun hc => ?_) (fun hc => ?_)
  · have hm := (if_pos hc).symm.trans hm
    refine aw_lv (lv' := []) [] rfl ?_
    exact J16 H h0 hs hm
  · have hm := (if_neg hc).symm.trans hm
    refine aw_b (pc' := 6) (lv' := [(0, .ref a), (1, .int i0)]) (st' := [.ref a, .int i0]) [(4, .iload_n 1, 1, .null), (5, .aload_n 0, 1, .null)] (by decide +kernel) rfl ?_
    refine aw_gl (v := .int (s 0 4)) a 0 h0 eo_S_0 fgX5_34 rfl (by decide +kernel) ?_
    refine aw_ic_ge (off := 7) 16 (by decide) (by decide +kernel) (fun hc => ?_) (fun hc => ?_)
    · have hm := (if_pos hc).symm.trans hm
      refine aw_lv (lv' := []) [] rfl ?_
      exact J16 H h0 hs hm
    · have hm := (if_neg hc).symm.trans hm
      refine aw_b (pc' := 17) (lv' := [(0, .ref a), (1, .int i0)]) (st' := [.int (1 : Int32)]) [(12, .iconst 1, 1, .int (1 : Int32)), (13, .goto 4, 3, .null)] (by decide +kernel) rfl ?_
      obtain rfl := Option.some.inj hm
      subst hQ
      exact aw_zret rfl (by decide +kernel) (Nat.zero_le _) (Nat.zero_le _) (by decide +kernel) ⟨rfl, hs⟩
def mX5_kindOf : mt_ := (yX5_kindOf, cX5_kindOf, 2, some .int, [], { frames := 1, locals := 21, cells := 0, slots := 0 })
theorem ckX5_kindOf : cokV_ mX5_kindOf := ⟨⟨(uw_mem 1115 (by decide +kernel) (by decide +kernel)), (uw_mem 31 (by decide +kernel) (by decide +kernel)), by decide +kernel, by decide +kernel⟩, (uw_mem 1113 (by decide +kernel) (by decide +kernel)), (uw_mem 1114 (by decide +kernel) (by decide +kernel))⟩
theorem nkX5_kindOf : nok_ mX5_kindOf 1 := by decide +kernel
theorem lkX5_80 : Cond.methodLink RX5 80 yX5_hasRule ∈ uw_ := (uw_mem 1116 (by decide +kernel) (by decide +kernel))
theorem kX5_kindOf {E : ev_} {H : Heap} {a : Nat} {s : st_} {i0 : Int32} {r : Int32} (hm : fX5_kindOf s i0 = some r) (h0 : has_ E H a ly_S s) : sp_ E mX5_kindOf [.ref a, .int i0] H (po1 (.inl (some (.int r))) (fun Hn => sm_ H Hn 0 0)) := by
  refine sp_of (by decide +kernel) rfl rfl ?_
  generalize hQ : po1 _ _ = Q
  have hs : sm_ H H 0 0 := sm_.rfl'
  unfold fX5_kindOf at hm
  refine aw_lv (lv' := [(0, .ref a), (1, .int i0)]) [0, 1] rfl ?_
  refine aw_b (pc' := 2) (lv' := [(0, .ref a), (1, .int i0)]) (st' := [.int i0, .ref a]) [(0, .aload_n 0, 1, .null), (1, .iload_n 1, 1, .null)] (by decide +kernel) rfl ?_
  obtain ⟨r1, e2, hm⟩ := bn_x hm
  refine aw_cv (rest := []) (st1 := [.int r1]) a 0 (kX5_hasRule e2 h0) rfl rfl ckX5_hasRule lkX5_80 h0 eo_S_0 ⟨_, _, rfl⟩ nkX5_hasRule rfl rfl rfl (Nat.le_of_ble_eq_true rfl) (Nat.zero_le _) (Nat.zero_le _) (by decide +kernel) (fun H3 z4 => ?_)
  have h0 := h0.kept0 z4
  have hs := hs.step0 z4
  refine aw_if_eq (off := 12) 17 (by decide) (by decide +kernel) (fun hc => ?_) (fun hc => ?_)
  · have hm := (if_pos hc).symm.trans hm
    refine aw_b (pc' := 18) (lv' := [(0, .ref a), (1, .int i0)]) (st' := [.int (0 : Int32)]) [(17, .iconst 0, 1, .int (0 : Int32))] (by decide +kernel) rfl ?_
    obtain rfl := Option.some.inj hm
    subst hQ
    exact aw_iret rfl (Nat.zero_le _) (Nat.zero_le _) (by decide +kernel) ⟨rfl, hs⟩
  · have hm := (if_neg hc).symm.trans hm
    refine aw_b (pc' := 9) (lv' := [(0, .ref a), (1, .int i0)]) (st' := [.ref a]) [(8, .aload_n 0, 1, .null)] (by decide +kernel) rfl ?_
    refine aw_gl (v := .ref (a + 1)) a 0 h0 eo_S_0 fgX5_9 rfl (by decide +kernel) ?_
    refine aw_b (pc' := 13) (lv' := [(0, .ref a), (1, .int i0)]) (st' := [.int i0, .ref (a + 1)]) [(12, .iload_n 1, 1, .null)] (by decide +kernel) rfl ?_
    obtain ⟨g5, hm⟩ := gd_x hm
    refine aw_ial a 1 h0 rfl g5 (by decide +kernel) ?_
    refine aw_b (pc' := 18) (lv' := [(0, .ref a), (1, .int i0)]) (st' := [.int (s 1 (ix_ i0))]) [(14, .goto 4, 3, .null)] (by decide +kernel) rfl ?_
    obtain rfl := Option.some.inj hm
    subst hQ
    exact aw_iret rfl (Nat.zero_le _) (Nat.zero_le _) (by decide +kernel) ⟨rfl, hs⟩
def mX5_widthOf : mt_ := (yX5_widthOf, cX5_widthOf, 2, some .int, [], { frames := 1, locals := 21, cells := 0, slots := 0 })
theorem ckX5_widthOf : cokV_ mX5_widthOf := ⟨⟨(uw_mem 1120 (by decide +kernel) (by decide +kernel)), (uw_mem 31 (by decide +kernel) (by decide +kernel)), by decide +kernel, by decide +kernel⟩, (uw_mem 1118 (by decide +kernel) (by decide +kernel)), (uw_mem 1119 (by decide +kernel) (by decide +kernel))⟩
theorem nkX5_widthOf : nok_ mX5_widthOf 1 := by decide +kernel
theorem kX5_widthOf {E : ev_} {H : Heap} {a : Nat} {s : st_} {i0 : Int32} {r : Int32} (hm : fX5_widthOf s i0 = some r) (h0 : has_ E H a ly_S s) : sp_ E mX5_widthOf [.ref a, .int i0] H (po1 (.inl (some (.int r))) (fun Hn => sm_ H Hn 0 0)) := by
  refine sp_of (by decide +kernel) rfl rfl ?_
  generalize hQ : po1 _ _ = Q
  have hs : sm_ H H 0 0 := sm_.rfl'
  unfold fX5_widthOf at hm
  refine aw_lv (lv' := [(0, .ref a), (1, .int i0)]) [0, 1] rfl ?_
  refine aw_b (pc' := 2) (lv' := [(0, .ref a), (1, .int i0)]) (st' := [.int i0, .ref a]) [(0, .aload_n 0, 1, .null), (1, .iload_n 1, 1, .null)] (by decide +kernel) rfl ?_
  obtain ⟨r1, e2, hm⟩ := bn_x hm
  refine aw_cv (rest := []) (st1 := [.int r1]) a 0 (kX5_hasRule e2 h0) rfl rfl ckX5_hasRule lkX5_80 h0 eo_S_0 ⟨_, _, rfl⟩ nkX5_hasRule rfl rfl rfl (Nat.le_of_ble_eq_true rfl) (Nat.zero_le _) (Nat.zero_le _) (by decide +kernel) (fun H3 z4 => ?_)
  have h0 := h0.kept0 z4
  have hs := hs.step0 z4
  refine aw_if_eq (off := 12) 17 (by decide) (by decide +kernel) (fun hc => ?_) (fun hc => ?_)
  · have hm := (if_pos hc).symm.trans hm
    refine aw_b (pc' := 18) (lv' := [(0, .ref a), (1, .int i0)]) (st' := [.int (-1 : Int32)]) [(17, .iconst (-1), 1, .int (-1 : Int32))] (by decide +kernel) rfl ?_
    obtain rfl := Option.some.inj hm
    subst hQ
    exact aw_iret rfl (Nat.zero_le _) (Nat.zero_le _) (by decide +kernel) ⟨rfl, hs⟩
  · have hm := (if_neg hc).symm.trans hm
    refine aw_b (pc' := 9) (lv' := [(0, .ref a), (1, .int i0)]) (st' := [.ref a]) [(8, .aload_n 0, 1, .null)] (by decide +kernel) rfl ?_
    refine aw_gl (v := .ref (a + 2)) a 0 h0 eo_S_0 fgX5_15 rfl (by decide +kernel) ?_
    refine aw_b (pc' := 13) (lv' := [(0, .ref a), (1, .int i0)]) (st' := [.int i0, .ref (a + 2)]) [(12, .iload_n 1, 1, .null)] (by decide +kernel) rfl ?_
    obtain ⟨g5, hm⟩ := gd_x hm
    refine aw_ial a 2 h0 rfl g5 (by decide +kernel) ?_
    refine aw_b (pc' := 18) (lv' := [(0, .ref a), (1, .int i0)]) (st' := [.int (s 2 (ix_ i0))]) [(14, .goto 4, 3, .null)] (by decide +kernel) rfl ?_
    obtain rfl := Option.some.inj hm
    subst hQ
    exact aw_iret rfl (Nat.zero_le _) (Nat.zero_le _) (by decide +kernel) ⟨rfl, hs⟩
def mX5_askAt : mt_ := (yX5_askAt, cX5_askAt, 2, some .int, [], { frames := 0, locals := 0, cells := 0, slots := 0 })
theorem ckX5_askAt : cokV_ mX5_askAt := ⟨⟨(uw_mem 1078 (by decide +kernel) (by decide +kernel)), (uw_mem 31 (by decide +kernel) (by decide +kernel)), by decide +kernel, by decide +kernel⟩, (uw_mem 1076 (by decide +kernel) (by decide +kernel)), (uw_mem 1077 (by decide +kernel) (by decide +kernel))⟩
theorem nkX5_askAt : nok_ mX5_askAt 1 := by decide +kernel
theorem kX5_askAt {E : ev_} {H : Heap} {a : Nat} {s : st_} {i0 : Int32} {r : Int32} (hm : fX5_askAt s i0 = some r) (h0 : has_ E H a ly_S s) : sp_ E mX5_askAt [.ref a, .int i0] H (po1 (.inl (some (.int r))) (fun Hn => sm_ H Hn 0 0)) := by
  refine sp_of (by decide +kernel) rfl rfl ?_
  generalize hQ : po1 _ _ = Q
  have hs : sm_ H H 0 0 := sm_.rfl'
  unfold fX5_askAt at hm
  refine aw_lv (lv' := [(0, .ref a), (1, .int i0)]) [0, 1] rfl ?_
  refine aw_b (pc' := 1) (lv' := [(0, .ref a), (1, .int i0)]) (st' := [.int i0]) [(0, .iload_n 1, 1, .null)] (by decide +kernel) rfl ?_
  have J21 : ∀ (H_j21 : Heap), has_ E H_j21 a ly_S s → sm_ H H_j21 0 0 → fX5_askAt_j21 = some r → aw E mX5_askAt Q 21 [] [] H_j21 0 0 := by
    intro H_j21 h0 hs hm
    unfold fX5_askAt_j21 at hm
    refine aw_b (pc' := 22) (lv' := []) (st' := [.int (-1 : Int32)]) [(21, .iconst (-1), 1, .int (-1 : Int32))] (by decide +kernel) rfl ?_
    obtain rfl := Option.some.inj hm
    subst hQ
    exact aw_iret rfl (Nat.zero_le _) (Nat.zero_le _) (by decide +kernel) ⟨rfl, hs⟩
  refine aw_if_lt (off := 20) 21 (by decide) (by decide +kernel) (fun hc => ?_) (fun hc => ?_)
  · have hm := (if_pos hc).symm.trans hm
    refine aw_lv (lv' := []) [] rfl ?_
    exact J21 H h0 hs hm
  · have hm := (if_neg hc).symm.trans hm
    refine aw_b (pc' := 6) (lv' := [(0, .ref a), (1, .int i0)]) (st' := [.ref a, .int i0]) [(4, .iload_n 1, 1, .null), (5, .aload_n 0, 1, .null)] (by decide +kernel) rfl ?_
    refine aw_gl (v := .int (s 0 12)) a 0 h0 eo_S_0 fgX5_52 rfl (by decide +kernel) ?_
    refine aw_ic_ge (off := 12) 21 (by decide) (by decide +kernel) (fun hc => ?_) (fun hc => ?_)
    · have hm := (if_pos hc).symm.trans hm
      refine aw_lv (lv' := []) [] rfl ?_
      exact J21 H h0 hs hm
    · have hm := (if_neg hc).symm.trans hm
      refine aw_b (pc' := 13) (lv' := [(0, .ref a), (1, .int i0)]) (st' := [.ref a]) [(12, .aload_n 0, 1, .null)] (by decide +kernel) rfl ?_
      refine aw_gl (v := .ref (a + 3)) a 0 h0 eo_S_0 fgX5_18 rfl (by decide +kernel) ?_
      refine aw_b (pc' := 17) (lv' := [(0, .ref a), (1, .int i0)]) (st' := [.int i0, .ref (a + 3)]) [(16, .iload_n 1, 1, .null)] (by decide +kernel) rfl ?_
      obtain ⟨g1, hm⟩ := gd_x hm
      refine aw_ial a 3 h0 rfl g1 (by decide +kernel) ?_
      refine aw_b (pc' := 22) (lv' := [(0, .ref a), (1, .int i0)]) (st' := [.int (s 3 (ix_ i0))]) [(18, .goto 4, 3, .null)] (by decide +kernel) rfl ?_
      obtain rfl := Option.some.inj hm
      subst hQ
      exact aw_iret rfl (Nat.zero_le _) (Nat.zero_le _) (by decide +kernel) ⟨rfl, hs⟩
def mX5_priceOf : mt_ := (yX5_priceOf, cX5_priceOf, 3, some .int, [], { frames := 0, locals := 0, cells := 0, slots := 0 })
theorem ckX5_priceOf : cokV_ mX5_priceOf := ⟨⟨(uw_mem 1132 (by decide +kernel) (by decide +kernel)), (uw_mem 31 (by decide +kernel) (by decide +kernel)), by decide +kernel, by decide +kernel⟩, (uw_mem 1130 (by decide +kernel) (by decide +kernel)), (uw_mem 1131 (by decide +kernel) (by decide +kernel))⟩
theorem nkX5_priceOf : nok_ mX5_priceOf 2 := by decide +kernel
theorem kX5_priceOf {E : ev_} {H : Heap} {a : Nat} {s : st_} {i0 : Int32} {i1 : Int32} {r : Int32} (hm : fX5_priceOf s i0 i1 = some r) (h0 : has_ E H a ly_S s) : sp_ E mX5_priceOf [.ref a, .int i0, .int i1] H (po1 (.inl (some (.int r))) (fun Hn => sm_ H Hn 0 0)) := by
  refine sp_of (by decide +kernel) rfl rfl ?_
  generalize hQ : po1 _ _ = Q
  have hs : sm_ H H 0 0 := sm_.rfl'
  unfold fX5_priceOf at hm
  refine aw_lv (lv' := [(0, .ref a), (1, .int i0), (2, .int i1)]) [0, 1, 2] rfl ?_
  refine aw_b (pc' := 2) (lv' := [(0, .ref a), (1, .int i0), (2, .int i1)]) (st' := [.int i1, .int i0]) [(0, .iload_n 1, 1, .null), (1, .iload_n 2, 1, .null)] (by decide +kernel) rfl ?_
  refine aw_ic_ne (off := 7) 9 (by decide) (by decide +kernel) (fun hc => ?_) (fun hc => ?_)
  · have hm := (if_neg hc).symm.trans hm
    refine aw_b (pc' := 10) (lv' := [(0, .ref a), (1, .int i0), (2, .int i1)]) (st' := [.ref a]) [(9, .aload_n 0, 1, .null)] (by decide +kernel) rfl ?_
    refine aw_gl (v := .int (s 0 2)) a 0 h0 eo_S_0 fgX5_28 rfl (by decide +kernel) ?_
    refine aw_b (pc' := 14) (lv' := [(0, .ref a), (1, .int i0), (2, .int i1)]) (st' := [.ref a, .int (s 0 2)]) [(13, .aload_n 0, 1, .null)] (by decide +kernel) rfl ?_
    refine aw_gl (v := .int (s 0 3)) a 0 h0 eo_S_0 fgX5_31 rfl (by decide +kernel) ?_
    refine aw_b (pc' := 19) (lv' := [(0, .ref a), (1, .int i0), (2, .int i1)]) (st' := [.int i1, .int i0, .int (s 0 3), .int (s 0 2)]) [(17, .iload_n 1, 1, .null), (18, .iload_n 2, 1, .null)] (by decide +kernel) rfl ?_
    have J31 : ∀ (z2_j31 : Int32) (H_j31 : Heap), has_ E H_j31 a ly_S s → sm_ H H_j31 0 0 → fX5_priceOf_j31 s z2_j31 = some r → aw E mX5_priceOf Q 31 [] [.int z2_j31, .int (s 0 3), .int (s 0 2)] H_j31 0 0 := by
      intro z2_j31 H_j31 h0 hs hm
      unfold fX5_priceOf_j31 at hm
      refine aw_b (pc' := 33) (lv' := []) (st' := [.int ((s 0 2) + ((s 0 3) * z2_j31))]) [(31, .imul, 1, .null), (32, .iadd, 1, .null)] (by decide +kernel) rfl ?_
      obtain rfl := Option.some.inj hm
      subst hQ
      exact aw_iret rfl (Nat.zero_le _) (Nat.zero_le _) (by decide +kernel) ⟨rfl, hs⟩
    refine aw_ic_ge (off := 9) 28 (by decide) (by decide +kernel) (fun hc => ?_) (fun hc => ?_)
    · have hm := (if_pos hc).symm.trans hm
      refine aw_b (pc' := 31) (lv' := [(0, .ref a), (1, .int i0), (2, .int i1)]) (st' := [.int (i0 - i1), .int (s 0 3), .int (s 0 2)]) [(28, .iload_n 1, 1, .null), (29, .iload_n 2, 1, .null), (30, .isub, 1, .null)] (by decide +kernel) rfl ?_
      refine aw_lv (lv' := []) [] rfl ?_
      exact J31 (i0 - i1) H h0 hs hm
    · have hm := (if_neg hc).symm.trans hm
      refine aw_b (pc' := 31) (lv' := [(0, .ref a), (1, .int i0), (2, .int i1)]) (st' := [.int (i1 - i0), .int (s 0 3), .int (s 0 2)]) [(22, .iload_n 2, 1, .null), (23, .iload_n 1, 1, .null), (24, .isub, 1, .null), (25, .goto 6, 3, .null)] (by decide +kernel) rfl ?_
      refine aw_lv (lv' := []) [] rfl ?_
      exact J31 (i1 - i0) H h0 hs hm
  · have hm := (if_pos hc).symm.trans hm
    refine aw_b (pc' := 33) (lv' := [(0, .ref a), (1, .int i0), (2, .int i1)]) (st' := [.int (0 : Int32)]) [(5, .iconst 0, 1, .int (0 : Int32)), (6, .goto 27, 3, .null)] (by decide +kernel) rfl ?_
    obtain rfl := Option.some.inj hm
    subst hQ
    exact aw_iret rfl (Nat.zero_le _) (Nat.zero_le _) (by decide +kernel) ⟨rfl, hs⟩
def mX5_boundBehind : mt_ := (yX5_boundBehind, cX5_boundBehind, 3, some .int, [], { frames := 0, locals := 0, cells := 0, slots := 0 })
theorem ckX5_boundBehind : cokV_ mX5_boundBehind := ⟨⟨(uw_mem 1197 (by decide +kernel) (by decide +kernel)), (uw_mem 31 (by decide +kernel) (by decide +kernel)), by decide +kernel, by decide +kernel⟩, (uw_mem 1195 (by decide +kernel) (by decide +kernel)), (uw_mem 1196 (by decide +kernel) (by decide +kernel))⟩
theorem nkX5_boundBehind : nok_ mX5_boundBehind 1 := by decide +kernel
theorem kwX5_84 : Cond.constant RX5 84 (-2000000000 : Int32) ∈ uw_ := (uw_mem 1198 (by decide +kernel) (by decide +kernel))
theorem kX5_boundBehind {E : ev_} {H : Heap} {a : Nat} {s : st_} {i0 : Int32} {r : Int32} (hm : fX5_boundBehind s i0 = some r) (h0 : has_ E H a ly_S s) : sp_ E mX5_boundBehind [.ref a, .int i0] H (po1 (.inl (some (.int r))) (fun Hn => sm_ H Hn 0 0)) := by
  refine sp_of (by decide +kernel) rfl rfl ?_
  generalize hQ : po1 _ _ = Q
  have hs : sm_ H H 0 0 := sm_.rfl'
  unfold fX5_boundBehind at hm
  refine aw_lv (lv' := [(0, .ref a), (1, .int i0)]) [0, 1] rfl ?_
  refine aw_b (pc' := 1) (lv' := [(0, .ref a), (1, .int i0)]) (st' := [.ref a]) [(0, .aload_n 0, 1, .null)] (by decide +kernel) rfl ?_
  refine aw_gl (v := .int (s 0 17)) a 0 h0 eo_S_0 fgX5_64 rfl (by decide +kernel) ?_
  refine aw_b (pc' := 5) (lv' := [(0, .ref a), (1, .int i0)]) (st' := [.int (-1 : Int32), .int (s 0 17)]) [(4, .iconst (-1), 1, .int (-1 : Int32))] (by decide +kernel) rfl ?_
  refine aw_ic_ne (off := 6) 11 (by decide) (by decide +kernel) (fun hc => ?_) (fun hc => ?_)
  · have hm := (if_neg hc).symm.trans hm
    refine aw_b (pc' := 13) (lv' := [(2, .int (0 : Int32)), (0, .ref a), (1, .int i0)]) (st' := []) [(11, .iconst 0, 1, .int (0 : Int32)), (12, .istore_n 2, 1, .null)] (by decide +kernel) rfl ?_
    obtain ⟨x13, hx13, hr13⟩ := bn_x hm
    have X13_37 : ∀ (v2_x13_37 : Int32) (H_x13_37 : Heap), has_ E H_x13_37 a ly_S s → sm_ H H_x13_37 0 0 → fX5_boundBehind_x13_37 s v2_x13_37 = some r → aw E mX5_boundBehind Q 37 [(0, .ref a), (2, .int v2_x13_37)] [] H_x13_37 0 0 := by
      intro v2_x13_37 H_x13_37 h0 hs hm
      unfold fX5_boundBehind_x13_37 at hm
      refine aw_b (pc' := 38) (lv' := [(0, .ref a), (2, .int v2_x13_37)]) (st' := [.ref a]) [(37, .aload_n 0, 1, .null)] (by decide +kernel) rfl ?_
      refine aw_gl (v := .int (s 0 17)) a 0 h0 eo_S_0 fgX5_64 rfl (by decide +kernel) ?_
      refine aw_b (pc' := 42) (lv' := [(0, .ref a), (2, .int v2_x13_37)]) (st' := [.ref a, .int (s 0 17)]) [(41, .aload_n 0, 1, .null)] (by decide +kernel) rfl ?_
      refine aw_gl (v := .int (s 0 18)) a 0 h0 eo_S_0 fgX5_67 rfl (by decide +kernel) ?_
      refine aw_b (pc' := 48) (lv' := [(0, .ref a), (2, .int v2_x13_37)]) (st' := [.int ((s 0 17) + ((s 0 18) * v2_x13_37))]) [(45, .iload_n 2, 1, .null), (46, .imul, 1, .null), (47, .iadd, 1, .null)] (by decide +kernel) rfl ?_
      obtain rfl := Option.some.inj hm
      subst hQ
      exact aw_iret rfl (Nat.zero_le _) (Nat.zero_le _) (by decide +kernel) ⟨rfl, hs⟩
    have L13 : ∀ (fu : Nat) (v2_b13 : Int32) (H_b13 : Heap), has_ E H_b13 a ly_S s → sm_ H H_b13 0 0 → fX5_boundBehind_l13 i0 fu v2_b13 = some x13 → aw E mX5_boundBehind Q 13 [(0, .ref a), (1, .int i0), (2, .int v2_b13)] [] H_b13 0 0 := by
      intro fu
      induction fu with
      | zero =>
        intro v2_b13 H_b13 h0 hs hm
        exact (it_0 hm).elim
      | succ fu ih13 =>
        intro v2_b13 H_b13 h0 hs hm
        obtain ⟨y13, hm, hk13⟩ := it_s hm
        have hm : fX5_boundBehind_b13 i0 v2_b13 = some y13 := hm
        unfold fX5_boundBehind_b13 at hm
        refine aw_b (pc' := 17) (lv' := [(0, .ref a), (1, .int i0), (2, .int v2_b13)]) (st' := [.int (1000 : Int32), .int v2_b13]) [(13, .iload_n 2, 1, .null), (14, .sipush 1000, 3, .int (1000 : Int32))] (by decide +kernel) rfl ?_
        refine aw_ic_ge (off := 20) 37 (by decide) (by decide +kernel) (fun hc => ?_) (fun hc => ?_)
        · have hm := (if_pos hc).symm.trans hm
          cases hm
          refine aw_lv (lv' := [(0, .ref a), (2, .int v2_b13)]) [0, 2] rfl ?_
          exact X13_37 v2_b13 H_b13 h0 hs ((congrArg (fX5_boundBehind_k13 s) (show (v2_b13) = x13 from hk13)).trans hr13)
        · have hm := (if_neg hc).symm.trans hm
          refine aw_b (pc' := 28) (lv' := [(0, .ref a), (1, .int i0), (2, .int v2_b13)]) (st' := [.int i0, .int ((v2_b13 + (1 : Int32)) * (v2_b13 + (1 : Int32)))]) [(20, .iload_n 2, 1, .null), (21, .iconst 1, 1, .int (1 : Int32)), (22, .iadd, 1, .null), (23, .iload_n 2, 1, .null), (24, .iconst 1, 1, .int (1 : Int32)), (25, .iadd, 1, .null), (26, .imul, 1, .null), (27, .iload_n 1, 1, .null)] (by decide +kernel) rfl ?_
          refine aw_ic_gt (off := 9) 37 (by decide) (by decide +kernel) (fun hc => ?_) (fun hc => ?_)
          · have hm := (if_pos hc).symm.trans hm
            cases hm
            refine aw_lv (lv' := [(0, .ref a), (2, .int v2_b13)]) [0, 2] rfl ?_
            exact X13_37 v2_b13 H_b13 h0 hs ((congrArg (fX5_boundBehind_k13 s) (show (v2_b13) = x13 from hk13)).trans hr13)
          · have hm := (if_neg hc).symm.trans hm
            refine aw_b (pc' := 13) (lv' := [(2, .int (v2_b13 + (1 : Int32))), (0, .ref a), (1, .int i0)]) (st' := []) [(31, .iinc 2 1, 3, .int (1 : Int32)), (34, .goto (-21), 3, .null)] (by decide +kernel) rfl ?_
            cases hm
            refine aw_lv (lv' := [(0, .ref a), (1, .int i0), (2, .int (v2_b13 + (1 : Int32)))]) [1, 2, 0] rfl ?_
            exact ih13 (v2_b13 + (1 : Int32)) H_b13 h0 hs hk13
    refine aw_lv (lv' := [(0, .ref a), (1, .int i0), (2, .int (0 : Int32))]) [1, 2, 0] rfl ?_
    exact L13 FU_ (0 : Int32) H h0 hs hx13
  · have hm := (if_pos hc).symm.trans hm
    refine aw_ldc (v := (-2000000000 : Int32)) kwX5_84 (by decide +kernel) ?_
    obtain rfl := Option.some.inj hm
    subst hQ
    exact aw_iret rfl (Nat.zero_le _) (Nat.zero_le _) (by decide +kernel) ⟨rfl, hs⟩
