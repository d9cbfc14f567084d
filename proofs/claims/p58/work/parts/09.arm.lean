/-! mirrors of methods, and that the methods do as they say: printed by wip/whole/gen_parts.py out of the listing -/
def mX0_begin : mt_ := (yX0_begin, cX0_begin, 2, none, [], { frames := 0, locals := 0, cells := 0, slots := 0 })
theorem ckX0_begin : cokV_ mX0_begin := ⟨⟨(uw_mem 455 (by decide +kernel) (by decide +kernel)), (uw_mem 34 (by decide +kernel) (by decide +kernel)), by decide +kernel, by decide +kernel⟩, (uw_mem 453 (by decide +kernel) (by decide +kernel)), (uw_mem 454 (by decide +kernel) (by decide +kernel))⟩
theorem nkX0_begin : nok_ mX0_begin 1 := by decide +kernel
theorem fpX0_18 : fpk_ RX0 18 0 0 .int := ⟨_, _, _, tyX0, rfl, by decide, (uw_mem 221 (by decide +kernel) (by decide +kernel)), wkX0, tyX0_ok, nmX0, rfl, by decide +kernel⟩
theorem eo_A_0 : eo_ ly_A 0 0 fsX0 := rfl
theorem fsq_0_0 : fsp_ fsX0 0 := ⟨fun _ _ => rfl, fun _ _ _ => rfl⟩
theorem fpX0_22 : fpk_ RX0 22 0 1 .boolean := ⟨_, _, _, tyX0, rfl, by decide, (uw_mem 225 (by decide +kernel) (by decide +kernel)), wkX0, tyX0_ok, nmX0, rfl, by decide +kernel⟩
theorem fsq_0_1 : fsp_ fsX0 1 := ⟨fun _ _ => rfl, fun _ _ _ => rfl⟩
theorem fpX0_26 : fpk_ RX0 26 0 2 .int := ⟨_, _, _, tyX0, rfl, by decide, (uw_mem 228 (by decide +kernel) (by decide +kernel)), wkX0, tyX0_ok, nmX0, rfl, by decide +kernel⟩
theorem fsq_0_2 : fsp_ fsX0 2 := ⟨fun _ _ => rfl, fun _ _ _ => rfl⟩
theorem fpX0_29 : fpk_ RX0 29 0 5 .int := ⟨_, _, _, tyX0, rfl, by decide, (uw_mem 236 (by decide +kernel) (by decide +kernel)), wkX0, tyX0_ok, nmX0, rfl, by decide +kernel⟩
theorem fsq_0_5 : fsp_ fsX0 5 := ⟨fun _ _ => rfl, fun _ _ _ => rfl⟩
theorem fpX0_32 : fpk_ RX0 32 0 6 .int := ⟨_, _, _, tyX0, rfl, by decide, (uw_mem 240 (by decide +kernel) (by decide +kernel)), wkX0, tyX0_ok, nmX0, rfl, by decide +kernel⟩
theorem fsq_0_6 : fsp_ fsX0 6 := ⟨fun _ _ => rfl, fun _ _ _ => rfl⟩
theorem fpX0_35 : fpk_ RX0 35 0 7 .int := ⟨_, _, _, tyX0, rfl, by decide, (uw_mem 242 (by decide +kernel) (by decide +kernel)), wkX0, tyX0_ok, nmX0, rfl, by decide +kernel⟩
theorem fsq_0_7 : fsp_ fsX0 7 := ⟨fun _ _ => rfl, fun _ _ _ => rfl⟩
theorem fpX0_38 : fpk_ RX0 38 0 8 .int := ⟨_, _, _, tyX0, rfl, by decide, (uw_mem 244 (by decide +kernel) (by decide +kernel)), wkX0, tyX0_ok, nmX0, rfl, by decide +kernel⟩
theorem fsq_0_8 : fsp_ fsX0 8 := ⟨fun _ _ => rfl, fun _ _ _ => rfl⟩
theorem fpX0_41 : fpk_ RX0 41 0 9 .int := ⟨_, _, _, tyX0, rfl, by decide, (uw_mem 246 (by decide +kernel) (by decide +kernel)), wkX0, tyX0_ok, nmX0, rfl, by decide +kernel⟩
theorem fsq_0_9 : fsp_ fsX0 9 := ⟨fun _ _ => rfl, fun _ _ _ => rfl⟩
theorem fpX0_44 : fpk_ RX0 44 0 10 .int := ⟨_, _, _, tyX0, rfl, by decide, (uw_mem 249 (by decide +kernel) (by decide +kernel)), wkX0, tyX0_ok, nmX0, rfl, by decide +kernel⟩
theorem fsq_0_10 : fsp_ fsX0 10 := ⟨fun _ _ => rfl, fun _ _ _ => rfl⟩
theorem fpX0_47 : fpk_ RX0 47 0 11 .int := ⟨_, _, _, tyX0, rfl, by decide, (uw_mem 251 (by decide +kernel) (by decide +kernel)), wkX0, tyX0_ok, nmX0, rfl, by decide +kernel⟩
theorem fsq_0_11 : fsp_ fsX0 11 := ⟨fun _ _ => rfl, fun _ _ _ => rfl⟩
theorem kX0_begin {E : ev_} {H : Heap} {a : Nat} {s : st_} {i0 : Int32} {r : st_} (hm : fX0_begin s i0 = some r) (h0 : has_ E H a ly_A s) (hf : ev_fr E a) : sp_ E mX0_begin [.ref a, .int i0] H (po1 (.inl (none)) (fun Hn => sm_ H Hn a 3 ∧ has_ E Hn a ly_A r)) := by
  refine sp_of (by decide +kernel) rfl rfl ?_
  generalize hQ : po1 _ _ = Q
  have hs : sm_ H H a 3 := sm_.rfl'
  unfold fX0_begin at hm
  refine aw_lv (lv' := [(0, .ref a), (1, .int i0)]) [0, 1] rfl ?_
  refine aw_b (pc' := 2) (lv' := [(0, .ref a), (1, .int i0)]) (st' := [.int i0, .ref a]) [(0, .aload_n 0, 1, .null), (1, .iload_n 1, 1, .null)] (by decide +kernel) rfl ?_
  obtain ⟨s1, e2, hm⟩ := bd_x hm
  refine aw_pl a 0 h0 eo_A_0 fsq_0_0 fpX0_18 hf rfl rfl e2 (by decide +kernel) (fun H3 h0 z4 => ?_)
  have hs := hs.step z4 (by omega) (by omega)
  refine aw_b (pc' := 7) (lv' := [(0, .ref a), (1, .int i0)]) (st' := [.int (1 : Int32), .ref a]) [(5, .aload_n 0, 1, .null), (6, .iconst 1, 1, .int (1 : Int32))] (by decide +kernel) rfl ?_
  obtain ⟨s5, e6, hm⟩ := bd_x hm
  refine aw_pl a 0 h0 eo_A_0 fsq_0_1 fpX0_22 hf (by decide +kernel) (by decide +kernel) e6 (by decide +kernel) (fun H7 h0 z8 => ?_)
  have hs := hs.step z8 (by omega) (by omega)
  refine aw_b (pc' := 12) (lv' := [(0, .ref a), (1, .int i0)]) (st' := [.int (0 : Int32), .ref a]) [(10, .aload_n 0, 1, .null), (11, .iconst 0, 1, .int (0 : Int32))] (by decide +kernel) rfl ?_
  obtain ⟨s9, e10, hm⟩ := bd_x hm
  refine aw_pl a 0 h0 eo_A_0 fsq_0_2 fpX0_26 hf rfl rfl e10 (by decide +kernel) (fun H11 h0 z12 => ?_)
  have hs := hs.step z12 (by omega) (by omega)
  refine aw_b (pc' := 17) (lv' := [(0, .ref a), (1, .int i0)]) (st' := [.int (0 : Int32), .ref a]) [(15, .aload_n 0, 1, .null), (16, .iconst 0, 1, .int (0 : Int32))] (by decide +kernel) rfl ?_
  obtain ⟨s13, e14, hm⟩ := bd_x hm
  refine aw_pl a 0 h0 eo_A_0 fsq_0_5 fpX0_29 hf rfl rfl e14 (by decide +kernel) (fun H15 h0 z16 => ?_)
  have hs := hs.step z16 (by omega) (by omega)
  refine aw_b (pc' := 22) (lv' := [(0, .ref a), (1, .int i0)]) (st' := [.int (0 : Int32), .ref a]) [(20, .aload_n 0, 1, .null), (21, .iconst 0, 1, .int (0 : Int32))] (by decide +kernel) rfl ?_
  obtain ⟨s17, e18, hm⟩ := bd_x hm
  refine aw_pl a 0 h0 eo_A_0 fsq_0_6 fpX0_32 hf rfl rfl e18 (by decide +kernel) (fun H19 h0 z20 => ?_)
  have hs := hs.step z20 (by omega) (by omega)
  refine aw_b (pc' := 27) (lv' := [(0, .ref a), (1, .int i0)]) (st' := [.int (0 : Int32), .ref a]) [(25, .aload_n 0, 1, .null), (26, .iconst 0, 1, .int (0 : Int32))] (by decide +kernel) rfl ?_
  obtain ⟨s21, e22, hm⟩ := bd_x hm
  refine aw_pl a 0 h0 eo_A_0 fsq_0_7 fpX0_35 hf rfl rfl e22 (by decide +kernel) (fun H23 h0 z24 => ?_)
  have hs := hs.step z24 (by omega) (by omega)
  refine aw_b (pc' := 32) (lv' := [(0, .ref a), (1, .int i0)]) (st' := [.int (0 : Int32), .ref a]) [(30, .aload_n 0, 1, .null), (31, .iconst 0, 1, .int (0 : Int32))] (by decide +kernel) rfl ?_
  obtain ⟨s25, e26, hm⟩ := bd_x hm
  refine aw_pl a 0 h0 eo_A_0 fsq_0_8 fpX0_38 hf rfl rfl e26 (by decide +kernel) (fun H27 h0 z28 => ?_)
  have hs := hs.step z28 (by omega) (by omega)
  refine aw_b (pc' := 37) (lv' := [(0, .ref a), (1, .int i0)]) (st' := [.int (0 : Int32), .ref a]) [(35, .aload_n 0, 1, .null), (36, .iconst 0, 1, .int (0 : Int32))] (by decide +kernel) rfl ?_
  obtain ⟨s29, e30, hm⟩ := bd_x hm
  refine aw_pl a 0 h0 eo_A_0 fsq_0_9 fpX0_41 hf rfl rfl e30 (by decide +kernel) (fun H31 h0 z32 => ?_)
  have hs := hs.step z32 (by omega) (by omega)
  refine aw_b (pc' := 42) (lv' := [(0, .ref a), (1, .int i0)]) (st' := [.int (-1 : Int32), .ref a]) [(40, .aload_n 0, 1, .null), (41, .iconst (-1), 1, .int (-1 : Int32))] (by decide +kernel) rfl ?_
  obtain ⟨s33, e34, hm⟩ := bd_x hm
  refine aw_pl a 0 h0 eo_A_0 fsq_0_10 fpX0_44 hf rfl rfl e34 (by decide +kernel) (fun H35 h0 z36 => ?_)
  have hs := hs.step z36 (by omega) (by omega)
  refine aw_b (pc' := 47) (lv' := [(0, .ref a), (1, .int i0)]) (st' := [.int (-1 : Int32), .ref a]) [(45, .aload_n 0, 1, .null), (46, .iconst (-1), 1, .int (-1 : Int32))] (by decide +kernel) rfl ?_
  obtain ⟨s37, e38, hm⟩ := bd_x hm
  refine aw_pl a 0 h0 eo_A_0 fsq_0_11 fpX0_47 hf rfl rfl e38 (by decide +kernel) (fun H39 h0 z40 => ?_)
  have hs := hs.step z40 (by omega) (by omega)
  obtain rfl := Option.some.inj hm
  subst hQ
  exact aw_vret rfl (Nat.zero_le _) (Nat.zero_le _) (by decide +kernel) ⟨rfl, hs, h0⟩
def mX0_copyFrom : mt_ := (yX0_copyFrom, cX0_copyFrom, 2, none, [], { frames := 1, locals := 48, cells := 0, slots := 0 })
theorem ckX0_copyFrom : cokV_ mX0_copyFrom := ⟨⟨(uw_mem 1387 (by decide +kernel) (by decide +kernel)), (uw_mem 34 (by decide +kernel) (by decide +kernel)), by decide +kernel, by decide +kernel⟩, (uw_mem 1385 (by decide +kernel) (by decide +kernel)), (uw_mem 1386 (by decide +kernel) (by decide +kernel))⟩
theorem nkX0_copyFrom : nok_ mX0_copyFrom 1 := by decide +kernel
theorem fgX0_18 : fok_ RX0 18 0 0 := ⟨_, _, _, rfl, by decide, (uw_mem 221 (by decide +kernel) (by decide +kernel)), wkX0⟩
theorem fgX0_22 : fok_ RX0 22 0 1 := ⟨_, _, _, rfl, by decide, (uw_mem 225 (by decide +kernel) (by decide +kernel)), wkX0⟩
theorem fgX0_26 : fok_ RX0 26 0 2 := ⟨_, _, _, rfl, by decide, (uw_mem 228 (by decide +kernel) (by decide +kernel)), wkX0⟩
theorem fgX0_9 : fok_ RX0 9 0 3 := ⟨_, _, _, rfl, by decide, (uw_mem 231 (by decide +kernel) (by decide +kernel)), wkX0⟩
theorem cpX0_50 : al_ RX0 50 := ⟨(uw_mem 1388 (by decide +kernel) (by decide +kernel)), (uw_mem 451 (by decide +kernel) (by decide +kernel)), (uw_mem 450 (by decide +kernel) (by decide +kernel)), (uw_mem 37 (by decide +kernel) (by decide +kernel))⟩
theorem fgX0_15 : fok_ RX0 15 0 4 := ⟨_, _, _, rfl, by decide, (uw_mem 234 (by decide +kernel) (by decide +kernel)), wkX0⟩
theorem fgX0_29 : fok_ RX0 29 0 5 := ⟨_, _, _, rfl, by decide, (uw_mem 236 (by decide +kernel) (by decide +kernel)), wkX0⟩
theorem fgX0_32 : fok_ RX0 32 0 6 := ⟨_, _, _, rfl, by decide, (uw_mem 240 (by decide +kernel) (by decide +kernel)), wkX0⟩
theorem fgX0_35 : fok_ RX0 35 0 7 := ⟨_, _, _, rfl, by decide, (uw_mem 242 (by decide +kernel) (by decide +kernel)), wkX0⟩
theorem fgX0_38 : fok_ RX0 38 0 8 := ⟨_, _, _, rfl, by decide, (uw_mem 244 (by decide +kernel) (by decide +kernel)), wkX0⟩
theorem fgX0_41 : fok_ RX0 41 0 9 := ⟨_, _, _, rfl, by decide, (uw_mem 246 (by decide +kernel) (by decide +kernel)), wkX0⟩
theorem fgX0_44 : fok_ RX0 44 0 10 := ⟨_, _, _, rfl, by decide, (uw_mem 249 (by decide +kernel) (by decide +kernel)), wkX0⟩
theorem fgX0_47 : fok_ RX0 47 0 11 := ⟨_, _, _, rfl, by decide, (uw_mem 251 (by decide +kernel) (by decide +kernel)), wkX0⟩
theorem kX0_copyFrom {E : ev_} {H : Heap} {a b : Nat} {s : st_} {t : st_} {r : st_} (hm : fX0_copyFrom s t = some r) (h0 : has_ E H a ly_A s) (h1 : has_ E H b ly_A t) (hf : ev_fr E a) (d1 : a + 3 ≤ b ∨ b + 3 ≤ a) : sp_ E mX0_copyFrom [.ref a, .ref b] H (po1 (.inl (none)) (fun Hn => sm_ H Hn a 3 ∧ has_ E Hn a ly_A r)) := by
  refine sp_of (by decide +kernel) rfl rfl ?_
  generalize hQ : po1 _ _ = Q
  have hs : sm_ H H a 3 := sm_.rfl'
  unfold fX0_copyFrom at hm
  refine aw_lv (lv' := [(0, .ref a), (1, .ref b)]) [0, 1] rfl ?_
  refine aw_b (pc' := 2) (lv' := [(0, .ref a), (1, .ref b)]) (st' := [.ref b, .ref a]) [(0, .aload_n 0, 1, .null), (1, .aload_n 1, 1, .null)] (by decide +kernel) rfl ?_
  refine aw_gl (v := .int (t 0 0)) b 0 h1 eo_A_0 fgX0_18 rfl (by decide +kernel) ?_
  obtain ⟨s1, e2, hm⟩ := bd_x hm
  refine aw_pl a 0 h0 eo_A_0 fsq_0_0 fpX0_18 hf rfl rfl e2 (by decide +kernel) (fun H3 h0 z4 => ?_)
  have h1 := h1.kept (n := 3) z4 rfl (by omega)
  have hs := hs.step z4 (by omega) (by omega)
  refine aw_b (pc' := 10) (lv' := [(0, .ref a), (1, .ref b)]) (st' := [.ref b, .ref a]) [(8, .aload_n 0, 1, .null), (9, .aload_n 1, 1, .null)] (by decide +kernel) rfl ?_
  refine aw_gl (v := .int (t 0 1)) b 0 h1 eo_A_0 fgX0_22 rfl (by decide +kernel) ?_
  obtain ⟨g8, hm⟩ := gd_x hm
  obtain ⟨s5, e6, hm⟩ := bd_x hm
  refine aw_pl a 0 h0 eo_A_0 fsq_0_1 fpX0_22 hf (bz_n g8) (bz_f g8) e6 (by decide +kernel) (fun H7 h0 z9 => ?_)
  have h1 := h1.kept (n := 3) z9 rfl (by omega)
  have hs := hs.step z9 (by omega) (by omega)
  refine aw_b (pc' := 18) (lv' := [(0, .ref a), (1, .ref b)]) (st' := [.ref b, .ref a]) [(16, .aload_n 0, 1, .null), (17, .aload_n 1, 1, .null)] (by decide +kernel) rfl ?_
  refine aw_gl (v := .int (t 0 2)) b 0 h1 eo_A_0 fgX0_26 rfl (by decide +kernel) ?_
  obtain ⟨s10, e11, hm⟩ := bd_x hm
  refine aw_pl a 0 h0 eo_A_0 fsq_0_2 fpX0_26 hf rfl rfl e11 (by decide +kernel) (fun H12 h0 z13 => ?_)
  have h1 := h1.kept (n := 3) z13 rfl (by omega)
  have hs := hs.step z13 (by omega) (by omega)
  refine aw_b (pc' := 25) (lv' := [(0, .ref a), (1, .ref b)]) (st' := [.ref b]) [(24, .aload_n 1, 1, .null)] (by decide +kernel) rfl ?_
  refine aw_gl (v := .ref (b + 1)) b 0 h1 eo_A_0 fgX0_9 rfl (by decide +kernel) ?_
  refine aw_b (pc' := 30) (lv' := [(0, .ref a), (1, .ref b)]) (st' := [.ref a, .int (0 : Int32), .ref (b + 1)]) [(28, .iconst 0, 1, .int (0 : Int32)), (29, .aload_n 0, 1, .null)] (by decide +kernel) rfl ?_
  refine aw_gl (v := .ref (a + 1)) a 0 h0 eo_A_0 fgX0_9 rfl (by decide +kernel) ?_
  refine aw_b (pc' := 35) (lv' := [(0, .ref a), (1, .ref b)]) (st' := [.ref a, .int (0 : Int32), .ref (a + 1), .int (0 : Int32), .ref (b + 1)]) [(33, .iconst 0, 1, .int (0 : Int32)), (34, .aload_n 0, 1, .null)] (by decide +kernel) rfl ?_
  refine aw_gl (v := .ref (a + 1)) a 0 h0 eo_A_0 fgX0_9 rfl (by decide +kernel) ?_
  refine aw_all (ci := 0) (N := 20) (v := (20 : Int32)) a 1 h0 rfl (x := fun _ _ c => .inl c) (fun _ _ => rfl) rfl (by decide +kernel) (by decide +kernel) ?_
  obtain ⟨s14, e15, hm⟩ := bd_x hm
  refine aw_cpl (rest := []) b 1 a 1 h0 rfl h1 rfl cpX0_50 hf (by decide) (by decide +kernel) e15 rfl (Nat.le_of_ble_eq_true rfl) (by decide +kernel) (fun H16 h0 z17 => ?_)
  have h1 := h1.kept (n := 3) z17 rfl (by omega)
  have hs := hs.step z17 (by omega) (by omega)
  refine aw_b (pc' := 43) (lv' := [(0, .ref a), (1, .ref b)]) (st' := [.ref b]) [(42, .aload_n 1, 1, .null)] (by decide +kernel) rfl ?_
  refine aw_gl (v := .ref (b + 2)) b 0 h1 eo_A_0 fgX0_15 rfl (by decide +kernel) ?_
  refine aw_b (pc' := 48) (lv' := [(0, .ref a), (1, .ref b)]) (st' := [.ref a, .int (0 : Int32), .ref (b + 2)]) [(46, .iconst 0, 1, .int (0 : Int32)), (47, .aload_n 0, 1, .null)] (by decide +kernel) rfl ?_
  refine aw_gl (v := .ref (a + 2)) a 0 h0 eo_A_0 fgX0_15 rfl (by decide +kernel) ?_
  refine aw_b (pc' := 53) (lv' := [(0, .ref a), (1, .ref b)]) (st' := [.ref a, .int (0 : Int32), .ref (a + 2), .int (0 : Int32), .ref (b + 2)]) [(51, .iconst 0, 1, .int (0 : Int32)), (52, .aload_n 0, 1, .null)] (by decide +kernel) rfl ?_
  refine aw_gl (v := .ref (a + 2)) a 0 h0 eo_A_0 fgX0_15 rfl (by decide +kernel) ?_
  refine aw_all (ci := 0) (N := 20) (v := (20 : Int32)) a 2 h0 rfl (x := fun _ _ c => .inl c) (fun _ _ => rfl) rfl (by decide +kernel) (by decide +kernel) ?_
  obtain ⟨s18, e19, hm⟩ := bd_x hm
  refine aw_cpl (rest := []) b 2 a 2 h0 rfl h1 rfl cpX0_50 hf (by decide) (by decide +kernel) e19 rfl (Nat.le_of_ble_eq_true rfl) (by decide +kernel) (fun H20 h0 z21 => ?_)
  have h1 := h1.kept (n := 3) z21 rfl (by omega)
  have hs := hs.step z21 (by omega) (by omega)
  refine aw_b (pc' := 62) (lv' := [(0, .ref a), (1, .ref b)]) (st' := [.ref b, .ref a]) [(60, .aload_n 0, 1, .null), (61, .aload_n 1, 1, .null)] (by decide +kernel) rfl ?_
  refine aw_gl (v := .int (t 0 5)) b 0 h1 eo_A_0 fgX0_29 rfl (by decide +kernel) ?_
  obtain ⟨s22, e23, hm⟩ := bd_x hm
  refine aw_pl a 0 h0 eo_A_0 fsq_0_5 fpX0_29 hf rfl rfl e23 (by decide +kernel) (fun H24 h0 z25 => ?_)
  have h1 := h1.kept (n := 3) z25 rfl (by omega)
  have hs := hs.step z25 (by omega) (by omega)
  refine aw_b (pc' := 70) (lv' := [(0, .ref a), (1, .ref b)]) (st' := [.ref b, .ref a]) [(68, .aload_n 0, 1, .null), (69, .aload_n 1, 1, .null)] (by decide +kernel) rfl ?_
  refine aw_gl (v := .int (t 0 6)) b 0 h1 eo_A_0 fgX0_32 rfl (by decide +kernel) ?_
  obtain ⟨s26, e27, hm⟩ := bd_x hm
  refine aw_pl a 0 h0 eo_A_0 fsq_0_6 fpX0_32 hf rfl rfl e27 (by decide +kernel) (fun H28 h0 z29 => ?_)
  have h1 := h1.kept (n := 3) z29 rfl (by omega)
  have hs := hs.step z29 (by omega) (by omega)
  refine aw_b (pc' := 78) (lv' := [(0, .ref a), (1, .ref b)]) (st' := [.ref b, .ref a]) [(76, .aload_n 0, 1, .null), (77, .aload_n 1, 1, .null)] (by decide +kernel) rfl ?_
  refine aw_gl (v := .int (t 0 7)) b 0 h1 eo_A_0 fgX0_35 rfl (by decide +kernel) ?_
  obtain ⟨s30, e31, hm⟩ := bd_x hm
  refine aw_pl a 0 h0 eo_A_0 fsq_0_7 fpX0_35 hf rfl rfl e31 (by decide +kernel) (fun H32 h0 z33 => ?_)
  have h1 := h1.kept (n := 3) z33 rfl (by omega)
  have hs := hs.step z33 (by omega) (by omega)
  refine aw_b (pc' := 86) (lv' := [(0, .ref a), (1, .ref b)]) (st' := [.ref b, .ref a]) [(84, .aload_n 0, 1, .null), (85, .aload_n 1, 1, .null)] (by decide +kernel) rfl ?_
  refine aw_gl (v := .int (t 0 8)) b 0 h1 eo_A_0 fgX0_38 rfl (by decide +kernel) ?_
  obtain ⟨s34, e35, hm⟩ := bd_x hm
  refine aw_pl a 0 h0 eo_A_0 fsq_0_8 fpX0_38 hf rfl rfl e35 (by decide +kernel) (fun H36 h0 z37 => ?_)
  have h1 := h1.kept (n := 3) z37 rfl (by omega)
  have hs := hs.step z37 (by omega) (by omega)
  refine aw_b (pc' := 94) (lv' := [(0, .ref a), (1, .ref b)]) (st' := [.ref b, .ref a]) [(92, .aload_n 0, 1, .null), (93, .aload_n 1, 1, .null)] (by decide +kernel) rfl ?_
  refine aw_gl (v := .int (t 0 9)) b 0 h1 eo_A_0 fgX0_41 rfl (by decide +kernel) ?_
  obtain ⟨s38, e39, hm⟩ := bd_x hm
  refine aw_pl a 0 h0 eo_A_0 fsq_0_9 fpX0_41 hf rfl rfl e39 (by decide +kernel) (fun H40 h0 z41 => ?_)
  have h1 := h1.kept (n := 3) z41 rfl (by omega)
  have hs := hs.step z41 (by omega) (by omega)
  refine aw_b (pc' := 102) (lv' := [(0, .ref a), (1, .ref b)]) (st' := [.ref b, .ref a]) [(100, .aload_n 0, 1, .null), (101, .aload_n 1, 1, .null)] (by decide +kernel) rfl ?_
  refine aw_gl (v := .int (t 0 10)) b 0 h1 eo_A_0 fgX0_44 rfl (by decide +kernel) ?_
  obtain ⟨s42, e43, hm⟩ := bd_x hm
  refine aw_pl a 0 h0 eo_A_0 fsq_0_10 fpX0_44 hf rfl rfl e43 (by decide +kernel) (fun H44 h0 z45 => ?_)
  have h1 := h1.kept (n := 3) z45 rfl (by omega)
  have hs := hs.step z45 (by omega) (by omega)
  refine aw_b (pc' := 110) (lv' := [(0, .ref a), (1, .ref b)]) (st' := [.ref b, .ref a]) [(108, .aload_n 0, 1, .null), (109, .aload_n 1, 1, .null)] (by decide +kernel) rfl ?_
  refine aw_gl (v := .int (t 0 11)) b 0 h1 eo_A_0 fgX0_47 rfl (by decide +kernel) ?_
  obtain ⟨s46, e47, hm⟩ := bd_x hm
  refine aw_pl a 0 h0 eo_A_0 fsq_0_11 fpX0_47 hf rfl rfl e47 (by decide +kernel) (fun H48 h0 z49 => ?_)
  have h1 := h1.kept (n := 3) z49 rfl (by omega)
  have hs := hs.step z49 (by omega) (by omega)
  obtain rfl := Option.some.inj hm
  subst hQ
  exact aw_vret rfl (Nat.zero_le _) (Nat.zero_le _) (by decide +kernel) ⟨rfl, hs, h0⟩
def mX0_receive : mt_ := (yX0_receive, cX0_receive, 3, none, [], { frames := 0, locals := 0, cells := 0, slots := 0 })
theorem ckX0_receive : cokV_ mX0_receive := ⟨⟨(uw_mem 997 (by decide +kernel) (by decide +kernel)), (uw_mem 34 (by decide +kernel) (by decide +kernel)), by decide +kernel, by decide +kernel⟩, (uw_mem 995 (by decide +kernel) (by decide +kernel)), (uw_mem 996 (by decide +kernel) (by decide +kernel))⟩
theorem nkX0_receive : nok_ mX0_receive 2 := by decide +kernel
theorem kX0_receive {E : ev_} {H : Heap} {a : Nat} {s : st_} {i0 : Int32} {i1 : Int32} {r : st_} (hm : fX0_receive s i0 i1 = some r) (h0 : has_ E H a ly_A s) (hf : ev_fr E a) : sp_ E mX0_receive [.ref a, .int i0, .int i1] H (po1 (.inl (none)) (fun Hn => sm_ H Hn a 3 ∧ has_ E Hn a ly_A r)) := by
  refine sp_of (by decide +kernel) rfl rfl ?_
  generalize hQ : po1 _ _ = Q
  have hs : sm_ H H a 3 := sm_.rfl'
  unfold fX0_receive at hm
  refine aw_lv (lv' := [(0, .ref a), (1, .int i0), (2, .int i1)]) [0, 1, 2] rfl ?_
  refine aw_b (pc' := 1) (lv' := [(0, .ref a), (1, .int i0), (2, .int i1)]) (st' := [.ref a]) [(0, .aload_n 0, 1, .null)] (by decide +kernel) rfl ?_
  refine aw_gl (v := .int (s 0 2)) a 0 h0 eo_A_0 fgX0_26 rfl (by decide +kernel) ?_
  refine aw_b (pc' := 6) (lv' := [(0, .ref a), (1, .int i0), (2, .int i1)]) (st' := [.int (20 : Int32), .int (s 0 2)]) [(4, .bipush 20, 2, .int (20 : Int32))] (by decide +kernel) rfl ?_
  refine aw_ic_ge (off := 33) 39 (by decide) (by decide +kernel) (fun hc => ?_) (fun hc => ?_)
  · have hm := (if_pos hc).symm.trans hm
    obtain rfl := Option.some.inj hm
    subst hQ
    exact aw_vret rfl (Nat.zero_le _) (Nat.zero_le _) (by decide +kernel) ⟨rfl, hs, h0⟩
  · have hm := (if_neg hc).symm.trans hm
    refine aw_b (pc' := 10) (lv' := [(0, .ref a), (1, .int i0), (2, .int i1)]) (st' := [.ref a]) [(9, .aload_n 0, 1, .null)] (by decide +kernel) rfl ?_
    refine aw_gl (v := .ref (a + 1)) a 0 h0 eo_A_0 fgX0_9 rfl (by decide +kernel) ?_
    refine aw_b (pc' := 14) (lv' := [(0, .ref a), (1, .int i0), (2, .int i1)]) (st' := [.ref a, .ref (a + 1)]) [(13, .aload_n 0, 1, .null)] (by decide +kernel) rfl ?_
    refine aw_gl (v := .int (s 0 2)) a 0 h0 eo_A_0 fgX0_26 rfl (by decide +kernel) ?_
    refine aw_b (pc' := 18) (lv' := [(0, .ref a), (1, .int i0), (2, .int i1)]) (st' := [.int i0, .int (s 0 2), .ref (a + 1)]) [(17, .iload_n 1, 1, .null)] (by decide +kernel) rfl ?_
    obtain ⟨g1, hm⟩ := gd_x hm
    obtain ⟨s2, e3, hm⟩ := bd_x hm
    refine aw_isl a 1 h0 rfl hf g1 e3 (by decide +kernel) (fun H4 h0 z5 => ?_)
    have hs := hs.step z5 (by omega) (by omega)
    refine aw_b (pc' := 20) (lv' := [(0, .ref a), (1, .int i0), (2, .int i1)]) (st' := [.ref a]) [(19, .aload_n 0, 1, .null)] (by decide +kernel) rfl ?_
    refine aw_gl (v := .ref (a + 2)) a 0 h0 eo_A_0 fgX0_15 rfl (by decide +kernel) ?_
    refine aw_b (pc' := 24) (lv' := [(0, .ref a), (1, .int i0), (2, .int i1)]) (st' := [.ref a, .ref (a + 2)]) [(23, .aload_n 0, 1, .null)] (by decide +kernel) rfl ?_
    refine aw_gl (v := .int (s2 0 2)) a 0 h0 eo_A_0 fgX0_26 rfl (by decide +kernel) ?_
    refine aw_b (pc' := 28) (lv' := [(0, .ref a), (1, .int i0), (2, .int i1)]) (st' := [.int i1, .int (s2 0 2), .ref (a + 2)]) [(27, .iload_n 2, 1, .null)] (by decide +kernel) rfl ?_
    obtain ⟨g6, hm⟩ := gd_x hm
    obtain ⟨s7, e8, hm⟩ := bd_x hm
    refine aw_isl a 2 h0 rfl hf g6 e8 (by decide +kernel) (fun H9 h0 z10 => ?_)
    have hs := hs.step z10 (by omega) (by omega)
    refine aw_b (pc' := 31) (lv' := [(0, .ref a), (1, .int i0), (2, .int i1)]) (st' := [.ref a, .ref a]) [(29, .aload_n 0, 1, .null), (30, .dup, 1, .null)] (by decide +kernel) rfl ?_
    refine aw_gl (v := .int (s7 0 2)) a 0 h0 eo_A_0 fgX0_26 rfl (by decide +kernel) ?_
    refine aw_b (pc' := 36) (lv' := [(0, .ref a), (1, .int i0), (2, .int i1)]) (st' := [.int ((s7 0 2) + (1 : Int32)), .ref a]) [(34, .iconst 1, 1, .int (1 : Int32)), (35, .iadd, 1, .null)] (by decide +kernel) rfl ?_
    obtain ⟨s11, e12, hm⟩ := bd_x hm
    refine aw_pl a 0 h0 eo_A_0 fsq_0_2 fpX0_26 hf rfl rfl e12 (by decide +kernel) (fun H13 h0 z14 => ?_)
    have hs := hs.step z14 (by omega) (by omega)
    obtain rfl := Option.some.inj hm
    subst hQ
    exact aw_vret rfl (Nat.zero_le _) (Nat.zero_le _) (by decide +kernel) ⟨rfl, hs, h0⟩
def mX0_rankOf : mt_ := (yX0_rankOf, cX0_rankOf, 6, some .int, [], { frames := 0, locals := 0, cells := 0, slots := 0 })
theorem ckX0_rankOf : cokV_ mX0_rankOf := ⟨⟨(uw_mem 1128 (by decide +kernel) (by decide +kernel)), (uw_mem 34 (by decide +kernel) (by decide +kernel)), by decide +kernel, by decide +kernel⟩, (uw_mem 1126 (by decide +kernel) (by decide +kernel)), (uw_mem 1127 (by decide +kernel) (by decide +kernel))⟩
theorem nkX0_rankOf : nok_ mX0_rankOf 3 := by decide +kernel
theorem kX0_rankOf {E : ev_} {H : Heap} {a : Nat} {s : st_} {i0 : Int32} {i1 : Int32} {i2 : Int32} {r : Int32} (hm : fX0_rankOf s i0 i1 i2 = some r) (h0 : has_ E H a ly_A s) : sp_ E mX0_rankOf [.ref a, .int i0, .int i1, .int i2] H (po1 (.inl (some (.int r))) (fun Hn => sm_ H Hn 0 0)) := by
  refine sp_of (by decide +kernel) rfl rfl ?_
  generalize hQ : po1 _ _ = Q
  have hs : sm_ H H 0 0 := sm_.rfl'
  unfold fX0_rankOf at hm
  refine aw_lv (lv' := [(0, .ref a), (1, .int i0), (2, .int i1), (3, .int i2)]) [0, 1, 2, 3] rfl ?_
  refine aw_b (pc' := 2) (lv' := [(0, .ref a), (1, .int i0), (2, .int i1), (3, .int i2)]) (st' := [.ref a, .int i2]) [(0, .iload_n 3, 1, .null), (1, .aload_n 0, 1, .null)] (by decide +kernel) rfl ?_
  refine aw_gl (v := .int (s 0 0)) a 0 h0 eo_A_0 fgX0_18 rfl (by decide +kernel) ?_
  refine aw_b (pc' := 10) (lv' := [(4, .int (i2 - (s 0 0))), (0, .ref a), (1, .int i0), (2, .int i1), (3, .int i2)]) (st' := [.int (i2 - (s 0 0))]) [(5, .isub, 1, .null), (6, .istore 4, 2, .null), (8, .iload 4, 2, .null)] (by decide +kernel) rfl ?_
  have J21 : ∀ (z0_j21 : Int32) (H_j21 : Heap), has_ E H_j21 a ly_A s → sm_ H H_j21 0 0 → fX0_rankOf_j21 s i0 i1 i2 z0_j21 = some r → aw E mX0_rankOf Q 21 [(0, .ref a), (1, .int i0), (2, .int i1), (3, .int i2), (4, .int (i2 - (s 0 0)))] [.int z0_j21] H_j21 0 0 := by
    intro z0_j21 H_j21 h0 hs hm
    unfold fX0_rankOf_j21 at hm
    refine aw_b (pc' := 24) (lv' := [(5, .int z0_j21), (0, .ref a), (1, .int i0), (2, .int i1), (3, .int i2), (4, .int (i2 - (s 0 0)))]) (st' := [.int i0]) [(21, .istore 5, 2, .null), (23, .iload_n 1, 1, .null)] (by decide +kernel) rfl ?_
    refine aw_ts [((1 : Int32), 56), ((2 : Int32), 72), ((3 : Int32), 103), ((4 : Int32), 119)] 133 (by decide +kernel) ?_
    refine aw_tg (fun hc => ?_) (fun hc => ?_)
    · have hm := (if_pos hc).symm.trans hm
      refine aw_b (pc' := 62) (lv' := [(5, .int z0_j21), (0, .ref a), (1, .int i0), (2, .int i1), (3, .int i2), (4, .int (i2 - (s 0 0)))]) (st' := [.int (i2 - (s 0 0)), .int ((2 : Int32) * z0_j21)]) [(56, .iconst 2, 1, .int (2 : Int32)), (57, .iload 5, 2, .null), (59, .imul, 1, .null), (60, .iload 4, 2, .null)] (by decide +kernel) rfl ?_
      refine aw_if_le (off := 7) 69 (by decide) (by decide +kernel) (fun hc => ?_) (fun hc => ?_)
      · have hm := (if_pos hc).symm.trans hm
        refine aw_b (pc' := 71) (lv' := [(5, .int z0_j21), (0, .ref a), (1, .int i0), (2, .int i1), (3, .int i2), (4, .int (i2 - (s 0 0)))]) (st' := [.int (((2 : Int32) * z0_j21) + (0 : Int32))]) [(69, .iconst 0, 1, .int (0 : Int32)), (70, .iadd, 1, .null)] (by decide +kernel) rfl ?_
        obtain rfl := Option.some.inj hm
        subst hQ
        exact aw_iret rfl (Nat.zero_le _) (Nat.zero_le _) (by decide +kernel) ⟨rfl, hs⟩
      · have hm := (if_neg hc).symm.trans hm
        refine aw_b (pc' := 70) (lv' := [(5, .int z0_j21), (0, .ref a), (1, .int i0), (2, .int i1), (3, .int i2), (4, .int (i2 - (s 0 0)))]) (st' := [.int (1 : Int32), .int ((2 : Int32) * z0_j21)]) [(65, .iconst 1, 1, .int (1 : Int32)), (66, .goto 4, 3, .null)] (by decide +kernel) rfl ?_
        refine aw_b (pc' := 71) (lv' := [(5, .int z0_j21), (0, .ref a), (1, .int i0), (2, .int i1), (3, .int i2), (4, .int (i2 - (s 0 0)))]) (st' := [.int (((2 : Int32) * z0_j21) + (1 : Int32))]) [(70, .iadd, 1, .null)] (by decide +kernel) rfl ?_
        obtain rfl := Option.some.inj hm
        subst hQ
        exact aw_iret rfl (Nat.zero_le _) (Nat.zero_le _) (by decide +kernel) ⟨rfl, hs⟩
    · have hm := (if_neg hc).symm.trans hm
      refine aw_tg (fun hc => ?_) (fun hc => ?_)
      · have hm := (if_pos hc).symm.trans hm
        refine aw_b (pc' := 75) (lv' := [(5, .int z0_j21), (0, .ref a), (1, .int i0), (2, .int i1), (3, .int i2), (4, .int (i2 - (s 0 0)))]) (st' := [.ref a, .int z0_j21]) [(72, .iload 5, 2, .null), (74, .aload_n 0, 1, .null)] (by decide +kernel) rfl ?_
        refine aw_gl (v := .int (s 0 1)) a 0 h0 eo_A_0 fgX0_22 rfl (by decide +kernel) ?_
        have J98 : ∀ (H_j98 : Heap), has_ E H_j98 a ly_A s → sm_ H H_j98 0 0 → fX0_rankOf_j98 z0_j21 = some r → aw E mX0_rankOf Q 98 [] [.int z0_j21] H_j98 0 0 := by
          intro H_j98 h0 hs hm
          unfold fX0_rankOf_j98 at hm
          refine aw_b (pc' := 102) (lv' := []) (st' := [.int (z0_j21 + (1000 : Int32))]) [(98, .sipush 1000, 3, .int (1000 : Int32)), (101, .iadd, 1, .null)] (by decide +kernel) rfl ?_
          obtain rfl := Option.some.inj hm
          subst hQ
          exact aw_iret rfl (Nat.zero_le _) (Nat.zero_le _) (by decide +kernel) ⟨rfl, hs⟩
        have J94 : ∀ (H_j94 : Heap), has_ E H_j94 a ly_A s → sm_ H H_j94 0 0 → fX0_rankOf_j94 z0_j21 = some r → aw E mX0_rankOf Q 94 [] [.int z0_j21] H_j94 0 0 := by
          intro H_j94 h0 hs hm
          unfold fX0_rankOf_j94 at hm
          refine aw_b (pc' := 101) (lv' := []) (st' := [.int (0 : Int32), .int z0_j21]) [(94, .iconst 0, 1, .int (0 : Int32)), (95, .goto 6, 3, .null)] (by decide +kernel) rfl ?_
          refine aw_b (pc' := 102) (lv' := []) (st' := [.int (z0_j21 + (0 : Int32))]) [(101, .iadd, 1, .null)] (by decide +kernel) rfl ?_
          obtain rfl := Option.some.inj hm
          subst hQ
          exact aw_iret rfl (Nat.zero_le _) (Nat.zero_le _) (by decide +kernel) ⟨rfl, hs⟩
        refine aw_if_eq (off := 11) 89 (by decide) (by decide +kernel) (fun hc => ?_) (fun hc => ?_)
        · have hm := (if_pos hc).symm.trans hm
          refine aw_b (pc' := 91) (lv' := [(5, .int z0_j21), (0, .ref a), (1, .int i0), (2, .int i1), (3, .int i2), (4, .int (i2 - (s 0 0)))]) (st' := [.int (i2 - (s 0 0)), .int z0_j21]) [(89, .iload 4, 2, .null)] (by decide +kernel) rfl ?_
          refine aw_if_gt (off := 7) 98 (by decide) (by decide +kernel) (fun hc => ?_) (fun hc => ?_)
          · have hm := (if_pos hc).symm.trans hm
            refine aw_lv (lv' := []) [] rfl ?_
            exact J98 H_j21 h0 hs hm
          · have hm := (if_neg hc).symm.trans hm
            refine aw_lv (lv' := []) [] rfl ?_
            exact J94 H_j21 h0 hs hm
        · have hm := (if_neg hc).symm.trans hm
          refine aw_b (pc' := 83) (lv' := [(5, .int z0_j21), (0, .ref a), (1, .int i0), (2, .int i1), (3, .int i2), (4, .int (i2 - (s 0 0)))]) (st' := [.int (i2 - (s 0 0)), .int z0_j21]) [(81, .iload 4, 2, .null)] (by decide +kernel) rfl ?_
          refine aw_if_lt (off := 15) 98 (by decide) (by decide +kernel) (fun hc => ?_) (fun hc => ?_)
          · have hm := (if_pos hc).symm.trans hm
            refine aw_lv (lv' := []) [] rfl ?_
            exact J98 H_j21 h0 hs hm
          · have hm := (if_neg hc).symm.trans hm
            refine aw_b (pc' := 94) (lv' := [(5, .int z0_j21), (0, .ref a), (1, .int i0), (2, .int i1), (3, .int i2), (4, .int (i2 - (s 0 0)))]) (st' := [.int z0_j21]) [(86, .goto 8, 3, .null)] (by decide +kernel) rfl ?_
            refine aw_lv (lv' := []) [] rfl ?_
            exact J94 H_j21 h0 hs hm
      · have hm := (if_neg hc).symm.trans hm
        refine aw_tg (fun hc => ?_) (fun hc => ?_)
        · have hm := (if_pos hc).symm.trans hm
          refine aw_b (pc' := 105) (lv' := [(5, .int z0_j21), (0, .ref a), (1, .int i0), (2, .int i1), (3, .int i2), (4, .int (i2 - (s 0 0)))]) (st' := [.int (i2 - (s 0 0))]) [(103, .iload 4, 2, .null)] (by decide +kernel) rfl ?_
          refine aw_if_lt (off := 8) 113 (by decide) (by decide +kernel) (fun hc => ?_) (fun hc => ?_)
          · have hm := (if_pos hc).symm.trans hm
            refine aw_b (pc' := 118) (lv' := [(5, .int z0_j21), (0, .ref a), (1, .int i0), (2, .int i1), (3, .int i2), (4, .int (i2 - (s 0 0)))]) (st' := [.int ((1000 : Int32) + i2)]) [(113, .sipush 1000, 3, .int (1000 : Int32)), (116, .iload_n 3, 1, .null), (117, .iadd, 1, .null)] (by decide +kernel) rfl ?_
            obtain rfl := Option.some.inj hm
            subst hQ
            exact aw_iret rfl (Nat.zero_le _) (Nat.zero_le _) (by decide +kernel) ⟨rfl, hs⟩
          · have hm := (if_neg hc).symm.trans hm
            refine aw_b (pc' := 118) (lv' := [(5, .int z0_j21), (0, .ref a), (1, .int i0), (2, .int i1), (3, .int i2), (4, .int (i2 - (s 0 0)))]) (st' := [.int (i2 - (s 0 0))]) [(108, .iload 4, 2, .null), (110, .goto 8, 3, .null)] (by decide +kernel) rfl ?_
            obtain rfl := Option.some.inj hm
            subst hQ
            exact aw_iret rfl (Nat.zero_le _) (Nat.zero_le _) (by decide +kernel) ⟨rfl, hs⟩
        · have hm := (if_neg hc).symm.trans hm
          refine aw_tg (fun hc => ?_) (fun hc => ?_)
          · have hm := (if_pos hc).symm.trans hm
            refine aw_b (pc' := 122) (lv' := [(5, .int z0_j21), (0, .ref a), (1, .int i0), (2, .int i1), (3, .int i2), (4, .int (i2 - (s 0 0)))]) (st' := [.int i1, .int z0_j21]) [(119, .iload 5, 2, .null), (121, .iload_n 2, 1, .null)] (by decide +kernel) rfl ?_
            refine aw_ic_gt (off := 7) 129 (by decide) (by decide +kernel) (fun hc => ?_) (fun hc => ?_)
            · have hm := (if_pos hc).symm.trans hm
              refine aw_b (pc' := 132) (lv' := [(5, .int z0_j21), (0, .ref a), (1, .int i0), (2, .int i1), (3, .int i2), (4, .int (i2 - (s 0 0)))]) (st' := [.int (1000 : Int32)]) [(129, .sipush 1000, 3, .int (1000 : Int32))] (by decide +kernel) rfl ?_
              obtain rfl := Option.some.inj hm
              subst hQ
              exact aw_iret rfl (Nat.zero_le _) (Nat.zero_le _) (by decide +kernel) ⟨rfl, hs⟩
            · have hm := (if_neg hc).symm.trans hm
              refine aw_b (pc' := 132) (lv' := [(5, .int z0_j21), (0, .ref a), (1, .int i0), (2, .int i1), (3, .int i2), (4, .int (i2 - (s 0 0)))]) (st' := [.int (0 : Int32)]) [(125, .iconst 0, 1, .int (0 : Int32)), (126, .goto 6, 3, .null)] (by decide +kernel) rfl ?_
              obtain rfl := Option.some.inj hm
              subst hQ
              exact aw_iret rfl (Nat.zero_le _) (Nat.zero_le _) (by decide +kernel) ⟨rfl, hs⟩
          · have hm := (if_neg hc).symm.trans hm
            show aw E _ Q 133 _ _ _ _ _
            refine aw_b (pc' := 134) (lv' := [(5, .int z0_j21), (0, .ref a), (1, .int i0), (2, .int i1), (3, .int i2), (4, .int (i2 - (s 0 0)))]) (st' := [.int (0 : Int32)]) [(133, .iconst 0, 1, .int (0 : Int32))] (by decide +kernel) rfl ?_
            obtain rfl := Option.some.inj hm
            subst hQ
            exact aw_iret rfl (Nat.zero_le _) (Nat.zero_le _) (by decide +kernel) ⟨rfl, hs⟩
  refine aw_if_ge (off := 9) 19 (by decide) (by decide +kernel) (fun hc => ?_) (fun hc => ?_)
  · have hm := (if_pos hc).symm.trans hm
    refine aw_b (pc' := 21) (lv' := [(4, .int (i2 - (s 0 0))), (0, .ref a), (1, .int i0), (2, .int i1), (3, .int i2)]) (st' := [.int (i2 - (s 0 0))]) [(19, .iload 4, 2, .null)] (by decide +kernel) rfl ?_
    refine aw_lv (lv' := [(0, .ref a), (1, .int i0), (2, .int i1), (3, .int i2), (4, .int (i2 - (s 0 0)))]) [1, 2, 3, 4, 0] rfl ?_
    exact J21 (i2 - (s 0 0)) H h0 hs hm
  · have hm := (if_neg hc).symm.trans hm
    refine aw_b (pc' := 21) (lv' := [(4, .int (i2 - (s 0 0))), (0, .ref a), (1, .int i0), (2, .int i1), (3, .int i2)]) (st' := [.int (-(i2 - (s 0 0)))]) [(13, .iload 4, 2, .null), (15, .ineg, 1, .null), (16, .goto 5, 3, .null)] (by decide +kernel) rfl ?_
    refine aw_lv (lv' := [(0, .ref a), (1, .int i0), (2, .int i1), (3, .int i2), (4, .int (i2 - (s 0 0)))]) [1, 2, 3, 4, 0] rfl ?_
    exact J21 (-(i2 - (s 0 0))) H h0 hs hm
def mX0_choose : mt_ := (yX0_choose, cX0_choose, 7, some .int, [], { frames := 1, locals := 25, cells := 0, slots := 0 })
theorem ckX0_choose : cokV_ mX0_choose := ⟨⟨(uw_mem 1124 (by decide +kernel) (by decide +kernel)), (uw_mem 34 (by decide +kernel) (by decide +kernel)), by decide +kernel, by decide +kernel⟩, (uw_mem 1122 (by decide +kernel) (by decide +kernel)), (uw_mem 1123 (by decide +kernel) (by decide +kernel))⟩
theorem nkX0_choose : nok_ mX0_choose 2 := by decide +kernel
theorem lkX0_56 : Cond.methodLink RX0 56 yX0_rankOf ∈ uw_ := (uw_mem 1125 (by decide +kernel) (by decide +kernel))
theorem kX0_choose {E : ev_} {H : Heap} {a : Nat} {s : st_} {i0 : Int32} {i1 : Int32} {r : Int32} (hm : fX0_choose s i0 i1 = some r) (h0 : has_ E H a ly_A s) : sp_ E mX0_choose [.ref a, .int i0, .int i1] H (po1 (.inl (some (.int r))) (fun Hn => sm_ H Hn 0 0)) := by
  refine sp_of (by decide +kernel) rfl rfl ?_
  generalize hQ : po1 _ _ = Q
  have hs : sm_ H H 0 0 := sm_.rfl'
  unfold fX0_choose at hm
  refine aw_lv (lv' := [(0, .ref a), (1, .int i0), (2, .int i1)]) [0, 1, 2] rfl ?_
  refine aw_b (pc' := 8) (lv' := [(5, .int (0 : Int32)), (4, .int (0 : Int32)), (3, .int (-1 : Int32)), (0, .ref a), (1, .int i0), (2, .int i1)]) (st' := []) [(0, .iconst (-1), 1, .int (-1 : Int32)), (1, .istore_n 3, 1, .null), (2, .iconst 0, 1, .int (0 : Int32)), (3, .istore 4, 2, .null), (5, .iconst 0, 1, .int (0 : Int32)), (6, .istore 5, 2, .null)] (by decide +kernel) rfl ?_
  obtain ⟨x8, hx8, hr8⟩ := bn_x hm
  have X8_57 : ∀ (v3_x8_57 : Int32) (H_x8_57 : Heap), has_ E H_x8_57 a ly_A s → sm_ H H_x8_57 0 0 → fX0_choose_x8_57 v3_x8_57 = some r → aw E mX0_choose Q 57 [(3, .int v3_x8_57)] [] H_x8_57 0 0 := by
    intro v3_x8_57 H_x8_57 h0 hs hm
    unfold fX0_choose_x8_57 at hm
    refine aw_b (pc' := 58) (lv' := [(3, .int v3_x8_57)]) (st' := [.int v3_x8_57]) [(57, .iload_n 3, 1, .null)] (by decide +kernel) rfl ?_
    obtain rfl := Option.some.inj hm
    subst hQ
    exact aw_iret rfl (Nat.zero_le _) (Nat.zero_le _) (by decide +kernel) ⟨rfl, hs⟩
  have L8 : ∀ (fu : Nat) (v3_b8 : Int32) (v4_b8 : Int32) (v5_b8 : Int32) (H_b8 : Heap), has_ E H_b8 a ly_A s → sm_ H H_b8 0 0 → fX0_choose_l8 s i0 i1 fu (v3_b8, v4_b8, v5_b8) = some x8 → aw E mX0_choose Q 8 [(0, .ref a), (1, .int i0), (2, .int i1), (3, .int v3_b8), (4, .int v4_b8), (5, .int v5_b8)] [] H_b8 0 0 := by
    intro fu
    induction fu with
    | zero =>
      intro v3_b8 v4_b8 v5_b8 H_b8 h0 hs hm
      exact (it_0 hm).elim
    | succ fu ih8 =>
      intro v3_b8 v4_b8 v5_b8 H_b8 h0 hs hm
      obtain ⟨y8, hm, hk8⟩ := it_s hm
      have hm : fX0_choose_b8 s i0 i1 v3_b8 v4_b8 v5_b8 = some y8 := hm
      unfold fX0_choose_b8 at hm
      refine aw_b (pc' := 11) (lv' := [(0, .ref a), (1, .int i0), (2, .int i1), (3, .int v3_b8), (4, .int v4_b8), (5, .int v5_b8)]) (st' := [.ref a, .int v5_b8]) [(8, .iload 5, 2, .null), (10, .aload_n 0, 1, .null)] (by decide +kernel) rfl ?_
      refine aw_gl (v := .int (s 0 2)) a 0 h0 eo_A_0 fgX0_26 rfl (by decide +kernel) ?_
      refine aw_ic_ge (off := 43) 57 (by decide) (by decide +kernel) (fun hc => ?_) (fun hc => ?_)
      · have hm := (if_pos hc).symm.trans hm
        cases hm
        refine aw_lv (lv' := [(3, .int v3_b8)]) [3] rfl ?_
        exact X8_57 v3_b8 H_b8 h0 hs ((congrArg fX0_choose_k8 (show (v3_b8) = x8 from hk8)).trans hr8)
      · have hm := (if_neg hc).symm.trans hm
        refine aw_b (pc' := 21) (lv' := [(0, .ref a), (1, .int i0), (2, .int i1), (3, .int v3_b8), (4, .int v4_b8), (5, .int v5_b8)]) (st' := [.ref a, .int i1, .int i0, .ref a]) [(17, .aload_n 0, 1, .null), (18, .iload_n 1, 1, .null), (19, .iload_n 2, 1, .null), (20, .aload_n 0, 1, .null)] (by decide +kernel) rfl ?_
        refine aw_gl (v := .ref (a + 1)) a 0 h0 eo_A_0 fgX0_9 rfl (by decide +kernel) ?_
        refine aw_b (pc' := 26) (lv' := [(0, .ref a), (1, .int i0), (2, .int i1), (3, .int v3_b8), (4, .int v4_b8), (5, .int v5_b8)]) (st' := [.int v5_b8, .ref (a + 1), .int i1, .int i0, .ref a]) [(24, .iload 5, 2, .null)] (by decide +kernel) rfl ?_
        obtain ⟨g1, hm⟩ := gd_x hm
        refine aw_ial a 1 h0 rfl g1 (by decide +kernel) ?_
        obtain ⟨r2, e3, hm⟩ := bn_x hm
        refine aw_cv (rest := []) (st1 := [.int r2]) a 0 (kX0_rankOf e3 h0) rfl rfl ckX0_rankOf lkX0_56 h0 eo_A_0 ⟨_, _, rfl⟩ nkX0_rankOf rfl rfl rfl (Nat.le_of_ble_eq_true rfl) (Nat.zero_le _) (Nat.zero_le _) (by decide +kernel) (fun H4 z5 => ?_)
        have h0 := h0.kept0 z5
        have hs := hs.step0 z5
        refine aw_b (pc' := 34) (lv' := [(6, .int r2), (0, .ref a), (1, .int i0), (2, .int i1), (3, .int v3_b8), (4, .int v4_b8), (5, .int v5_b8)]) (st' := [.int (-1 : Int32), .int v3_b8]) [(30, .istore 6, 2, .null), (32, .iload_n 3, 1, .null), (33, .iconst (-1), 1, .int (-1 : Int32))] (by decide +kernel) rfl ?_
        have J51 : ∀ (v3_j51 : Int32) (v4_j51 : Int32) (H_j51 : Heap), has_ E H_j51 a ly_A s → sm_ H H_j51 0 0 → fX0_choose_j51 v5_b8 v3_j51 v4_j51 = some y8 → aw E mX0_choose Q 51 [(0, .ref a), (1, .int i0), (2, .int i1), (3, .int v3_j51), (4, .int v4_j51), (5, .int v5_b8)] [] H_j51 0 0 := by
          intro v3_j51 v4_j51 H_j51 h0 hs hm
          unfold fX0_choose_j51 at hm
          refine aw_b (pc' := 8) (lv' := [(5, .int (v5_b8 + (1 : Int32))), (0, .ref a), (1, .int i0), (2, .int i1), (3, .int v3_j51), (4, .int v4_j51)]) (st' := []) [(51, .iinc 5 1, 3, .int (1 : Int32)), (54, .goto (-46), 3, .null)] (by decide +kernel) rfl ?_
          cases hm
          refine aw_lv (lv' := [(0, .ref a), (1, .int i0), (2, .int i1), (3, .int v3_j51), (4, .int v4_j51), (5, .int (v5_b8 + (1 : Int32)))]) [1, 2, 3, 4, 5, 0] rfl ?_
          exact ih8 v3_j51 v4_j51 (v5_b8 + (1 : Int32)) H_j51 h0 hs hk8
        have J44 : ∀ (H_j44 : Heap), has_ E H_j44 a ly_A s → sm_ H H_j44 0 0 → fX0_choose_j44 v5_b8 r2 = some y8 → aw E mX0_choose Q 44 [(0, .ref a), (1, .int i0), (2, .int i1), (5, .int v5_b8), (6, .int r2)] [] H_j44 0 0 := by
          intro H_j44 h0 hs hm
          unfold fX0_choose_j44 at hm
          refine aw_b (pc' := 51) (lv' := [(4, .int r2), (3, .int v5_b8), (0, .ref a), (1, .int i0), (2, .int i1), (5, .int v5_b8), (6, .int r2)]) (st' := []) [(44, .iload 5, 2, .null), (46, .istore_n 3, 1, .null), (47, .iload 6, 2, .null), (49, .istore 4, 2, .null)] (by decide +kernel) rfl ?_
          refine aw_lv (lv' := [(0, .ref a), (1, .int i0), (2, .int i1), (3, .int v5_b8), (4, .int r2), (5, .int v5_b8)]) [2, 3, 4, 1, 0, 5] rfl ?_
          exact J51 v5_b8 r2 H_j44 h0 hs hm
        refine aw_ic_eq (off := 10) 44 (by decide) (by decide +kernel) (fun hc => ?_) (fun hc => ?_)
        · have hm := (if_pos hc).symm.trans hm
          refine aw_lv (lv' := [(0, .ref a), (1, .int i0), (2, .int i1), (5, .int v5_b8), (6, .int r2)]) [1, 2, 3, 6, 0] rfl ?_
          exact J44 H4 h0 hs hm
        · have hm := (if_neg hc).symm.trans hm
          refine aw_b (pc' := 41) (lv' := [(6, .int r2), (0, .ref a), (1, .int i0), (2, .int i1), (3, .int v3_b8), (4, .int v4_b8), (5, .int v5_b8)]) (st' := [.int v4_b8, .int r2]) [(37, .iload 6, 2, .null), (39, .iload 4, 2, .null)] (by decide +kernel) rfl ?_
          refine aw_ic_ge (off := 10) 51 (by decide) (by decide +kernel) (fun hc => ?_) (fun hc => ?_)
          · have hm := (if_pos hc).symm.trans hm
            refine aw_lv (lv' := [(0, .ref a), (1, .int i0), (2, .int i1), (3, .int v3_b8), (4, .int v4_b8), (5, .int v5_b8)]) [1, 2, 3, 4, 5, 6] rfl ?_
            exact J51 v3_b8 v4_b8 H4 h0 hs hm
          · have hm := (if_neg hc).symm.trans hm
            refine aw_lv (lv' := [(0, .ref a), (1, .int i0), (2, .int i1), (5, .int v5_b8), (6, .int r2)]) [1, 2, 3, 6, 0] rfl ?_
            exact J44 H4 h0 hs hm
  refine aw_lv (lv' := [(0, .ref a), (1, .int i0), (2, .int i1), (3, .int (-1 : Int32)), (4, .int (0 : Int32)), (5, .int (0 : Int32))]) [3, 4, 5, 2, 1, 0] rfl ?_
  exact L8 FU_ (-1 : Int32) (0 : Int32) (0 : Int32) H h0 hs hx8
def mX0_costBy : mt_ := (yX0_costBy, cX0_costBy, 4, some .int, [], { frames := 2, locals := 51, cells := 0, slots := 0 })
theorem ckX0_costBy : cokV_ mX0_costBy := ⟨⟨(uw_mem 1150 (by decide +kernel) (by decide +kernel)), (uw_mem 34 (by decide +kernel) (by decide +kernel)), by decide +kernel, by decide +kernel⟩, (uw_mem 1148 (by decide +kernel) (by decide +kernel)), (uw_mem 1149 (by decide +kernel) (by decide +kernel))⟩
theorem nkX0_costBy : nok_ mX0_costBy 2 := by decide +kernel
theorem lkX0_60 : Cond.methodLink RX0 60 yX5_kindOf ∈ uw_ := (uw_mem 1112 (by decide +kernel) (by decide +kernel))
theorem lkX0_66 : Cond.methodLink RX0 66 yX5_widthOf ∈ uw_ := (uw_mem 1117 (by decide +kernel) (by decide +kernel))
theorem lkX0_69 : Cond.methodLink RX0 69 yX0_choose ∈ uw_ := (uw_mem 1121 (by decide +kernel) (by decide +kernel))
theorem lkX0_73 : Cond.methodLink RX0 73 yX5_priceOf ∈ uw_ := (uw_mem 1129 (by decide +kernel) (by decide +kernel))
theorem kX0_costBy {E : ev_} {H : Heap} {a b : Nat} {s : st_} {t : st_} {i0 : Int32} {r : Int32} (hm : fX0_costBy s t i0 = some r) (h0 : has_ E H a ly_A s) (h1 : has_ E H b ly_S t) : sp_ E mX0_costBy [.ref a, .ref b, .int i0] H (po1 (.inl (some (.int r))) (fun Hn => sm_ H Hn 0 0)) := by
  refine sp_of (by decide +kernel) rfl rfl ?_
  generalize hQ : po1 _ _ = Q
  have hs : sm_ H H 0 0 := sm_.rfl'
  unfold fX0_costBy at hm
  refine aw_lv (lv' := [(0, .ref a), (1, .ref b), (2, .int i0)]) [0, 1, 2] rfl ?_
  refine aw_b (pc' := 3) (lv' := [(0, .ref a), (1, .ref b), (2, .int i0)]) (st' := [.int i0, .ref b, .ref a]) [(0, .aload_n 0, 1, .null), (1, .aload_n 1, 1, .null), (2, .iload_n 2, 1, .null)] (by decide +kernel) rfl ?_
  obtain ⟨r1, e2, hm⟩ := bn_x hm
  refine aw_cv (rest := [.ref a]) (st1 := [.int r1, .ref a]) b 0 (kX5_kindOf e2 h1) rfl rfl ckX5_kindOf lkX0_60 h1 eo_S_0 ⟨_, _, rfl⟩ nkX5_kindOf rfl rfl rfl (Nat.le_of_ble_eq_true rfl) (Nat.zero_le _) (Nat.zero_le _) (by decide +kernel) (fun H3 z4 => ?_)
  have h0 := h0.kept0 z4
  have h1 := h1.kept0 z4
  have hs := hs.step0 z4
  refine aw_b (pc' := 8) (lv' := [(0, .ref a), (1, .ref b), (2, .int i0)]) (st' := [.int i0, .ref b, .int r1, .ref a]) [(6, .aload_n 1, 1, .null), (7, .iload_n 2, 1, .null)] (by decide +kernel) rfl ?_
  obtain ⟨r5, e6, hm⟩ := bn_x hm
  refine aw_cv (rest := [.int r1, .ref a]) (st1 := [.int r5, .int r1, .ref a]) b 0 (kX5_widthOf e6 h1) rfl rfl ckX5_widthOf lkX0_66 h1 eo_S_0 ⟨_, _, rfl⟩ nkX5_widthOf rfl rfl rfl (Nat.le_of_ble_eq_true rfl) (Nat.zero_le _) (Nat.zero_le _) (by decide +kernel) (fun H7 z8 => ?_)
  have h0 := h0.kept0 z8
  have h1 := h1.kept0 z8
  have hs := hs.step0 z8
  obtain ⟨r9, e10, hm⟩ := bn_x hm
  refine aw_cv (rest := []) (st1 := [.int r9]) a 0 (kX0_choose e10 h0) rfl rfl ckX0_choose lkX0_69 h0 eo_A_0 ⟨_, _, rfl⟩ nkX0_choose rfl rfl rfl (Nat.le_of_ble_eq_true rfl) (Nat.zero_le _) (Nat.zero_le _) (by decide +kernel) (fun H11 z12 => ?_)
  have h0 := h0.kept0 z12
  have h1 := h1.kept0 z12
  have hs := hs.step0 z12
  refine aw_b (pc' := 17) (lv' := [(3, .int r9), (0, .ref a), (1, .ref b), (2, .int i0)]) (st' := [.int (-1 : Int32), .int r9]) [(14, .istore_n 3, 1, .null), (15, .iload_n 3, 1, .null), (16, .iconst (-1), 1, .int (-1 : Int32))] (by decide +kernel) rfl ?_
  refine aw_ic_ne (off := 7) 24 (by decide) (by decide +kernel) (fun hc => ?_) (fun hc => ?_)
  · have hm := (if_neg hc).symm.trans hm
    refine aw_b (pc' := 26) (lv' := [(3, .int r9), (0, .ref a), (1, .ref b), (2, .int i0)]) (st' := [.ref a, .ref b]) [(24, .aload_n 1, 1, .null), (25, .aload_n 0, 1, .null)] (by decide +kernel) rfl ?_
    refine aw_gl (v := .int (s 0 0)) a 0 h0 eo_A_0 fgX0_18 rfl (by decide +kernel) ?_
    refine aw_b (pc' := 30) (lv' := [(3, .int r9), (0, .ref a), (1, .ref b), (2, .int i0)]) (st' := [.ref a, .int (s 0 0), .ref b]) [(29, .aload_n 0, 1, .null)] (by decide +kernel) rfl ?_
    refine aw_gl (v := .ref (a + 1)) a 0 h0 eo_A_0 fgX0_9 rfl (by decide +kernel) ?_
    refine aw_b (pc' := 34) (lv' := [(3, .int r9), (0, .ref a), (1, .ref b), (2, .int i0)]) (st' := [.int r9, .ref (a + 1), .int (s 0 0), .ref b]) [(33, .iload_n 3, 1, .null)] (by decide +kernel) rfl ?_
    obtain ⟨g13, hm⟩ := gd_x hm
    refine aw_ial a 1 h0 rfl g13 (by decide +kernel) ?_
    obtain ⟨r14, e15, hm⟩ := bn_x hm
    refine aw_cv (rest := []) (st1 := [.int r14]) b 0 (kX5_priceOf e15 h1) rfl rfl ckX5_priceOf lkX0_73 h1 eo_S_0 ⟨_, _, rfl⟩ nkX5_priceOf rfl rfl rfl (Nat.le_of_ble_eq_true rfl) (Nat.zero_le _) (Nat.zero_le _) (by decide +kernel) (fun H16 z17 => ?_)
    have h0 := h0.kept0 z17
    have h1 := h1.kept0 z17
    have hs := hs.step0 z17
    obtain rfl := Option.some.inj hm
    subst hQ
    exact aw_iret rfl (Nat.zero_le _) (Nat.zero_le _) (by decide +kernel) ⟨rfl, hs⟩
  · have hm := (if_pos hc).symm.trans hm
    refine aw_b (pc' := 38) (lv' := [(3, .int r9), (0, .ref a), (1, .ref b), (2, .int i0)]) (st' := [.int (0 : Int32)]) [(20, .iconst 0, 1, .int (0 : Int32)), (21, .goto 17, 3, .null)] (by decide +kernel) rfl ?_
    obtain rfl := Option.some.inj hm
    subst hQ
    exact aw_iret rfl (Nat.zero_le _) (Nat.zero_le _) (by decide +kernel) ⟨rfl, hs⟩
def mX0_remove : mt_ := (yX0_remove, cX0_remove, 3, none, [], { frames := 0, locals := 0, cells := 0, slots := 0 })
theorem ckX0_remove : cokV_ mX0_remove := ⟨⟨(uw_mem 1164 (by decide +kernel) (by decide +kernel)), (uw_mem 34 (by decide +kernel) (by decide +kernel)), by decide +kernel, by decide +kernel⟩, (uw_mem 1163 (by decide +kernel) (by decide +kernel)), (uw_mem 20 (by decide +kernel) (by decide +kernel))⟩
theorem nkX0_remove : nok_ mX0_remove 1 := by decide +kernel
theorem kX0_remove {E : ev_} {H : Heap} {a : Nat} {s : st_} {i0 : Int32} {r : st_} (hm : fX0_remove s i0 = some r) (h0 : has_ E H a ly_A s) (hf : ev_fr E a) : sp_ E mX0_remove [.ref a, .int i0] H (po1 (.inl (none)) (fun Hn => sm_ H Hn a 3 ∧ has_ E Hn a ly_A r)) := by
  refine sp_of (by decide +kernel) rfl rfl ?_
  generalize hQ : po1 _ _ = Q
  have hs : sm_ H H a 3 := sm_.rfl'
  unfold fX0_remove at hm
  refine aw_lv (lv' := [(0, .ref a), (1, .int i0)]) [0, 1] rfl ?_
  refine aw_b (pc' := 2) (lv' := [(2, .int i0), (0, .ref a), (1, .int i0)]) (st' := []) [(0, .iload_n 1, 1, .null), (1, .istore_n 2, 1, .null)] (by decide +kernel) rfl ?_
  obtain ⟨x2, hx2, hr2⟩ := bn_x hm
  have X2_46 : ∀ (s_x2_46 : st_) (H_x2_46 : Heap), has_ E H_x2_46 a ly_A s_x2_46 → sm_ H H_x2_46 a 3 → fX0_remove_x2_46 s_x2_46 = some r → aw E mX0_remove Q 46 [(0, .ref a)] [] H_x2_46 0 0 := by
    intro s_x2_46 H_x2_46 h0 hs hm
    unfold fX0_remove_x2_46 at hm
    refine aw_b (pc' := 48) (lv' := [(0, .ref a)]) (st' := [.ref a, .ref a]) [(46, .aload_n 0, 1, .null), (47, .dup, 1, .null)] (by decide +kernel) rfl ?_
    refine aw_gl (v := .int (s_x2_46 0 2)) a 0 h0 eo_A_0 fgX0_26 rfl (by decide +kernel) ?_
    refine aw_b (pc' := 53) (lv' := [(0, .ref a)]) (st' := [.int ((s_x2_46 0 2) - (1 : Int32)), .ref a]) [(51, .iconst 1, 1, .int (1 : Int32)), (52, .isub, 1, .null)] (by decide +kernel) rfl ?_
    obtain ⟨s1, e2, hm⟩ := bd_x hm
    refine aw_pl a 0 h0 eo_A_0 fsq_0_2 fpX0_26 hf rfl rfl e2 (by decide +kernel) (fun H3 h0 z4 => ?_)
    have hs := hs.step z4 (by omega) (by omega)
    obtain rfl := Option.some.inj hm
    subst hQ
    exact aw_vret rfl (Nat.zero_le _) (Nat.zero_le _) (by decide +kernel) ⟨rfl, hs, h0⟩
  have L2 : ∀ (fu : Nat) (v2_b2 : Int32) (s_b2 : st_) (H_b2 : Heap), has_ E H_b2 a ly_A s_b2 → sm_ H H_b2 a 3 → fX0_remove_l2 fu (v2_b2, s_b2) = some x2 → aw E mX0_remove Q 2 [(0, .ref a), (2, .int v2_b2)] [] H_b2 0 0 := by
    intro fu
    induction fu with
    | zero =>
      intro v2_b2 s_b2 H_b2 h0 hs hm
      exact (it_0 hm).elim
    | succ fu ih2 =>
      intro v2_b2 s_b2 H_b2 h0 hs hm
      obtain ⟨y2, hm, hk2⟩ := it_s hm
      have hm : fX0_remove_b2 v2_b2 s_b2 = some y2 := hm
      unfold fX0_remove_b2 at hm
      refine aw_b (pc' := 6) (lv' := [(0, .ref a), (2, .int v2_b2)]) (st' := [.ref a, .int (v2_b2 + (1 : Int32))]) [(2, .iload_n 2, 1, .null), (3, .iconst 1, 1, .int (1 : Int32)), (4, .iadd, 1, .null), (5, .aload_n 0, 1, .null)] (by decide +kernel) rfl ?_
      refine aw_gl (v := .int (s_b2 0 2)) a 0 h0 eo_A_0 fgX0_26 rfl (by decide +kernel) ?_
      refine aw_ic_ge (off := 37) 46 (by decide) (by decide +kernel) (fun hc => ?_) (fun hc => ?_)
      · have hm := (if_pos hc).symm.trans hm
        cases hm
        refine aw_lv (lv' := [(0, .ref a)]) [0] rfl ?_
        exact X2_46 s_b2 H_b2 h0 hs ((congrArg fX0_remove_k2 (show (s_b2) = x2 from hk2)).trans hr2)
      · have hm := (if_neg hc).symm.trans hm
        refine aw_b (pc' := 13) (lv' := [(0, .ref a), (2, .int v2_b2)]) (st' := [.ref a]) [(12, .aload_n 0, 1, .null)] (by decide +kernel) rfl ?_
        refine aw_gl (v := .ref (a + 1)) a 0 h0 eo_A_0 fgX0_9 rfl (by decide +kernel) ?_
        refine aw_b (pc' := 18) (lv' := [(0, .ref a), (2, .int v2_b2)]) (st' := [.ref a, .int v2_b2, .ref (a + 1)]) [(16, .iload_n 2, 1, .null), (17, .aload_n 0, 1, .null)] (by decide +kernel) rfl ?_
        refine aw_gl (v := .ref (a + 1)) a 0 h0 eo_A_0 fgX0_9 rfl (by decide +kernel) ?_
        refine aw_b (pc' := 24) (lv' := [(0, .ref a), (2, .int v2_b2)]) (st' := [.int (v2_b2 + (1 : Int32)), .ref (a + 1), .int v2_b2, .ref (a + 1)]) [(21, .iload_n 2, 1, .null), (22, .iconst 1, 1, .int (1 : Int32)), (23, .iadd, 1, .null)] (by decide +kernel) rfl ?_
        obtain ⟨g5, hm⟩ := gd_x hm
        refine aw_ial a 1 h0 rfl g5 (by decide +kernel) ?_
        obtain ⟨g6, hm⟩ := gd_x hm
        obtain ⟨s7, e8, hm⟩ := bd_x hm
        refine aw_isl a 1 h0 rfl hf g6 e8 (by decide +kernel) (fun H9 h0 z10 => ?_)
        have hs := hs.step z10 (by omega) (by omega)
        refine aw_b (pc' := 27) (lv' := [(0, .ref a), (2, .int v2_b2)]) (st' := [.ref a]) [(26, .aload_n 0, 1, .null)] (by decide +kernel) rfl ?_
        refine aw_gl (v := .ref (a + 2)) a 0 h0 eo_A_0 fgX0_15 rfl (by decide +kernel) ?_
        refine aw_b (pc' := 32) (lv' := [(0, .ref a), (2, .int v2_b2)]) (st' := [.ref a, .int v2_b2, .ref (a + 2)]) [(30, .iload_n 2, 1, .null), (31, .aload_n 0, 1, .null)] (by decide +kernel) rfl ?_
        refine aw_gl (v := .ref (a + 2)) a 0 h0 eo_A_0 fgX0_15 rfl (by decide +kernel) ?_
        refine aw_b (pc' := 38) (lv' := [(0, .ref a), (2, .int v2_b2)]) (st' := [.int (v2_b2 + (1 : Int32)), .ref (a + 2), .int v2_b2, .ref (a + 2)]) [(35, .iload_n 2, 1, .null), (36, .iconst 1, 1, .int (1 : Int32)), (37, .iadd, 1, .null)] (by decide +kernel) rfl ?_
        obtain ⟨g11, hm⟩ := gd_x hm
        refine aw_ial a 2 h0 rfl g11 (by decide +kernel) ?_
        obtain ⟨g12, hm⟩ := gd_x hm
        obtain ⟨s13, e14, hm⟩ := bd_x hm
        refine aw_isl a 2 h0 rfl hf g12 e14 (by decide +kernel) (fun H15 h0 z16 => ?_)
        have hs := hs.step z16 (by omega) (by omega)
        refine aw_b (pc' := 2) (lv' := [(2, .int (v2_b2 + (1 : Int32))), (0, .ref a)]) (st' := []) [(40, .iinc 2 1, 3, .int (1 : Int32)), (43, .goto (-41), 3, .null)] (by decide +kernel) rfl ?_
        cases hm
        refine aw_lv (lv' := [(0, .ref a), (2, .int (v2_b2 + (1 : Int32)))]) [1, 0] rfl ?_
        exact ih2 (v2_b2 + (1 : Int32)) s13 H15 h0 hs hk2
  refine aw_lv (lv' := [(0, .ref a), (2, .int i0)]) [1, 0] rfl ?_
  exact L2 FU_ i0 s H h0 hs hx2
def mX0_serve : mt_ := (yX0_serve, cX0_serve, 7, none, [], { frames := 2, locals := 51, cells := 0, slots := 0 })
theorem ckX0_serve : cokV_ mX0_serve := ⟨⟨(uw_mem 1158 (by decide +kernel) (by decide +kernel)), (uw_mem 34 (by decide +kernel) (by decide +kernel)), by decide +kernel, by decide +kernel⟩, (uw_mem 1156 (by decide +kernel) (by decide +kernel)), (uw_mem 1157 (by decide +kernel) (by decide +kernel))⟩
theorem nkX0_serve : nok_ mX0_serve 3 := by decide +kernel
theorem mtX0_76 : ml_ RX0 76 Lib.Math.abs.name Lib.Math.abs.code 1 .int := ⟨(uw_mem 1159 (by decide +kernel) (by decide +kernel)), (uw_mem 565 (by decide +kernel) (by decide +kernel)), (uw_mem 38 (by decide +kernel) (by decide +kernel)), (uw_mem 566 (by decide +kernel) (by decide +kernel))⟩
theorem mtX0_81 : ml_ RX0 81 Lib.Math.max.name Lib.Math.max.code 2 .int := ⟨(uw_mem 1160 (by decide +kernel) (by decide +kernel)), (uw_mem 768 (by decide +kernel) (by decide +kernel)), (uw_mem 38 (by decide +kernel) (by decide +kernel)), (uw_mem 769 (by decide +kernel) (by decide +kernel))⟩
theorem lkX0_84 : Cond.methodLink RX0 84 yX0_remove ∈ uw_ := (uw_mem 1161 (by decide +kernel) (by decide +kernel))
theorem kX0_serve {E : ev_} {H : Heap} {a b : Nat} {s : st_} {t : st_} {i0 : Int32} {i1 : Int32} {r : st_} (hm : fX0_serve s t i0 i1 = some r) (h0 : has_ E H a ly_A s) (h1 : has_ E H b ly_S t) (hf : ev_fr E a) (d1 : a + 3 ≤ b ∨ b + 4 ≤ a) : sp_ E mX0_serve [.ref a, .ref b, .int i0, .int i1] H (po1 (.inl (none)) (fun Hn => sm_ H Hn a 3 ∧ has_ E Hn a ly_A r)) := by
  refine sp_of (by decide +kernel) rfl rfl ?_
  generalize hQ : po1 _ _ = Q
  have hs : sm_ H H a 3 := sm_.rfl'
  unfold fX0_serve at hm
  refine aw_lv (lv' := [(0, .ref a), (1, .ref b), (2, .int i0), (3, .int i1)]) [0, 1, 2, 3] rfl ?_
  refine aw_b (pc' := 2) (lv' := [(0, .ref a), (1, .ref b), (2, .int i0), (3, .int i1)]) (st' := [.int i0, .ref b]) [(0, .aload_n 1, 1, .null), (1, .iload_n 2, 1, .null)] (by decide +kernel) rfl ?_
  obtain ⟨r1, e2, hm⟩ := bn_x hm
  refine aw_cv (rest := []) (st1 := [.int r1]) b 0 (kX5_kindOf e2 h1) rfl rfl ckX5_kindOf lkX0_60 h1 eo_S_0 ⟨_, _, rfl⟩ nkX5_kindOf rfl rfl rfl (Nat.le_of_ble_eq_true rfl) (Nat.zero_le _) (Nat.zero_le _) (by decide +kernel) (fun H3 z4 => ?_)
  have h0 := h0.kept0 z4
  have h1 := h1.kept0 z4
  have hs := hs.step0 z4
  refine aw_b (pc' := 9) (lv' := [(4, .int r1), (0, .ref a), (1, .ref b), (2, .int i0), (3, .int i1)]) (st' := [.int i0, .ref b]) [(5, .istore 4, 2, .null), (7, .aload_n 1, 1, .null), (8, .iload_n 2, 1, .null)] (by decide +kernel) rfl ?_
  obtain ⟨r5, e6, hm⟩ := bn_x hm
  refine aw_cv (rest := []) (st1 := [.int r5]) b 0 (kX5_widthOf e6 h1) rfl rfl ckX5_widthOf lkX0_66 h1 eo_S_0 ⟨_, _, rfl⟩ nkX5_widthOf rfl rfl rfl (Nat.le_of_ble_eq_true rfl) (Nat.zero_le _) (Nat.zero_le _) (by decide +kernel) (fun H7 z8 => ?_)
  have h0 := h0.kept0 z8
  have h1 := h1.kept0 z8
  have hs := hs.step0 z8
  refine aw_b (pc' := 19) (lv' := [(5, .int r5), (4, .int r1), (0, .ref a), (1, .ref b), (2, .int i0), (3, .int i1)]) (st' := [.int r5, .int r1, .ref a]) [(12, .istore 5, 2, .null), (14, .aload_n 0, 1, .null), (15, .iload 4, 2, .null), (17, .iload 5, 2, .null)] (by decide +kernel) rfl ?_
  obtain ⟨r9, e10, hm⟩ := bn_x hm
  refine aw_cv (rest := []) (st1 := [.int r9]) a 0 (kX0_choose e10 h0) rfl rfl ckX0_choose lkX0_69 h0 eo_A_0 ⟨_, _, rfl⟩ nkX0_choose rfl rfl rfl (Nat.le_of_ble_eq_true rfl) (Nat.zero_le _) (Nat.zero_le _) (by decide +kernel) (fun H11 z12 => ?_)
  have h0 := h0.kept0 z12
  have h1 := h1.kept0 z12
  have hs := hs.step0 z12
  refine aw_b (pc' := 26) (lv' := [(6, .int r9), (5, .int r5), (4, .int r1), (0, .ref a), (1, .ref b), (2, .int i0), (3, .int i1)]) (st' := [.int (0 : Int32), .ref a]) [(22, .istore 6, 2, .null), (24, .aload_n 0, 1, .null), (25, .iconst 0, 1, .int (0 : Int32))] (by decide +kernel) rfl ?_
  obtain ⟨s13, e14, hm⟩ := bd_x hm
  refine aw_pl a 0 h0 eo_A_0 fsq_0_9 fpX0_41 hf rfl rfl e14 (by decide +kernel) (fun H15 h0 z16 => ?_)
  have h1 := h1.kept (n := 4) z16 rfl (by omega)
  have hs := hs.step z16 (by omega) (by omega)
  refine aw_b (pc' := 31) (lv' := [(6, .int r9), (5, .int r5), (4, .int r1), (0, .ref a), (1, .ref b), (2, .int i0), (3, .int i1)]) (st' := [.int (-1 : Int32), .ref a]) [(29, .aload_n 0, 1, .null), (30, .iconst (-1), 1, .int (-1 : Int32))] (by decide +kernel) rfl ?_
  obtain ⟨s17, e18, hm⟩ := bd_x hm
  refine aw_pl a 0 h0 eo_A_0 fsq_0_10 fpX0_44 hf rfl rfl e18 (by decide +kernel) (fun H19 h0 z20 => ?_)
  have h1 := h1.kept (n := 4) z20 rfl (by omega)
  have hs := hs.step z20 (by omega) (by omega)
  refine aw_b (pc' := 36) (lv' := [(6, .int r9), (5, .int r5), (4, .int r1), (0, .ref a), (1, .ref b), (2, .int i0), (3, .int i1)]) (st' := [.int (-1 : Int32), .ref a]) [(34, .aload_n 0, 1, .null), (35, .iconst (-1), 1, .int (-1 : Int32))] (by decide +kernel) rfl ?_
  obtain ⟨s21, e22, hm⟩ := bd_x hm
  refine aw_pl a 0 h0 eo_A_0 fsq_0_11 fpX0_47 hf rfl rfl e22 (by decide +kernel) (fun H23 h0 z24 => ?_)
  have h1 := h1.kept (n := 4) z24 rfl (by omega)
  have hs := hs.step z24 (by omega) (by omega)
  refine aw_b (pc' := 42) (lv' := [(6, .int r9), (5, .int r5), (4, .int r1), (0, .ref a), (1, .ref b), (2, .int i0), (3, .int i1)]) (st' := [.int (-1 : Int32), .int r9]) [(39, .iload 6, 2, .null), (41, .iconst (-1), 1, .int (-1 : Int32))] (by decide +kernel) rfl ?_
  refine aw_ic_ne (off := 4) 46 (by decide) (by decide +kernel) (fun hc => ?_) (fun hc => ?_)
  · have hm := (if_neg hc).symm.trans hm
    refine aw_b (pc' := 48) (lv' := [(6, .int r9), (5, .int r5), (4, .int r1), (0, .ref a), (1, .ref b), (2, .int i0), (3, .int i1)]) (st' := [.ref a, .ref a]) [(46, .aload_n 0, 1, .null), (47, .aload_n 0, 1, .null)] (by decide +kernel) rfl ?_
    refine aw_gl (v := .ref (a + 1)) a 0 h0 eo_A_0 fgX0_9 rfl (by decide +kernel) ?_
    refine aw_b (pc' := 53) (lv' := [(6, .int r9), (5, .int r5), (4, .int r1), (0, .ref a), (1, .ref b), (2, .int i0), (3, .int i1)]) (st' := [.int r9, .ref (a + 1), .ref a]) [(51, .iload 6, 2, .null)] (by decide +kernel) rfl ?_
    obtain ⟨g25, hm⟩ := gd_x hm
    refine aw_ial a 1 h0 rfl g25 (by decide +kernel) ?_
    obtain ⟨s26, e27, hm⟩ := bd_x hm
    refine aw_pl a 0 h0 eo_A_0 fsq_0_10 fpX0_44 hf rfl rfl e27 (by decide +kernel) (fun H28 h0 z29 => ?_)
    have h1 := h1.kept (n := 4) z29 rfl (by omega)
    have hs := hs.step z29 (by omega) (by omega)
    refine aw_b (pc' := 59) (lv' := [(6, .int r9), (5, .int r5), (4, .int r1), (0, .ref a), (1, .ref b), (2, .int i0), (3, .int i1)]) (st' := [.ref a, .ref a]) [(57, .aload_n 0, 1, .null), (58, .aload_n 0, 1, .null)] (by decide +kernel) rfl ?_
    refine aw_gl (v := .ref (a + 2)) a 0 h0 eo_A_0 fgX0_15 rfl (by decide +kernel) ?_
    refine aw_b (pc' := 64) (lv' := [(6, .int r9), (5, .int r5), (4, .int r1), (0, .ref a), (1, .ref b), (2, .int i0), (3, .int i1)]) (st' := [.int r9, .ref (a + 2), .ref a]) [(62, .iload 6, 2, .null)] (by decide +kernel) rfl ?_
    obtain ⟨g30, hm⟩ := gd_x hm
    refine aw_ial a 2 h0 rfl g30 (by decide +kernel) ?_
    obtain ⟨s31, e32, hm⟩ := bd_x hm
    refine aw_pl a 0 h0 eo_A_0 fsq_0_11 fpX0_47 hf rfl rfl e32 (by decide +kernel) (fun H33 h0 z34 => ?_)
    have h1 := h1.kept (n := 4) z34 rfl (by omega)
    have hs := hs.step z34 (by omega) (by omega)
    refine aw_b (pc' := 71) (lv' := [(6, .int r9), (5, .int r5), (4, .int r1), (0, .ref a), (1, .ref b), (2, .int i0), (3, .int i1)]) (st' := [.int (2 : Int32), .int r1]) [(68, .iload 4, 2, .null), (70, .iconst 2, 1, .int (2 : Int32))] (by decide +kernel) rfl ?_
    have J108 : ∀ (s_j108 : st_) (H_j108 : Heap), has_ E H_j108 a ly_A s_j108 → has_ E H_j108 b ly_S t → sm_ H H_j108 a 3 → fX0_serve_j108 t i1 r9 s_j108 = some r → aw E mX0_serve Q 108 [(0, .ref a), (1, .ref b), (3, .int i1), (6, .int r9)] [] H_j108 0 0 := by
      intro s_j108 H_j108 h0 h1 hs hm
      unfold fX0_serve_j108 at hm
      refine aw_b (pc' := 111) (lv' := [(0, .ref a), (1, .ref b), (3, .int i1), (6, .int r9)]) (st' := [.ref a, .ref b, .ref a]) [(108, .aload_n 0, 1, .null), (109, .aload_n 1, 1, .null), (110, .aload_n 0, 1, .null)] (by decide +kernel) rfl ?_
      refine aw_gl (v := .int (s_j108 0 0)) a 0 h0 eo_A_0 fgX0_18 rfl (by decide +kernel) ?_
      refine aw_b (pc' := 115) (lv' := [(0, .ref a), (1, .ref b), (3, .int i1), (6, .int r9)]) (st' := [.ref a, .int (s_j108 0 0), .ref b, .ref a]) [(114, .aload_n 0, 1, .null)] (by decide +kernel) rfl ?_
      refine aw_gl (v := .int (s_j108 0 10)) a 0 h0 eo_A_0 fgX0_44 rfl (by decide +kernel) ?_
      obtain ⟨r35, e36, hm⟩ := bn_x hm
      refine aw_cv (rest := [.ref a]) (st1 := [.int r35, .ref a]) b 0 (kX5_priceOf e36 h1) rfl rfl ckX5_priceOf lkX0_73 h1 eo_S_0 ⟨_, _, rfl⟩ nkX5_priceOf rfl rfl rfl (Nat.le_of_ble_eq_true rfl) (Nat.zero_le _) (Nat.zero_le _) (by decide +kernel) (fun H37 z38 => ?_)
      have h0 := h0.kept0 z38
      have h1 := h1.kept0 z38
      have hs := hs.step0 z38
      obtain ⟨s39, e40, hm⟩ := bd_x hm
      refine aw_pl a 0 h0 eo_A_0 fsq_0_9 fpX0_41 hf rfl rfl e40 (by decide +kernel) (fun H41 h0 z42 => ?_)
      have h1 := h1.kept (n := 4) z42 rfl (by omega)
      have hs := hs.step z42 (by omega) (by omega)
      refine aw_b (pc' := 126) (lv' := [(0, .ref a), (1, .ref b), (3, .int i1), (6, .int r9)]) (st' := [.ref a, .ref a]) [(124, .aload_n 0, 1, .null), (125, .dup, 1, .null)] (by decide +kernel) rfl ?_
      refine aw_gl (v := .int (s39 0 5)) a 0 h0 eo_A_0 fgX0_29 rfl (by decide +kernel) ?_
      refine aw_b (pc' := 130) (lv' := [(0, .ref a), (1, .ref b), (3, .int i1), (6, .int r9)]) (st' := [.ref a, .int (s39 0 5), .ref a]) [(129, .aload_n 0, 1, .null)] (by decide +kernel) rfl ?_
      refine aw_gl (v := .int (s39 0 9)) a 0 h0 eo_A_0 fgX0_41 rfl (by decide +kernel) ?_
      refine aw_b (pc' := 134) (lv' := [(0, .ref a), (1, .ref b), (3, .int i1), (6, .int r9)]) (st' := [.int ((s39 0 5) + (s39 0 9)), .ref a]) [(133, .iadd, 1, .null)] (by decide +kernel) rfl ?_
      obtain ⟨s43, e44, hm⟩ := bd_x hm
      refine aw_pl a 0 h0 eo_A_0 fsq_0_5 fpX0_29 hf rfl rfl e44 (by decide +kernel) (fun H45 h0 z46 => ?_)
      have h1 := h1.kept (n := 4) z46 rfl (by omega)
      have hs := hs.step z46 (by omega) (by omega)
      refine aw_b (pc' := 139) (lv' := [(0, .ref a), (1, .ref b), (3, .int i1), (6, .int r9)]) (st' := [.ref a, .ref a]) [(137, .aload_n 0, 1, .null), (138, .dup, 1, .null)] (by decide +kernel) rfl ?_
      refine aw_gl (v := .int (s43 0 6)) a 0 h0 eo_A_0 fgX0_32 rfl (by decide +kernel) ?_
      refine aw_b (pc' := 143) (lv' := [(0, .ref a), (1, .ref b), (3, .int i1), (6, .int r9)]) (st' := [.ref a, .int (s43 0 6), .ref a]) [(142, .aload_n 0, 1, .null)] (by decide +kernel) rfl ?_
      refine aw_gl (v := .int (s43 0 10)) a 0 h0 eo_A_0 fgX0_44 rfl (by decide +kernel) ?_
      refine aw_b (pc' := 147) (lv' := [(0, .ref a), (1, .ref b), (3, .int i1), (6, .int r9)]) (st' := [.ref a, .int (s43 0 10), .int (s43 0 6), .ref a]) [(146, .aload_n 0, 1, .null)] (by decide +kernel) rfl ?_
      refine aw_gl (v := .int (s43 0 0)) a 0 h0 eo_A_0 fgX0_18 rfl (by decide +kernel) ?_
      refine aw_b (pc' := 151) (lv' := [(0, .ref a), (1, .ref b), (3, .int i1), (6, .int r9)]) (st' := [.int ((s43 0 10) - (s43 0 0)), .int (s43 0 6), .ref a]) [(150, .isub, 1, .null)] (by decide +kernel) rfl ?_
      refine aw_mab (rest := [.int (s43 0 6), .ref a]) mtX0_76 rfl (Nat.le_of_ble_eq_true rfl) (Nat.zero_le _) (Nat.zero_le _) (by decide +kernel) ?_
      refine aw_b (pc' := 155) (lv' := [(0, .ref a), (1, .ref b), (3, .int i1), (6, .int r9)]) (st' := [.int ((s43 0 6) + (if (0 : Int32) ≤ ((s43 0 10) - (s43 0 0)) then ((s43 0 10) - (s43 0 0)) else (0 : Int32) - ((s43 0 10) - (s43 0 0)))), .ref a]) [(154, .iadd, 1, .null)] (by decide +kernel) rfl ?_
      obtain ⟨s47, e48, hm⟩ := bd_x hm
      refine aw_pl a 0 h0 eo_A_0 fsq_0_6 fpX0_32 hf rfl rfl e48 (by decide +kernel) (fun H49 h0 z50 => ?_)
      have h1 := h1.kept (n := 4) z50 rfl (by omega)
      have hs := hs.step z50 (by omega) (by omega)
      refine aw_b (pc' := 160) (lv' := [(0, .ref a), (1, .ref b), (3, .int i1), (6, .int r9)]) (st' := [.ref a, .ref a]) [(158, .aload_n 0, 1, .null), (159, .aload_n 0, 1, .null)] (by decide +kernel) rfl ?_
      refine aw_gl (v := .int (s47 0 7)) a 0 h0 eo_A_0 fgX0_35 rfl (by decide +kernel) ?_
      refine aw_b (pc' := 165) (lv' := [(0, .ref a), (1, .ref b), (3, .int i1), (6, .int r9)]) (st' := [.ref a, .int i1, .int (s47 0 7), .ref a]) [(163, .iload_n 3, 1, .null), (164, .aload_n 0, 1, .null)] (by decide +kernel) rfl ?_
      refine aw_gl (v := .int (s47 0 11)) a 0 h0 eo_A_0 fgX0_47 rfl (by decide +kernel) ?_
      refine aw_b (pc' := 169) (lv' := [(0, .ref a), (1, .ref b), (3, .int i1), (6, .int r9)]) (st' := [.int (i1 - (s47 0 11)), .int (s47 0 7), .ref a]) [(168, .isub, 1, .null)] (by decide +kernel) rfl ?_
      refine aw_mx (rest := [.ref a]) mtX0_81 rfl (Nat.le_of_ble_eq_true rfl) (Nat.zero_le _) (Nat.zero_le _) (by decide +kernel) ?_
      obtain ⟨s51, e52, hm⟩ := bd_x hm
      refine aw_pl a 0 h0 eo_A_0 fsq_0_7 fpX0_35 hf rfl rfl e52 (by decide +kernel) (fun H53 h0 z54 => ?_)
      have h1 := h1.kept (n := 4) z54 rfl (by omega)
      have hs := hs.step z54 (by omega) (by omega)
      refine aw_b (pc' := 177) (lv' := [(0, .ref a), (1, .ref b), (3, .int i1), (6, .int r9)]) (st' := [.ref a, .ref a]) [(175, .aload_n 0, 1, .null), (176, .dup, 1, .null)] (by decide +kernel) rfl ?_
      refine aw_gl (v := .int (s51 0 8)) a 0 h0 eo_A_0 fgX0_38 rfl (by decide +kernel) ?_
      refine aw_b (pc' := 182) (lv' := [(0, .ref a), (1, .ref b), (3, .int i1), (6, .int r9)]) (st' := [.int ((s51 0 8) + (1 : Int32)), .ref a]) [(180, .iconst 1, 1, .int (1 : Int32)), (181, .iadd, 1, .null)] (by decide +kernel) rfl ?_
      obtain ⟨s55, e56, hm⟩ := bd_x hm
      refine aw_pl a 0 h0 eo_A_0 fsq_0_8 fpX0_38 hf rfl rfl e56 (by decide +kernel) (fun H57 h0 z58 => ?_)
      have h1 := h1.kept (n := 4) z58 rfl (by omega)
      have hs := hs.step z58 (by omega) (by omega)
      refine aw_b (pc' := 187) (lv' := [(0, .ref a), (1, .ref b), (3, .int i1), (6, .int r9)]) (st' := [.ref a, .ref a]) [(185, .aload_n 0, 1, .null), (186, .aload_n 0, 1, .null)] (by decide +kernel) rfl ?_
      refine aw_gl (v := .int (s55 0 10)) a 0 h0 eo_A_0 fgX0_44 rfl (by decide +kernel) ?_
      obtain ⟨s59, e60, hm⟩ := bd_x hm
      refine aw_pl a 0 h0 eo_A_0 fsq_0_0 fpX0_18 hf rfl rfl e60 (by decide +kernel) (fun H61 h0 z62 => ?_)
      have h1 := h1.kept (n := 4) z62 rfl (by omega)
      have hs := hs.step z62 (by omega) (by omega)
      refine aw_b (pc' := 196) (lv' := [(0, .ref a), (1, .ref b), (3, .int i1), (6, .int r9)]) (st' := [.int r9, .ref a]) [(193, .aload_n 0, 1, .null), (194, .iload 6, 2, .null)] (by decide +kernel) rfl ?_
      obtain ⟨r63, e64, hm⟩ := bn_x hm
      refine aw_cv (rest := []) (st1 := []) a 0 (kX0_remove e64 h0 hf) rfl rfl ckX0_remove lkX0_84 h0 eo_A_0 ⟨_, _, rfl⟩ nkX0_remove rfl rfl rfl (Nat.le_of_ble_eq_true rfl) (Nat.zero_le _) (Nat.zero_le _) (by decide +kernel) (fun H65 z66 => ?_)
      obtain ⟨z66, hn⟩ := z66
      have h0 := hn
      have h1 := h1.kept (n := 4) z66 rfl (by omega)
      have hs := hs.step z66 (by omega) (by omega)
      obtain rfl := Option.some.inj hm
      subst hQ
      exact aw_vret rfl (Nat.zero_le _) (Nat.zero_le _) (by decide +kernel) ⟨rfl, hs, h0⟩
    refine aw_ic_ne (off := 37) 108 (by decide) (by decide +kernel) (fun hc => ?_) (fun hc => ?_)
    · have hm := (if_neg hc).symm.trans hm
      refine aw_lv (lv' := [(0, .ref a), (1, .ref b), (3, .int i1), (6, .int r9)]) [3, 4, 6, 0] rfl ?_
      exact J108 s31 H33 h0 h1 hs hm
    · have hm := (if_pos hc).symm.trans hm
      refine aw_b (pc' := 80) (lv' := [(6, .int r9), (5, .int r5), (4, .int r1), (0, .ref a), (1, .ref b), (2, .int i0), (3, .int i1)]) (st' := [.ref a, .int r5, .int r1, .ref a]) [(74, .aload_n 0, 1, .null), (75, .iload 4, 2, .null), (77, .iload 5, 2, .null), (79, .aload_n 0, 1, .null)] (by decide +kernel) rfl ?_
      refine aw_gl (v := .int (s31 0 10)) a 0 h0 eo_A_0 fgX0_44 rfl (by decide +kernel) ?_
      obtain ⟨r67, e68, hm⟩ := bn_x hm
      refine aw_cv (rest := []) (st1 := [.int r67]) a 0 (kX0_rankOf e68 h0) rfl rfl ckX0_rankOf lkX0_56 h0 eo_A_0 ⟨_, _, rfl⟩ nkX0_rankOf rfl rfl rfl (Nat.le_of_ble_eq_true rfl) (Nat.zero_le _) (Nat.zero_le _) (by decide +kernel) (fun H69 z70 => ?_)
      have h0 := h0.kept0 z70
      have h1 := h1.kept0 z70
      have hs := hs.step0 z70
      refine aw_b (pc' := 89) (lv' := [(6, .int r9), (5, .int r5), (4, .int r1), (0, .ref a), (1, .ref b), (2, .int i0), (3, .int i1)]) (st' := [.int (1000 : Int32), .int r67]) [(86, .sipush 1000, 3, .int (1000 : Int32))] (by decide +kernel) rfl ?_
      refine aw_ic_lt (off := 19) 108 (by decide) (by decide +kernel) (fun hc => ?_) (fun hc => ?_)
      · have hm := (if_pos hc).symm.trans hm
        refine aw_lv (lv' := [(0, .ref a), (1, .ref b), (3, .int i1), (6, .int r9)]) [3, 4, 6, 0] rfl ?_
        exact J108 s31 H69 h0 h1 hs hm
      · have hm := (if_neg hc).symm.trans hm
        refine aw_b (pc' := 94) (lv' := [(6, .int r9), (5, .int r5), (4, .int r1), (0, .ref a), (1, .ref b), (2, .int i0), (3, .int i1)]) (st' := [.ref a, .ref a]) [(92, .aload_n 0, 1, .null), (93, .aload_n 0, 1, .null)] (by decide +kernel) rfl ?_
        refine aw_gl (v := .int (s31 0 1)) a 0 h0 eo_A_0 fgX0_22 rfl (by decide +kernel) ?_
        have J105 : ∀ (z1_j105 : Int32) (H_j105 : Heap), has_ E H_j105 a ly_A s31 → has_ E H_j105 b ly_S t → sm_ H H_j105 a 3 → fX0_serve_j105 t i1 r9 s31 z1_j105 = some r → aw E mX0_serve Q 105 [(0, .ref a), (1, .ref b), (3, .int i1), (6, .int r9)] [.int z1_j105, .ref a] H_j105 0 0 := by
          intro z1_j105 H_j105 h0 h1 hs hm
          unfold fX0_serve_j105 at hm
          obtain ⟨g74, hm⟩ := gd_x hm
          obtain ⟨s71, e72, hm⟩ := bd_x hm
          refine aw_pl a 0 h0 eo_A_0 fsq_0_1 fpX0_22 hf (bz_n g74) (bz_f g74) e72 (by decide +kernel) (fun H73 h0 z75 => ?_)
          have h1 := h1.kept (n := 4) z75 rfl (by omega)
          have hs := hs.step z75 (by omega) (by omega)
          exact J108 s71 H73 h0 h1 hs hm
        refine aw_if_ne (off := 7) 104 (by decide) (by decide +kernel) (fun hc => ?_) (fun hc => ?_)
        · have hm := (if_neg hc).symm.trans hm
          refine aw_b (pc' := 105) (lv' := [(6, .int r9), (5, .int r5), (4, .int r1), (0, .ref a), (1, .ref b), (2, .int i0), (3, .int i1)]) (st' := [.int (0 : Int32), .ref a]) [(104, .iconst 0, 1, .int (0 : Int32))] (by decide +kernel) rfl ?_
          refine aw_lv (lv' := [(0, .ref a), (1, .ref b), (3, .int i1), (6, .int r9)]) [3, 4, 6, 0] rfl ?_
          exact J105 (0 : Int32) H69 h0 h1 hs hm
        · have hm := (if_pos hc).symm.trans hm
          refine aw_b (pc' := 105) (lv' := [(6, .int r9), (5, .int r5), (4, .int r1), (0, .ref a), (1, .ref b), (2, .int i0), (3, .int i1)]) (st' := [.int (1 : Int32), .ref a]) [(100, .iconst 1, 1, .int (1 : Int32)), (101, .goto 4, 3, .null)] (by decide +kernel) rfl ?_
          refine aw_lv (lv' := [(0, .ref a), (1, .ref b), (3, .int i1), (6, .int r9)]) [3, 4, 6, 0] rfl ?_
          exact J105 (1 : Int32) H69 h0 h1 hs hm
  · have hm := (if_pos hc).symm.trans hm
    obtain rfl := Option.some.inj hm
    subst hQ
    exact aw_vret rfl (Nat.zero_le _) (Nat.zero_le _) (by decide +kernel) ⟨rfl, hs, h0⟩
def mX0_foresee : mt_ := (yX0_foresee, cX0_foresee, 11, none, [], { frames := 2, locals := 51, cells := 0, slots := 0 })
theorem ckX0_foresee : cokV_ mX0_foresee := ⟨⟨(uw_mem 1111 (by decide +kernel) (by decide +kernel)), (uw_mem 34 (by decide +kernel) (by decide +kernel)), by decide +kernel, by decide +kernel⟩, (uw_mem 1109 (by decide +kernel) (by decide +kernel)), (uw_mem 1110 (by decide +kernel) (by decide +kernel))⟩
theorem nkX0_foresee : nok_ mX0_foresee 3 := by decide +kernel
theorem fgX0_88 : fok_ RX0 88 5 0 := ⟨_, _, _, rfl, by decide, (uw_mem 77 (by decide +kernel) (by decide +kernel)), wkX5⟩
theorem kX0_foresee {E : ev_} {H : Heap} {a b c : Nat} {s : st_} {t : st_} {u : st_} {i0 : Int32} {r : st_} (hm : fX0_foresee s t u i0 = some r) (h0 : has_ E H a ly_A s) (h1 : has_ E H b ly_S t) (h2 : has_ E H c ly_I100 u) (hf : ev_fr E c) (d0 : c + 1 ≤ a ∨ a + 3 ≤ c) (d1 : c + 1 ≤ b ∨ b + 4 ≤ c) : sp_ E mX0_foresee [.ref a, .ref b, .int i0, .ref c] H (po1 (.inl (none)) (fun Hn => sm_ H Hn c 1 ∧ has_ E Hn c ly_I100 r)) := by
  refine sp_of (by decide +kernel) rfl rfl ?_
  generalize hQ : po1 _ _ = Q
  have hs : sm_ H H c 1 := sm_.rfl'
  unfold fX0_foresee at hm
  refine aw_lv (lv' := [(0, .ref a), (1, .ref b), (2, .int i0), (3, .ref c)]) [0, 1, 2, 3] rfl ?_
  refine aw_b (pc' := 2) (lv' := [(0, .ref a), (1, .ref b), (2, .int i0), (3, .ref c)]) (st' := [.int i0, .ref b]) [(0, .aload_n 1, 1, .null), (1, .iload_n 2, 1, .null)] (by decide +kernel) rfl ?_
  obtain ⟨r1, e2, hm⟩ := bn_x hm
  refine aw_cv (rest := []) (st1 := [.int r1]) b 0 (kX5_kindOf e2 h1) rfl rfl ckX5_kindOf lkX0_60 h1 eo_S_0 ⟨_, _, rfl⟩ nkX5_kindOf rfl rfl rfl (Nat.le_of_ble_eq_true rfl) (Nat.zero_le _) (Nat.zero_le _) (by decide +kernel) (fun H3 z4 => ?_)
  have h0 := h0.kept0 z4
  have h1 := h1.kept0 z4
  have h2 := h2.kept0 z4
  have hs := hs.step0 z4
  refine aw_b (pc' := 9) (lv' := [(4, .int r1), (0, .ref a), (1, .ref b), (2, .int i0), (3, .ref c)]) (st' := [.int i0, .ref b]) [(5, .istore 4, 2, .null), (7, .aload_n 1, 1, .null), (8, .iload_n 2, 1, .null)] (by decide +kernel) rfl ?_
  obtain ⟨r5, e6, hm⟩ := bn_x hm
  refine aw_cv (rest := []) (st1 := [.int r5]) b 0 (kX5_widthOf e6 h1) rfl rfl ckX5_widthOf lkX0_66 h1 eo_S_0 ⟨_, _, rfl⟩ nkX5_widthOf rfl rfl rfl (Nat.le_of_ble_eq_true rfl) (Nat.zero_le _) (Nat.zero_le _) (by decide +kernel) (fun H7 z8 => ?_)
  have h0 := h0.kept0 z8
  have h1 := h1.kept0 z8
  have h2 := h2.kept0 z8
  have hs := hs.step0 z8
  refine aw_b (pc' := 19) (lv' := [(5, .int r5), (4, .int r1), (0, .ref a), (1, .ref b), (2, .int i0), (3, .ref c)]) (st' := [.int r5, .int r1, .ref a]) [(12, .istore 5, 2, .null), (14, .aload_n 0, 1, .null), (15, .iload 4, 2, .null), (17, .iload 5, 2, .null)] (by decide +kernel) rfl ?_
  obtain ⟨r9, e10, hm⟩ := bn_x hm
  refine aw_cv (rest := []) (st1 := [.int r9]) a 0 (kX0_choose e10 h0) rfl rfl ckX0_choose lkX0_69 h0 eo_A_0 ⟨_, _, rfl⟩ nkX0_choose rfl rfl rfl (Nat.le_of_ble_eq_true rfl) (Nat.zero_le _) (Nat.zero_le _) (by decide +kernel) (fun H11 z12 => ?_)
  have h0 := h0.kept0 z12
  have h1 := h1.kept0 z12
  have h2 := h2.kept0 z12
  have hs := hs.step0 z12
  refine aw_b (pc' := 27) (lv' := [(6, .int r9), (5, .int r5), (4, .int r1), (0, .ref a), (1, .ref b), (2, .int i0), (3, .ref c)]) (st' := [.int (-1 : Int32), .int r9]) [(22, .istore 6, 2, .null), (24, .iload 6, 2, .null), (26, .iconst (-1), 1, .int (-1 : Int32))] (by decide +kernel) rfl ?_
  have J51 : ∀ (z0_j51 : Int32) (H_j51 : Heap), has_ E H_j51 a ly_A s → has_ E H_j51 b ly_S t → has_ E H_j51 c ly_I100 u → sm_ H H_j51 c 1 → fX0_foresee_j51 s t u r1 r5 r9 z0_j51 = some r → aw E mX0_foresee Q 51 [(0, .ref a), (1, .ref b), (3, .ref c), (4, .int r1), (5, .int r5), (6, .int r9)] [.int z0_j51] H_j51 0 0 := by
    intro z0_j51 H_j51 h0 h1 h2 hs hm
    unfold fX0_foresee_j51 at hm
    refine aw_b (pc' := 56) (lv' := [(7, .int z0_j51), (0, .ref a), (1, .ref b), (3, .ref c), (4, .int r1), (5, .int r5), (6, .int r9)]) (st' := [.int (-1 : Int32), .int r9]) [(51, .istore 7, 2, .null), (53, .iload 6, 2, .null), (55, .iconst (-1), 1, .int (-1 : Int32))] (by decide +kernel) rfl ?_
    have J78 : ∀ (z0_j78 : Int32) (H_j78 : Heap), has_ E H_j78 a ly_A s → has_ E H_j78 b ly_S t → has_ E H_j78 c ly_I100 u → sm_ H H_j78 c 1 → fX0_foresee_j78 s t u r1 r5 z0_j51 z0_j78 = some r → aw E mX0_foresee Q 78 [(0, .ref a), (1, .ref b), (3, .ref c), (4, .int r1), (5, .int r5), (7, .int z0_j51)] [.int z0_j78] H_j78 0 0 := by
      intro z0_j78 H_j78 h0 h1 h2 hs hm
      unfold fX0_foresee_j78 at hm
      refine aw_b (pc' := 83) (lv' := [(9, .int (0 : Int32)), (8, .int z0_j78), (0, .ref a), (1, .ref b), (3, .ref c), (4, .int r1), (5, .int r5), (7, .int z0_j51)]) (st' := []) [(78, .istore 8, 2, .null), (80, .iconst 0, 1, .int (0 : Int32)), (81, .istore 9, 2, .null)] (by decide +kernel) rfl ?_
      obtain ⟨x83, hx83, hr83⟩ := bn_x hm
      have X83_156 : ∀ (u_x83_156 : st_) (H_x83_156 : Heap), has_ E H_x83_156 a ly_A s → has_ E H_x83_156 b ly_S t → has_ E H_x83_156 c ly_I100 u_x83_156 → sm_ H H_x83_156 c 1 → fX0_foresee_x83_156 u_x83_156 = some r → aw E mX0_foresee Q 156 [] [] H_x83_156 0 0 := by
        intro u_x83_156 H_x83_156 h0 h1 h2 hs hm
        unfold fX0_foresee_x83_156 at hm
        obtain rfl := Option.some.inj hm
        subst hQ
        exact aw_vret rfl (Nat.zero_le _) (Nat.zero_le _) (by decide +kernel) ⟨rfl, hs, h2⟩
      have L83 : ∀ (fu : Nat) (v9_b83 : Int32) (u_b83 : st_) (H_b83 : Heap), has_ E H_b83 a ly_A s → has_ E H_b83 b ly_S t → has_ E H_b83 c ly_I100 u_b83 → sm_ H H_b83 c 1 → fX0_foresee_l83 s t r1 r5 z0_j51 z0_j78 fu (v9_b83, u_b83) = some x83 → aw E mX0_foresee Q 83 [(0, .ref a), (1, .ref b), (3, .ref c), (4, .int r1), (5, .int r5), (7, .int z0_j51), (8, .int z0_j78), (9, .int v9_b83)] [] H_b83 0 0 := by
        intro fu
        induction fu with
        | zero =>
          intro v9_b83 u_b83 H_b83 h0 h1 h2 hs hm
          exact (it_0 hm).elim
        | succ fu ih83 =>
          intro v9_b83 u_b83 H_b83 h0 h1 h2 hs hm
          obtain ⟨y83, hm, hk83⟩ := it_s hm
          have hm : fX0_foresee_b83 s t r1 r5 z0_j51 z0_j78 v9_b83 u_b83 = some y83 := hm
          unfold fX0_foresee_b83 at hm
          refine aw_b (pc' := 86) (lv' := [(0, .ref a), (1, .ref b), (3, .ref c), (4, .int r1), (5, .int r5), (7, .int z0_j51), (8, .int z0_j78), (9, .int v9_b83)]) (st' := [.ref b, .int v9_b83]) [(83, .iload 9, 2, .null), (85, .aload_n 1, 1, .null)] (by decide +kernel) rfl ?_
          refine aw_gl (v := .int (t 0 0)) b 0 h1 eo_S_0 fgX0_88 rfl (by decide +kernel) ?_
          refine aw_ic_ge (off := 67) 156 (by decide) (by decide +kernel) (fun hc => ?_) (fun hc => ?_)
          · have hm := (if_pos hc).symm.trans hm
            cases hm
            refine aw_lv (lv' := []) [] rfl ?_
            exact X83_156 u_b83 H_b83 h0 h1 h2 hs ((congrArg fX0_foresee_k83 (show (u_b83) = x83 from hk83)).trans hr83)
          · have hm := (if_neg hc).symm.trans hm
            refine aw_b (pc' := 95) (lv' := [(0, .ref a), (1, .ref b), (3, .ref c), (4, .int r1), (5, .int r5), (7, .int z0_j51), (8, .int z0_j78), (9, .int v9_b83)]) (st' := [.ref c, .int v9_b83]) [(92, .iload 9, 2, .null), (94, .aload_n 3, 1, .null)] (by decide +kernel) rfl ?_
            refine aw_all (ci := 0) (N := 100) (v := (100 : Int32)) c 0 h2 rfl (x := fun _ _ c => .inl c) (fun _ _ => rfl) rfl (by decide +kernel) (by decide +kernel) ?_
            refine aw_ic_ge (off := 60) 156 (by decide) (by decide +kernel) (fun hc => ?_) (fun hc => ?_)
            · have hm := (if_pos hc).symm.trans hm
              cases hm
              refine aw_lv (lv' := []) [] rfl ?_
              exact X83_156 u_b83 H_b83 h0 h1 h2 hs ((congrArg fX0_foresee_k83 (show (u_b83) = x83 from hk83)).trans hr83)
            · have hm := (if_neg hc).symm.trans hm
              refine aw_b (pc' := 106) (lv' := [(0, .ref a), (1, .ref b), (3, .ref c), (4, .int r1), (5, .int r5), (7, .int z0_j51), (8, .int z0_j78), (9, .int v9_b83)]) (st' := [.int v9_b83, .int r5, .int r1, .ref a]) [(99, .aload_n 0, 1, .null), (100, .iload 4, 2, .null), (102, .iload 5, 2, .null), (104, .iload 9, 2, .null)] (by decide +kernel) rfl ?_
              obtain ⟨r13, e14, hm⟩ := bn_x hm
              refine aw_cv (rest := []) (st1 := [.int r13]) a 0 (kX0_rankOf e14 h0) rfl rfl ckX0_rankOf lkX0_56 h0 eo_A_0 ⟨_, _, rfl⟩ nkX0_rankOf rfl rfl rfl (Nat.le_of_ble_eq_true rfl) (Nat.zero_le _) (Nat.zero_le _) (by decide +kernel) (fun H15 z16 => ?_)
              have h0 := h0.kept0 z16
              have h1 := h1.kept0 z16
              have h2 := h2.kept0 z16
              have hs := hs.step0 z16
              refine aw_b (pc' := 111) (lv' := [(0, .ref a), (1, .ref b), (3, .ref c), (4, .int r1), (5, .int r5), (7, .int z0_j51), (8, .int z0_j78), (9, .int v9_b83)]) (st' := [.int z0_j51, .int r13]) [(109, .iload 7, 2, .null)] (by decide +kernel) rfl ?_
              have J119 : ∀ (z0_j119 : Int32) (H_j119 : Heap), has_ E H_j119 a ly_A s → has_ E H_j119 b ly_S t → has_ E H_j119 c ly_I100 u_b83 → sm_ H H_j119 c 1 → fX0_foresee_j119 s t z0_j78 v9_b83 u_b83 z0_j119 = some y83 → aw E mX0_foresee Q 119 [(0, .ref a), (1, .ref b), (3, .ref c), (4, .int r1), (5, .int r5), (7, .int z0_j51), (8, .int z0_j78), (9, .int v9_b83)] [.int z0_j119] H_j119 0 0 := by
                intro z0_j119 H_j119 h0 h1 h2 hs hm
                unfold fX0_foresee_j119 at hm
                refine aw_b (pc' := 125) (lv' := [(10, .int z0_j119), (0, .ref a), (1, .ref b), (3, .ref c), (4, .int r1), (5, .int r5), (7, .int z0_j51), (8, .int z0_j78), (9, .int v9_b83)]) (st' := [.ref a, .int v9_b83, .ref c]) [(119, .istore 10, 2, .null), (121, .aload_n 3, 1, .null), (122, .iload 9, 2, .null), (124, .aload_n 0, 1, .null)] (by decide +kernel) rfl ?_
                refine aw_gl (v := .int (s 0 5)) a 0 h0 eo_A_0 fgX0_29 rfl (by decide +kernel) ?_
                refine aw_b (pc' := 130) (lv' := [(10, .int z0_j119), (0, .ref a), (1, .ref b), (3, .ref c), (4, .int r1), (5, .int r5), (7, .int z0_j51), (8, .int z0_j78), (9, .int v9_b83)]) (st' := [.int z0_j119, .int (s 0 5), .int v9_b83, .ref c]) [(128, .iload 10, 2, .null)] (by decide +kernel) rfl ?_
                have J148 : ∀ (z3_j148 : Int32) (H_j148 : Heap), has_ E H_j148 a ly_A s → has_ E H_j148 b ly_S t → has_ E H_j148 c ly_I100 u_b83 → sm_ H H_j148 c 1 → fX0_foresee_j148 s v9_b83 u_b83 z3_j148 = some y83 → aw E mX0_foresee Q 148 [(0, .ref a), (1, .ref b), (3, .ref c), (4, .int r1), (5, .int r5), (7, .int z0_j51), (8, .int z0_j78), (9, .int v9_b83)] [.int z3_j148, .int (s 0 5), .int v9_b83, .ref c] H_j148 0 0 := by
                  intro z3_j148 H_j148 h0 h1 h2 hs hm
                  unfold fX0_foresee_j148 at hm
                  refine aw_b (pc' := 149) (lv' := [(0, .ref a), (1, .ref b), (3, .ref c), (4, .int r1), (5, .int r5), (7, .int z0_j51), (8, .int z0_j78), (9, .int v9_b83)]) (st' := [.int ((s 0 5) + z3_j148), .int v9_b83, .ref c]) [(148, .iadd, 1, .null)] (by decide +kernel) rfl ?_
                  obtain ⟨g17, hm⟩ := gd_x hm
                  obtain ⟨u18, e19, hm⟩ := bd_x hm
                  refine aw_isl c 0 h2 rfl hf g17 e19 (by decide +kernel) (fun H20 h2 z21 => ?_)
                  have h0 := h0.kept (n := 3) z21 rfl (by omega)
                  have h1 := h1.kept (n := 4) z21 rfl (by omega)
                  have hs := hs.step z21 (by omega) (by omega)
                  refine aw_b (pc' := 83) (lv' := [(9, .int (v9_b83 + (1 : Int32))), (0, .ref a), (1, .ref b), (3, .ref c), (4, .int r1), (5, .int r5), (7, .int z0_j51), (8, .int z0_j78)]) (st' := []) [(150, .iinc 9 1, 3, .int (1 : Int32)), (153, .goto (-70), 3, .null)] (by decide +kernel) rfl ?_
                  cases hm
                  refine aw_lv (lv' := [(0, .ref a), (1, .ref b), (3, .ref c), (4, .int r1), (5, .int r5), (7, .int z0_j51), (8, .int z0_j78), (9, .int (v9_b83 + (1 : Int32)))]) [1, 2, 3, 4, 5, 6, 7, 0] rfl ?_
                  exact ih83 (v9_b83 + (1 : Int32)) u18 H20 h0 h1 h2 hs hk83
                refine aw_if_eq (off := 16) 146 (by decide) (by decide +kernel) (fun hc => ?_) (fun hc => ?_)
                · have hm := (if_pos hc).symm.trans hm
                  refine aw_b (pc' := 148) (lv' := [(10, .int z0_j119), (0, .ref a), (1, .ref b), (3, .ref c), (4, .int r1), (5, .int r5), (7, .int z0_j51), (8, .int z0_j78), (9, .int v9_b83)]) (st' := [.int z0_j78, .int (s 0 5), .int v9_b83, .ref c]) [(146, .iload 8, 2, .null)] (by decide +kernel) rfl ?_
                  refine aw_lv (lv' := [(0, .ref a), (1, .ref b), (3, .ref c), (4, .int r1), (5, .int r5), (7, .int z0_j51), (8, .int z0_j78), (9, .int v9_b83)]) [1, 2, 3, 4, 5, 6, 7, 8] rfl ?_
                  exact J148 z0_j78 H_j119 h0 h1 h2 hs hm
                · have hm := (if_neg hc).symm.trans hm
                  refine aw_b (pc' := 135) (lv' := [(10, .int z0_j119), (0, .ref a), (1, .ref b), (3, .ref c), (4, .int r1), (5, .int r5), (7, .int z0_j51), (8, .int z0_j78), (9, .int v9_b83)]) (st' := [.ref a, .ref b, .int (s 0 5), .int v9_b83, .ref c]) [(133, .aload_n 1, 1, .null), (134, .aload_n 0, 1, .null)] (by decide +kernel) rfl ?_
                  refine aw_gl (v := .int (s 0 0)) a 0 h0 eo_A_0 fgX0_18 rfl (by decide +kernel) ?_
                  refine aw_b (pc' := 140) (lv' := [(10, .int z0_j119), (0, .ref a), (1, .ref b), (3, .ref c), (4, .int r1), (5, .int r5), (7, .int z0_j51), (8, .int z0_j78), (9, .int v9_b83)]) (st' := [.int v9_b83, .int (s 0 0), .ref b, .int (s 0 5), .int v9_b83, .ref c]) [(138, .iload 9, 2, .null)] (by decide +kernel) rfl ?_
                  obtain ⟨r22, e23, hm⟩ := bn_x hm
                  refine aw_cv (rest := [.int (s 0 5), .int v9_b83, .ref c]) (st1 := [.int r22, .int (s 0 5), .int v9_b83, .ref c]) b 0 (kX5_priceOf e23 h1) rfl rfl ckX5_priceOf lkX0_73 h1 eo_S_0 ⟨_, _, rfl⟩ nkX5_priceOf rfl rfl rfl (Nat.le_of_ble_eq_true rfl) (Nat.zero_le _) (Nat.zero_le _) (by decide +kernel) (fun H24 z25 => ?_)
                  have h0 := h0.kept0 z25
                  have h1 := h1.kept0 z25
                  have h2 := h2.kept0 z25
                  have hs := hs.step0 z25
                  refine aw_b (pc' := 148) (lv' := [(10, .int z0_j119), (0, .ref a), (1, .ref b), (3, .ref c), (4, .int r1), (5, .int r5), (7, .int z0_j51), (8, .int z0_j78), (9, .int v9_b83)]) (st' := [.int r22, .int (s 0 5), .int v9_b83, .ref c]) [(143, .goto 5, 3, .null)] (by decide +kernel) rfl ?_
                  refine aw_lv (lv' := [(0, .ref a), (1, .ref b), (3, .ref c), (4, .int r1), (5, .int r5), (7, .int z0_j51), (8, .int z0_j78), (9, .int v9_b83)]) [1, 2, 3, 4, 5, 6, 7, 8] rfl ?_
                  exact J148 r22 H24 h0 h1 h2 hs hm
              refine aw_ic_ge (off := 7) 118 (by decide) (by decide +kernel) (fun hc => ?_) (fun hc => ?_)
              · have hm := (if_pos hc).symm.trans hm
                refine aw_b (pc' := 119) (lv' := [(0, .ref a), (1, .ref b), (3, .ref c), (4, .int r1), (5, .int r5), (7, .int z0_j51), (8, .int z0_j78), (9, .int v9_b83)]) (st' := [.int (0 : Int32)]) [(118, .iconst 0, 1, .int (0 : Int32))] (by decide +kernel) rfl ?_
                exact J119 (0 : Int32) H15 h0 h1 h2 hs hm
              · have hm := (if_neg hc).symm.trans hm
                refine aw_b (pc' := 119) (lv' := [(0, .ref a), (1, .ref b), (3, .ref c), (4, .int r1), (5, .int r5), (7, .int z0_j51), (8, .int z0_j78), (9, .int v9_b83)]) (st' := [.int (1 : Int32)]) [(114, .iconst 1, 1, .int (1 : Int32)), (115, .goto 4, 3, .null)] (by decide +kernel) rfl ?_
                exact J119 (1 : Int32) H15 h0 h1 h2 hs hm
      refine aw_lv (lv' := [(0, .ref a), (1, .ref b), (3, .ref c), (4, .int r1), (5, .int r5), (7, .int z0_j51), (8, .int z0_j78), (9, .int (0 : Int32))]) [2, 3, 4, 5, 6, 7, 1, 0] rfl ?_
      exact L83 FU_ (0 : Int32) u H_j78 h0 h1 h2 hs hx83
    refine aw_ic_ne (off := 7) 63 (by decide) (by decide +kernel) (fun hc => ?_) (fun hc => ?_)
    · have hm := (if_neg hc).symm.trans hm
      refine aw_b (pc' := 65) (lv' := [(7, .int z0_j51), (0, .ref a), (1, .ref b), (3, .ref c), (4, .int r1), (5, .int r5), (6, .int r9)]) (st' := [.ref a, .ref b]) [(63, .aload_n 1, 1, .null), (64, .aload_n 0, 1, .null)] (by decide +kernel) rfl ?_
      refine aw_gl (v := .int (s 0 0)) a 0 h0 eo_A_0 fgX0_18 rfl (by decide +kernel) ?_
      refine aw_b (pc' := 69) (lv' := [(7, .int z0_j51), (0, .ref a), (1, .ref b), (3, .ref c), (4, .int r1), (5, .int r5), (6, .int r9)]) (st' := [.ref a, .int (s 0 0), .ref b]) [(68, .aload_n 0, 1, .null)] (by decide +kernel) rfl ?_
      refine aw_gl (v := .ref (a + 1)) a 0 h0 eo_A_0 fgX0_9 rfl (by decide +kernel) ?_
      refine aw_b (pc' := 74) (lv' := [(7, .int z0_j51), (0, .ref a), (1, .ref b), (3, .ref c), (4, .int r1), (5, .int r5), (6, .int r9)]) (st' := [.int r9, .ref (a + 1), .int (s 0 0), .ref b]) [(72, .iload 6, 2, .null)] (by decide +kernel) rfl ?_
      obtain ⟨g26, hm⟩ := gd_x hm
      refine aw_ial a 1 h0 rfl g26 (by decide +kernel) ?_
      obtain ⟨r27, e28, hm⟩ := bn_x hm
      refine aw_cv (rest := []) (st1 := [.int r27]) b 0 (kX5_priceOf e28 h1) rfl rfl ckX5_priceOf lkX0_73 h1 eo_S_0 ⟨_, _, rfl⟩ nkX5_priceOf rfl rfl rfl (Nat.le_of_ble_eq_true rfl) (Nat.zero_le _) (Nat.zero_le _) (by decide +kernel) (fun H29 z30 => ?_)
      have h0 := h0.kept0 z30
      have h1 := h1.kept0 z30
      have h2 := h2.kept0 z30
      have hs := hs.step0 z30
      refine aw_lv (lv' := [(0, .ref a), (1, .ref b), (3, .ref c), (4, .int r1), (5, .int r5), (7, .int z0_j51)]) [1, 2, 3, 4, 5, 0] rfl ?_
      exact J78 r27 H29 h0 h1 h2 hs hm
    · have hm := (if_pos hc).symm.trans hm
      refine aw_b (pc' := 78) (lv' := [(7, .int z0_j51), (0, .ref a), (1, .ref b), (3, .ref c), (4, .int r1), (5, .int r5), (6, .int r9)]) (st' := [.int (0 : Int32)]) [(59, .iconst 0, 1, .int (0 : Int32)), (60, .goto 18, 3, .null)] (by decide +kernel) rfl ?_
      refine aw_lv (lv' := [(0, .ref a), (1, .ref b), (3, .ref c), (4, .int r1), (5, .int r5), (7, .int z0_j51)]) [1, 2, 3, 4, 5, 0] rfl ?_
      exact J78 (0 : Int32) H_j51 h0 h1 h2 hs hm
  refine aw_ic_ne (off := 9) 36 (by decide) (by decide +kernel) (fun hc => ?_) (fun hc => ?_)
  · have hm := (if_neg hc).symm.trans hm
    refine aw_b (pc' := 42) (lv' := [(6, .int r9), (5, .int r5), (4, .int r1), (0, .ref a), (1, .ref b), (2, .int i0), (3, .ref c)]) (st' := [.ref a, .int r5, .int r1, .ref a]) [(36, .aload_n 0, 1, .null), (37, .iload 4, 2, .null), (39, .iload 5, 2, .null), (41, .aload_n 0, 1, .null)] (by decide +kernel) rfl ?_
    refine aw_gl (v := .ref (a + 1)) a 0 h0 eo_A_0 fgX0_9 rfl (by decide +kernel) ?_
    refine aw_b (pc' := 47) (lv' := [(6, .int r9), (5, .int r5), (4, .int r1), (0, .ref a), (1, .ref b), (2, .int i0), (3, .ref c)]) (st' := [.int r9, .ref (a + 1), .int r5, .int r1, .ref a]) [(45, .iload 6, 2, .null)] (by decide +kernel) rfl ?_
    obtain ⟨g31, hm⟩ := gd_x hm
    refine aw_ial a 1 h0 rfl g31 (by decide +kernel) ?_
    obtain ⟨r32, e33, hm⟩ := bn_x hm
    refine aw_cv (rest := []) (st1 := [.int r32]) a 0 (kX0_rankOf e33 h0) rfl rfl ckX0_rankOf lkX0_56 h0 eo_A_0 ⟨_, _, rfl⟩ nkX0_rankOf rfl rfl rfl (Nat.le_of_ble_eq_true rfl) (Nat.zero_le _) (Nat.zero_le _) (by decide +kernel) (fun H34 z35 => ?_)
    have h0 := h0.kept0 z35
    have h1 := h1.kept0 z35
    have h2 := h2.kept0 z35
    have hs := hs.step0 z35
    refine aw_lv (lv' := [(0, .ref a), (1, .ref b), (3, .ref c), (4, .int r1), (5, .int r5), (6, .int r9)]) [3, 4, 6, 2, 1, 0] rfl ?_
    exact J51 r32 H34 h0 h1 h2 hs hm
  · have hm := (if_pos hc).symm.trans hm
    refine aw_b (pc' := 51) (lv' := [(6, .int r9), (5, .int r5), (4, .int r1), (0, .ref a), (1, .ref b), (2, .int i0), (3, .ref c)]) (st' := [.int (10000 : Int32)]) [(30, .sipush 10000, 3, .int (10000 : Int32)), (33, .goto 18, 3, .null)] (by decide +kernel) rfl ?_
    refine aw_lv (lv' := [(0, .ref a), (1, .ref b), (3, .ref c), (4, .int r1), (5, .int r5), (6, .int r9)]) [3, 4, 6, 2, 1, 0] rfl ?_
    exact J51 (10000 : Int32) H11 h0 h1 h2 hs hm
