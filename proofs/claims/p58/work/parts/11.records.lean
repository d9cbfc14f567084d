/-! mirrors of methods, and that the methods do as they say: printed by wip/whole/gen_parts.py out of the listing -/
def mX4_begin : mt_ := (yX4_begin, cX4_begin, 4, none, [], { frames := 0, locals := 0, cells := 0, slots := 0 })
theorem ckX4_begin : cokV_ mX4_begin := ⟨⟨(uw_mem 464 (by decide +kernel) (by decide +kernel)), (uw_mem 35 (by decide +kernel) (by decide +kernel)), by decide +kernel, by decide +kernel⟩, (uw_mem 462 (by decide +kernel) (by decide +kernel)), (uw_mem 463 (by decide +kernel) (by decide +kernel))⟩
theorem nkX4_begin : nok_ mX4_begin 1 := by decide +kernel
theorem fpX4_35 : fpk_ RX4 35 4 0 .int := ⟨_, _, _, tyX4, rfl, by decide, (uw_mem 344 (by decide +kernel) (by decide +kernel)), wkX4, tyX4_ok, nmX4, rfl, by decide +kernel⟩
theorem eo_R_0 : eo_ ly_R 0 4 fsX4 := rfl
theorem fsq_4_0 : fsp_ fsX4 0 := ⟨fun _ _ => rfl, fun _ _ _ => rfl⟩
theorem fpX4_39 : fpk_ RX4 39 4 1 .int := ⟨_, _, _, tyX4, rfl, by decide, (uw_mem 345 (by decide +kernel) (by decide +kernel)), wkX4, tyX4_ok, nmX4, rfl, by decide +kernel⟩
theorem fsq_4_1 : fsp_ fsX4 1 := ⟨fun _ _ => rfl, fun _ _ _ => rfl⟩
theorem fpX4_42 : fpk_ RX4 42 4 9 .int := ⟨_, _, _, tyX4, rfl, by decide, (uw_mem 359 (by decide +kernel) (by decide +kernel)), wkX4, tyX4_ok, nmX4, rfl, by decide +kernel⟩
theorem fsq_4_9 : fsp_ fsX4 9 := ⟨fun _ _ => rfl, fun _ _ _ => rfl⟩
theorem fpX4_45 : fpk_ RX4 45 4 10 .int := ⟨_, _, _, tyX4, rfl, by decide, (uw_mem 360 (by decide +kernel) (by decide +kernel)), wkX4, tyX4_ok, nmX4, rfl, by decide +kernel⟩
theorem fsq_4_10 : fsp_ fsX4 10 := ⟨fun _ _ => rfl, fun _ _ _ => rfl⟩
theorem fpX4_48 : fpk_ RX4 48 4 11 .int := ⟨_, _, _, tyX4, rfl, by decide, (uw_mem 362 (by decide +kernel) (by decide +kernel)), wkX4, tyX4_ok, nmX4, rfl, by decide +kernel⟩
theorem fsq_4_11 : fsp_ fsX4 11 := ⟨fun _ _ => rfl, fun _ _ _ => rfl⟩
theorem fpX4_51 : fpk_ RX4 51 4 12 .int := ⟨_, _, _, tyX4, rfl, by decide, (uw_mem 364 (by decide +kernel) (by decide +kernel)), wkX4, tyX4_ok, nmX4, rfl, by decide +kernel⟩
theorem fsq_4_12 : fsp_ fsX4 12 := ⟨fun _ _ => rfl, fun _ _ _ => rfl⟩
theorem fpX4_54 : fpk_ RX4 54 4 13 .int := ⟨_, _, _, tyX4, rfl, by decide, (uw_mem 366 (by decide +kernel) (by decide +kernel)), wkX4, tyX4_ok, nmX4, rfl, by decide +kernel⟩
theorem fsq_4_13 : fsp_ fsX4 13 := ⟨fun _ _ => rfl, fun _ _ _ => rfl⟩
theorem fgX4_20 : fok_ RX4 20 4 4 := ⟨_, _, _, rfl, by decide, (uw_mem 350 (by decide +kernel) (by decide +kernel)), wkX4⟩
theorem fgX4_23 : fok_ RX4 23 4 5 := ⟨_, _, _, rfl, by decide, (uw_mem 352 (by decide +kernel) (by decide +kernel)), wkX4⟩
theorem fgX4_26 : fok_ RX4 26 4 6 := ⟨_, _, _, rfl, by decide, (uw_mem 354 (by decide +kernel) (by decide +kernel)), wkX4⟩
theorem fgX4_29 : fok_ RX4 29 4 7 := ⟨_, _, _, rfl, by decide, (uw_mem 356 (by decide +kernel) (by decide +kernel)), wkX4⟩
theorem ra_R_13 : ral_ ly_R 13 7 6 1 14 := ⟨_, rfl, fun a k h => (if_pos h).trans (congrArg some (by omega))⟩
theorem sr_R_14 : ∀ k, k < 6 → ly_R[1 * k + 14]? = some (ia_ 6) := by
  intro k hk
  match k, hk with
  | 0, _ => rfl
  | 1, _ => rfl
  | 2, _ => rfl
  | 3, _ => rfl
  | 4, _ => rfl
  | 5, _ => rfl
theorem kX4_begin {E : ev_} {H : Heap} {a : Nat} {s : st_} {i0 : Int32} {r : st_} (hm : fX4_begin s i0 = some r) (h0 : has_ E H a ly_R s) (hf : ev_fr E a) : sp_ E mX4_begin [.ref a, .int i0] H (po1 (.inl (none)) (fun Hn => sm_ H Hn a 41 ∧ has_ E Hn a ly_R r)) := by
  refine sp_of (by decide +kernel) rfl rfl ?_
  generalize hQ : po1 _ _ = Q
  have hs : sm_ H H a 41 := sm_.rfl'
  unfold fX4_begin at hm
  refine aw_lv (lv' := [(0, .ref a), (1, .int i0)]) [0, 1] rfl ?_
  refine aw_b (pc' := 2) (lv' := [(0, .ref a), (1, .int i0)]) (st' := [.int i0, .ref a]) [(0, .aload_n 0, 1, .null), (1, .iload_n 1, 1, .null)] (by decide +kernel) rfl ?_
  obtain ⟨s1, e2, hm⟩ := bd_x hm
  refine aw_pl a 0 h0 eo_R_0 fsq_4_0 fpX4_35 hf rfl rfl e2 (by decide +kernel) (fun H3 h0 z4 => ?_)
  have hs := hs.step z4 (by omega) (by omega)
  refine aw_b (pc' := 7) (lv' := [(0, .ref a), (1, .int i0)]) (st' := [.int (0 : Int32), .ref a]) [(5, .aload_n 0, 1, .null), (6, .iconst 0, 1, .int (0 : Int32))] (by decide +kernel) rfl ?_
  obtain ⟨s5, e6, hm⟩ := bd_x hm
  refine aw_pl a 0 h0 eo_R_0 fsq_4_1 fpX4_39 hf rfl rfl e6 (by decide +kernel) (fun H7 h0 z8 => ?_)
  have hs := hs.step z8 (by omega) (by omega)
  refine aw_b (pc' := 12) (lv' := [(0, .ref a), (1, .int i0)]) (st' := [.int (0 : Int32), .ref a]) [(10, .aload_n 0, 1, .null), (11, .iconst 0, 1, .int (0 : Int32))] (by decide +kernel) rfl ?_
  obtain ⟨s9, e10, hm⟩ := bd_x hm
  refine aw_pl a 0 h0 eo_R_0 fsq_4_9 fpX4_42 hf rfl rfl e10 (by decide +kernel) (fun H11 h0 z12 => ?_)
  have hs := hs.step z12 (by omega) (by omega)
  refine aw_b (pc' := 17) (lv' := [(0, .ref a), (1, .int i0)]) (st' := [.int (0 : Int32), .ref a]) [(15, .aload_n 0, 1, .null), (16, .iconst 0, 1, .int (0 : Int32))] (by decide +kernel) rfl ?_
  obtain ⟨s13, e14, hm⟩ := bd_x hm
  refine aw_pl a 0 h0 eo_R_0 fsq_4_10 fpX4_45 hf rfl rfl e14 (by decide +kernel) (fun H15 h0 z16 => ?_)
  have hs := hs.step z16 (by omega) (by omega)
  refine aw_b (pc' := 22) (lv' := [(0, .ref a), (1, .int i0)]) (st' := [.int (0 : Int32), .ref a]) [(20, .aload_n 0, 1, .null), (21, .iconst 0, 1, .int (0 : Int32))] (by decide +kernel) rfl ?_
  obtain ⟨s17, e18, hm⟩ := bd_x hm
  refine aw_pl a 0 h0 eo_R_0 fsq_4_11 fpX4_48 hf rfl rfl e18 (by decide +kernel) (fun H19 h0 z20 => ?_)
  have hs := hs.step z20 (by omega) (by omega)
  refine aw_b (pc' := 27) (lv' := [(0, .ref a), (1, .int i0)]) (st' := [.int (-1 : Int32), .ref a]) [(25, .aload_n 0, 1, .null), (26, .iconst (-1), 1, .int (-1 : Int32))] (by decide +kernel) rfl ?_
  obtain ⟨s21, e22, hm⟩ := bd_x hm
  refine aw_pl a 0 h0 eo_R_0 fsq_4_12 fpX4_51 hf rfl rfl e22 (by decide +kernel) (fun H23 h0 z24 => ?_)
  have hs := hs.step z24 (by omega) (by omega)
  refine aw_b (pc' := 32) (lv' := [(0, .ref a), (1, .int i0)]) (st' := [.int (0 : Int32), .ref a]) [(30, .aload_n 0, 1, .null), (31, .iconst 0, 1, .int (0 : Int32))] (by decide +kernel) rfl ?_
  obtain ⟨s25, e26, hm⟩ := bd_x hm
  refine aw_pl a 0 h0 eo_R_0 fsq_4_13 fpX4_54 hf rfl rfl e26 (by decide +kernel) (fun H27 h0 z28 => ?_)
  have hs := hs.step z28 (by omega) (by omega)
  refine aw_b (pc' := 37) (lv' := [(2, .int (0 : Int32)), (0, .ref a), (1, .int i0)]) (st' := []) [(35, .iconst 0, 1, .int (0 : Int32)), (36, .istore_n 2, 1, .null)] (by decide +kernel) rfl ?_
  obtain ⟨x37, hx37, hr37⟩ := bn_x hm
  have X37_93 : ∀ (s_x37_93 : st_) (H_x37_93 : Heap), has_ E H_x37_93 a ly_R s_x37_93 → sm_ H H_x37_93 a 41 → fX4_begin_x37_93 s_x37_93 = some r → aw E mX4_begin Q 93 [] [] H_x37_93 0 0 := by
    intro s_x37_93 H_x37_93 h0 hs hm
    unfold fX4_begin_x37_93 at hm
    obtain rfl := Option.some.inj hm
    subst hQ
    exact aw_vret rfl (Nat.zero_le _) (Nat.zero_le _) (by decide +kernel) ⟨rfl, hs, h0⟩
  have L37 : ∀ (fu : Nat) (v2_b37 : Int32) (s_b37 : st_) (H_b37 : Heap), has_ E H_b37 a ly_R s_b37 → sm_ H H_b37 a 41 → fX4_begin_l37 fu (v2_b37, s_b37) = some x37 → aw E mX4_begin Q 37 [(0, .ref a), (2, .int v2_b37)] [] H_b37 0 0 := by
    intro fu
    induction fu with
    | zero =>
      intro v2_b37 s_b37 H_b37 h0 hs hm
      exact (it_0 hm).elim
    | succ fu ih37 =>
      intro v2_b37 s_b37 H_b37 h0 hs hm
      obtain ⟨y37, hm, hk37⟩ := it_s hm
      have hm : fX4_begin_b37 v2_b37 s_b37 = some y37 := hm
      unfold fX4_begin_b37 at hm
      refine aw_b (pc' := 40) (lv' := [(0, .ref a), (2, .int v2_b37)]) (st' := [.int (6 : Int32), .int v2_b37]) [(37, .iload_n 2, 1, .null), (38, .bipush 6, 2, .int (6 : Int32))] (by decide +kernel) rfl ?_
      refine aw_ic_ge (off := 53) 93 (by decide) (by decide +kernel) (fun hc => ?_) (fun hc => ?_)
      · have hm := (if_pos hc).symm.trans hm
        cases hm
        refine aw_lv (lv' := []) [] rfl ?_
        exact X37_93 s_b37 H_b37 h0 hs ((congrArg fX4_begin_k37 (show (s_b37) = x37 from hk37)).trans hr37)
      · have hm := (if_neg hc).symm.trans hm
        refine aw_b (pc' := 44) (lv' := [(0, .ref a), (2, .int v2_b37)]) (st' := [.ref a]) [(43, .aload_n 0, 1, .null)] (by decide +kernel) rfl ?_
        refine aw_gl (v := .ref (a + 10)) a 0 h0 eo_R_0 fgX4_20 rfl (by decide +kernel) ?_
        refine aw_b (pc' := 49) (lv' := [(0, .ref a), (2, .int v2_b37)]) (st' := [.int (0 : Int32), .int v2_b37, .ref (a + 10)]) [(47, .iload_n 2, 1, .null), (48, .iconst 0, 1, .int (0 : Int32))] (by decide +kernel) rfl ?_
        obtain ⟨g29, hm⟩ := gd_x hm
        obtain ⟨s30, e31, hm⟩ := bd_x hm
        refine aw_isl a 10 h0 rfl hf g29 e31 (by decide +kernel) (fun H32 h0 z33 => ?_)
        have hs := hs.step z33 (by omega) (by omega)
        refine aw_b (pc' := 51) (lv' := [(0, .ref a), (2, .int v2_b37)]) (st' := [.ref a]) [(50, .aload_n 0, 1, .null)] (by decide +kernel) rfl ?_
        refine aw_gl (v := .ref (a + 11)) a 0 h0 eo_R_0 fgX4_23 rfl (by decide +kernel) ?_
        refine aw_b (pc' := 56) (lv' := [(0, .ref a), (2, .int v2_b37)]) (st' := [.int (0 : Int32), .int v2_b37, .ref (a + 11)]) [(54, .iload_n 2, 1, .null), (55, .iconst 0, 1, .int (0 : Int32))] (by decide +kernel) rfl ?_
        obtain ⟨g34, hm⟩ := gd_x hm
        obtain ⟨s35, e36, hm⟩ := bd_x hm
        refine aw_isl a 11 h0 rfl hf g34 e36 (by decide +kernel) (fun H37 h0 z38 => ?_)
        have hs := hs.step z38 (by omega) (by omega)
        refine aw_b (pc' := 58) (lv' := [(0, .ref a), (2, .int v2_b37)]) (st' := [.ref a]) [(57, .aload_n 0, 1, .null)] (by decide +kernel) rfl ?_
        refine aw_gl (v := .ref (a + 12)) a 0 h0 eo_R_0 fgX4_26 rfl (by decide +kernel) ?_
        refine aw_b (pc' := 63) (lv' := [(0, .ref a), (2, .int v2_b37)]) (st' := [.int (0 : Int32), .int v2_b37, .ref (a + 12)]) [(61, .iload_n 2, 1, .null), (62, .iconst 0, 1, .int (0 : Int32))] (by decide +kernel) rfl ?_
        obtain ⟨g39, hm⟩ := gd_x hm
        obtain ⟨s40, e41, hm⟩ := bd_x hm
        refine aw_isl a 12 h0 rfl hf g39 e41 (by decide +kernel) (fun H42 h0 z43 => ?_)
        have hs := hs.step z43 (by omega) (by omega)
        refine aw_b (pc' := 66) (lv' := [(3, .int (0 : Int32)), (0, .ref a), (2, .int v2_b37)]) (st' := []) [(64, .iconst 0, 1, .int (0 : Int32)), (65, .istore_n 3, 1, .null)] (by decide +kernel) rfl ?_
        obtain ⟨x66, hx66, hr66⟩ := bn_x hm
        have X66_87 : ∀ (s_x66_87 : st_) (H_x66_87 : Heap), has_ E H_x66_87 a ly_R s_x66_87 → sm_ H H_x66_87 a 41 → fX4_begin_x66_87 v2_b37 s_x66_87 = some y37 → aw E mX4_begin Q 87 [(0, .ref a), (2, .int v2_b37)] [] H_x66_87 0 0 := by
          intro s_x66_87 H_x66_87 h0 hs hm
          unfold fX4_begin_x66_87 at hm
          refine aw_b (pc' := 37) (lv' := [(2, .int (v2_b37 + (1 : Int32))), (0, .ref a)]) (st' := []) [(87, .iinc 2 1, 3, .int (1 : Int32)), (90, .goto (-53), 3, .null)] (by decide +kernel) rfl ?_
          cases hm
          refine aw_lv (lv' := [(0, .ref a), (2, .int (v2_b37 + (1 : Int32)))]) [1, 0] rfl ?_
          exact ih37 (v2_b37 + (1 : Int32)) s_x66_87 H_x66_87 h0 hs hk37
        have L66 : ∀ (fu : Nat) (v3_b66 : Int32) (s_b66 : st_) (H_b66 : Heap), has_ E H_b66 a ly_R s_b66 → sm_ H H_b66 a 41 → fX4_begin_l66 v2_b37 fu (v3_b66, s_b66) = some x66 → aw E mX4_begin Q 66 [(0, .ref a), (2, .int v2_b37), (3, .int v3_b66)] [] H_b66 0 0 := by
          intro fu
          induction fu with
          | zero =>
            intro v3_b66 s_b66 H_b66 h0 hs hm
            exact (it_0 hm).elim
          | succ fu ih66 =>
            intro v3_b66 s_b66 H_b66 h0 hs hm
            obtain ⟨y66, hm, hk66⟩ := it_s hm
            have hm : fX4_begin_b66 v2_b37 v3_b66 s_b66 = some y66 := hm
            unfold fX4_begin_b66 at hm
            refine aw_b (pc' := 69) (lv' := [(0, .ref a), (2, .int v2_b37), (3, .int v3_b66)]) (st' := [.int (6 : Int32), .int v3_b66]) [(66, .iload_n 3, 1, .null), (67, .bipush 6, 2, .int (6 : Int32))] (by decide +kernel) rfl ?_
            refine aw_ic_ge (off := 18) 87 (by decide) (by decide +kernel) (fun hc => ?_) (fun hc => ?_)
            · have hm := (if_pos hc).symm.trans hm
              cases hm
              refine aw_lv (lv' := [(0, .ref a), (2, .int v2_b37)]) [0, 1] rfl ?_
              exact X66_87 s_b66 H_b66 h0 hs ((congrArg (fX4_begin_k66 v2_b37) (show (s_b66) = x66 from hk66)).trans hr66)
            · have hm := (if_neg hc).symm.trans hm
              refine aw_b (pc' := 73) (lv' := [(0, .ref a), (2, .int v2_b37), (3, .int v3_b66)]) (st' := [.ref a]) [(72, .aload_n 0, 1, .null)] (by decide +kernel) rfl ?_
              refine aw_gl (v := .ref (a + 13)) a 0 h0 eo_R_0 fgX4_29 rfl (by decide +kernel) ?_
              refine aw_b (pc' := 77) (lv' := [(0, .ref a), (2, .int v2_b37), (3, .int v3_b66)]) (st' := [.int v2_b37, .ref (a + 13)]) [(76, .iload_n 2, 1, .null)] (by decide +kernel) rfl ?_
              obtain ⟨g44, hm⟩ := gd_x hm
              refine aw_iall a 13 h0 ra_R_13 g44 (by decide +kernel) ?_
              refine aw_b (pc' := 80) (lv' := [(0, .ref a), (2, .int v2_b37), (3, .int v3_b66)]) (st' := [.int (0 : Int32), .int v3_b66, .ref (a + (1 * ix_ v2_b37 + 14))]) [(78, .iload_n 3, 1, .null), (79, .iconst 0, 1, .int (0 : Int32))] (by decide +kernel) rfl ?_
              obtain ⟨g45, hm⟩ := gd_x hm
              obtain ⟨s46, e47, hm⟩ := bd_x hm
              refine aw_isl a (1 * ix_ v2_b37 + 14) h0 (sr_R_14 _ (ib_lt g44)) hf g45 e47 (by decide +kernel) (fun H48 h0 z49 => ?_)
              have hlt := ib_lt g44
              have hs := hs.step z49 (by omega) (by omega)
              refine aw_b (pc' := 66) (lv' := [(3, .int (v3_b66 + (1 : Int32))), (0, .ref a), (2, .int v2_b37)]) (st' := []) [(81, .iinc 3 1, 3, .int (1 : Int32)), (84, .goto (-18), 3, .null)] (by decide +kernel) rfl ?_
              cases hm
              refine aw_lv (lv' := [(0, .ref a), (2, .int v2_b37), (3, .int (v3_b66 + (1 : Int32)))]) [1, 2, 0] rfl ?_
              exact ih66 (v3_b66 + (1 : Int32)) s46 H48 h0 hs hk66
        refine aw_lv (lv' := [(0, .ref a), (2, .int v2_b37), (3, .int (0 : Int32))]) [1, 2, 0] rfl ?_
        exact L66 FU_ (0 : Int32) s40 H42 h0 hs hx66
  refine aw_lv (lv' := [(0, .ref a), (2, .int (0 : Int32))]) [1, 0] rfl ?_
  exact L37 FU_ (0 : Int32) s25 H27 h0 hs hx37
def mX4_copyFrom : mt_ := (yX4_copyFrom, cX4_copyFrom, 3, none, [], { frames := 1, locals := 48, cells := 0, slots := 0 })
theorem ckX4_copyFrom : cokV_ mX4_copyFrom := ⟨⟨(uw_mem 1468 (by decide +kernel) (by decide +kernel)), (uw_mem 35 (by decide +kernel) (by decide +kernel)), by decide +kernel, by decide +kernel⟩, (uw_mem 1466 (by decide +kernel) (by decide +kernel)), (uw_mem 1467 (by decide +kernel) (by decide +kernel))⟩
theorem nkX4_copyFrom : nok_ mX4_copyFrom 1 := by decide +kernel
theorem fgX4_35 : fok_ RX4 35 4 0 := ⟨_, _, _, rfl, by decide, (uw_mem 344 (by decide +kernel) (by decide +kernel)), wkX4⟩
theorem fgX4_39 : fok_ RX4 39 4 1 := ⟨_, _, _, rfl, by decide, (uw_mem 345 (by decide +kernel) (by decide +kernel)), wkX4⟩
theorem fgX4_42 : fok_ RX4 42 4 9 := ⟨_, _, _, rfl, by decide, (uw_mem 359 (by decide +kernel) (by decide +kernel)), wkX4⟩
theorem fgX4_45 : fok_ RX4 45 4 10 := ⟨_, _, _, rfl, by decide, (uw_mem 360 (by decide +kernel) (by decide +kernel)), wkX4⟩
theorem fgX4_48 : fok_ RX4 48 4 11 := ⟨_, _, _, rfl, by decide, (uw_mem 362 (by decide +kernel) (by decide +kernel)), wkX4⟩
theorem fgX4_51 : fok_ RX4 51 4 12 := ⟨_, _, _, rfl, by decide, (uw_mem 364 (by decide +kernel) (by decide +kernel)), wkX4⟩
theorem fgX4_54 : fok_ RX4 54 4 13 := ⟨_, _, _, rfl, by decide, (uw_mem 366 (by decide +kernel) (by decide +kernel)), wkX4⟩
theorem fgX4_16 : fok_ RX4 16 4 3 := ⟨_, _, _, rfl, by decide, (uw_mem 348 (by decide +kernel) (by decide +kernel)), wkX4⟩
theorem cpX4_57 : al_ RX4 57 := ⟨(uw_mem 1469 (by decide +kernel) (by decide +kernel)), (uw_mem 451 (by decide +kernel) (by decide +kernel)), (uw_mem 450 (by decide +kernel) (by decide +kernel)), (uw_mem 37 (by decide +kernel) (by decide +kernel))⟩
theorem fgX4_32 : fok_ RX4 32 4 8 := ⟨_, _, _, rfl, by decide, (uw_mem 358 (by decide +kernel) (by decide +kernel)), wkX4⟩
theorem ra_R_20 : ral_ ly_R 20 7 20 1 21 := ⟨_, rfl, fun a k h => (if_pos h).trans (congrArg some (by omega))⟩
theorem sr_R_21 : ∀ k, k < 20 → ly_R[1 * k + 21]? = some (ia_ 5) := by
  intro k hk
  rcases Nat.lt_or_ge k 10 with h | h
  · match k, h with
    | 0, _ => rfl
    | 1, _ => rfl
    | 2, _ => rfl
    | 3, _ => rfl
    | 4, _ => rfl
    | 5, _ => rfl
    | 6, _ => rfl
    | 7, _ => rfl
    | 8, _ => rfl
    | 9, _ => rfl
  · obtain ⟨j, rfl⟩ : ∃ j, k = j + 10 := ⟨k - 10, by omega⟩
    have h : j < 10 := by omega
    match j, h with
    | 0, _ => rfl
    | 1, _ => rfl
    | 2, _ => rfl
    | 3, _ => rfl
    | 4, _ => rfl
    | 5, _ => rfl
    | 6, _ => rfl
    | 7, _ => rfl
    | 8, _ => rfl
    | 9, _ => rfl
theorem fgX4_11 : fok_ RX4 11 4 2 := ⟨_, _, _, rfl, by decide, (uw_mem 347 (by decide +kernel) (by decide +kernel)), wkX4⟩
theorem ra_R_1 : ral_ ly_R 1 7 7 1 2 := ⟨_, rfl, fun a k h => (if_pos h).trans (congrArg some (by omega))⟩
theorem sr_R_2 : ∀ k, k < 7 → ly_R[1 * k + 2]? = some (ia_ 1001) := by
  intro k hk
  match k, hk with
  | 0, _ => rfl
  | 1, _ => rfl
  | 2, _ => rfl
  | 3, _ => rfl
  | 4, _ => rfl
  | 5, _ => rfl
  | 6, _ => rfl
theorem kX4_copyFrom {E : ev_} {H : Heap} {a b : Nat} {s : st_} {t : st_} {r : st_} (hm : fX4_copyFrom s t = some r) (h0 : has_ E H a ly_R s) (h1 : has_ E H b ly_R t) (hf : ev_fr E a) (d1 : a + 41 ≤ b ∨ b + 41 ≤ a) : sp_ E mX4_copyFrom [.ref a, .ref b] H (po1 (.inl (none)) (fun Hn => sm_ H Hn a 41 ∧ has_ E Hn a ly_R r)) := by
  refine sp_of (by decide +kernel) rfl rfl ?_
  generalize hQ : po1 _ _ = Q
  have hs : sm_ H H a 41 := sm_.rfl'
  unfold fX4_copyFrom at hm
  refine aw_lv (lv' := [(0, .ref a), (1, .ref b)]) [0, 1] rfl ?_
  refine aw_b (pc' := 2) (lv' := [(0, .ref a), (1, .ref b)]) (st' := [.ref b, .ref a]) [(0, .aload_n 0, 1, .null), (1, .aload_n 1, 1, .null)] (by decide +kernel) rfl ?_
  refine aw_gl (v := .int (t 0 0)) b 0 h1 eo_R_0 fgX4_35 rfl (by decide +kernel) ?_
  obtain ⟨s1, e2, hm⟩ := bd_x hm
  refine aw_pl a 0 h0 eo_R_0 fsq_4_0 fpX4_35 hf rfl rfl e2 (by decide +kernel) (fun H3 h0 z4 => ?_)
  have h1 := h1.kept (n := 41) z4 rfl (by omega)
  have hs := hs.step z4 (by omega) (by omega)
  refine aw_b (pc' := 10) (lv' := [(0, .ref a), (1, .ref b)]) (st' := [.ref b, .ref a]) [(8, .aload_n 0, 1, .null), (9, .aload_n 1, 1, .null)] (by decide +kernel) rfl ?_
  refine aw_gl (v := .int (t 0 1)) b 0 h1 eo_R_0 fgX4_39 rfl (by decide +kernel) ?_
  obtain ⟨s5, e6, hm⟩ := bd_x hm
  refine aw_pl a 0 h0 eo_R_0 fsq_4_1 fpX4_39 hf rfl rfl e6 (by decide +kernel) (fun H7 h0 z8 => ?_)
  have h1 := h1.kept (n := 41) z8 rfl (by omega)
  have hs := hs.step z8 (by omega) (by omega)
  refine aw_b (pc' := 18) (lv' := [(0, .ref a), (1, .ref b)]) (st' := [.ref b, .ref a]) [(16, .aload_n 0, 1, .null), (17, .aload_n 1, 1, .null)] (by decide +kernel) rfl ?_
  refine aw_gl (v := .int (t 0 9)) b 0 h1 eo_R_0 fgX4_42 rfl (by decide +kernel) ?_
  obtain ⟨s9, e10, hm⟩ := bd_x hm
  refine aw_pl a 0 h0 eo_R_0 fsq_4_9 fpX4_42 hf rfl rfl e10 (by decide +kernel) (fun H11 h0 z12 => ?_)
  have h1 := h1.kept (n := 41) z12 rfl (by omega)
  have hs := hs.step z12 (by omega) (by omega)
  refine aw_b (pc' := 26) (lv' := [(0, .ref a), (1, .ref b)]) (st' := [.ref b, .ref a]) [(24, .aload_n 0, 1, .null), (25, .aload_n 1, 1, .null)] (by decide +kernel) rfl ?_
  refine aw_gl (v := .int (t 0 10)) b 0 h1 eo_R_0 fgX4_45 rfl (by decide +kernel) ?_
  obtain ⟨s13, e14, hm⟩ := bd_x hm
  refine aw_pl a 0 h0 eo_R_0 fsq_4_10 fpX4_45 hf rfl rfl e14 (by decide +kernel) (fun H15 h0 z16 => ?_)
  have h1 := h1.kept (n := 41) z16 rfl (by omega)
  have hs := hs.step z16 (by omega) (by omega)
  refine aw_b (pc' := 34) (lv' := [(0, .ref a), (1, .ref b)]) (st' := [.ref b, .ref a]) [(32, .aload_n 0, 1, .null), (33, .aload_n 1, 1, .null)] (by decide +kernel) rfl ?_
  refine aw_gl (v := .int (t 0 11)) b 0 h1 eo_R_0 fgX4_48 rfl (by decide +kernel) ?_
  obtain ⟨s17, e18, hm⟩ := bd_x hm
  refine aw_pl a 0 h0 eo_R_0 fsq_4_11 fpX4_48 hf rfl rfl e18 (by decide +kernel) (fun H19 h0 z20 => ?_)
  have h1 := h1.kept (n := 41) z20 rfl (by omega)
  have hs := hs.step z20 (by omega) (by omega)
  refine aw_b (pc' := 42) (lv' := [(0, .ref a), (1, .ref b)]) (st' := [.ref b, .ref a]) [(40, .aload_n 0, 1, .null), (41, .aload_n 1, 1, .null)] (by decide +kernel) rfl ?_
  refine aw_gl (v := .int (t 0 12)) b 0 h1 eo_R_0 fgX4_51 rfl (by decide +kernel) ?_
  obtain ⟨s21, e22, hm⟩ := bd_x hm
  refine aw_pl a 0 h0 eo_R_0 fsq_4_12 fpX4_51 hf rfl rfl e22 (by decide +kernel) (fun H23 h0 z24 => ?_)
  have h1 := h1.kept (n := 41) z24 rfl (by omega)
  have hs := hs.step z24 (by omega) (by omega)
  refine aw_b (pc' := 50) (lv' := [(0, .ref a), (1, .ref b)]) (st' := [.ref b, .ref a]) [(48, .aload_n 0, 1, .null), (49, .aload_n 1, 1, .null)] (by decide +kernel) rfl ?_
  refine aw_gl (v := .int (t 0 13)) b 0 h1 eo_R_0 fgX4_54 rfl (by decide +kernel) ?_
  obtain ⟨s25, e26, hm⟩ := bd_x hm
  refine aw_pl a 0 h0 eo_R_0 fsq_4_13 fpX4_54 hf rfl rfl e26 (by decide +kernel) (fun H27 h0 z28 => ?_)
  have h1 := h1.kept (n := 41) z28 rfl (by omega)
  have hs := hs.step z28 (by omega) (by omega)
  refine aw_b (pc' := 58) (lv' := [(2, .int (0 : Int32)), (0, .ref a), (1, .ref b)]) (st' := []) [(56, .iconst 0, 1, .int (0 : Int32)), (57, .istore_n 2, 1, .null)] (by decide +kernel) rfl ?_
  obtain ⟨x58, hx58, hr58⟩ := bn_x hm
  have X58_97 : ∀ (s_x58_97 : st_) (H_x58_97 : Heap), has_ E H_x58_97 a ly_R s_x58_97 → has_ E H_x58_97 b ly_R t → sm_ H H_x58_97 a 41 → fX4_copyFrom_x58_97 t s_x58_97 = some r → aw E mX4_copyFrom Q 97 [(0, .ref a), (1, .ref b)] [] H_x58_97 0 0 := by
    intro s_x58_97 H_x58_97 h0 h1 hs hm
    unfold fX4_copyFrom_x58_97 at hm
    refine aw_b (pc' := 98) (lv' := [(0, .ref a), (1, .ref b)]) (st' := [.ref b]) [(97, .aload_n 1, 1, .null)] (by decide +kernel) rfl ?_
    refine aw_gl (v := .ref (b + 9)) b 0 h1 eo_R_0 fgX4_16 rfl (by decide +kernel) ?_
    refine aw_b (pc' := 103) (lv' := [(0, .ref a), (1, .ref b)]) (st' := [.ref a, .int (0 : Int32), .ref (b + 9)]) [(101, .iconst 0, 1, .int (0 : Int32)), (102, .aload_n 0, 1, .null)] (by decide +kernel) rfl ?_
    refine aw_gl (v := .ref (a + 9)) a 0 h0 eo_R_0 fgX4_16 rfl (by decide +kernel) ?_
    refine aw_b (pc' := 108) (lv' := [(0, .ref a), (1, .ref b)]) (st' := [.ref a, .int (0 : Int32), .ref (a + 9), .int (0 : Int32), .ref (b + 9)]) [(106, .iconst 0, 1, .int (0 : Int32)), (107, .aload_n 0, 1, .null)] (by decide +kernel) rfl ?_
    refine aw_gl (v := .ref (a + 9)) a 0 h0 eo_R_0 fgX4_16 rfl (by decide +kernel) ?_
    refine aw_all (ci := 0) (N := 1000) (v := (1000 : Int32)) a 9 h0 rfl (x := fun _ _ c => .inl c) (fun _ _ => rfl) rfl (by decide +kernel) (by decide +kernel) ?_
    obtain ⟨s29, e30, hm⟩ := bd_x hm
    refine aw_cpl (rest := []) b 9 a 9 h0 rfl h1 rfl cpX4_57 hf (by decide) (by decide +kernel) e30 rfl (Nat.le_of_ble_eq_true rfl) (by decide +kernel) (fun H31 h0 z32 => ?_)
    have h1 := h1.kept (n := 41) z32 rfl (by omega)
    have hs := hs.step z32 (by omega) (by omega)
    refine aw_b (pc' := 116) (lv' := [(0, .ref a), (1, .ref b)]) (st' := [.ref b]) [(115, .aload_n 1, 1, .null)] (by decide +kernel) rfl ?_
    refine aw_gl (v := .ref (b + 10)) b 0 h1 eo_R_0 fgX4_20 rfl (by decide +kernel) ?_
    refine aw_b (pc' := 121) (lv' := [(0, .ref a), (1, .ref b)]) (st' := [.ref a, .int (0 : Int32), .ref (b + 10)]) [(119, .iconst 0, 1, .int (0 : Int32)), (120, .aload_n 0, 1, .null)] (by decide +kernel) rfl ?_
    refine aw_gl (v := .ref (a + 10)) a 0 h0 eo_R_0 fgX4_20 rfl (by decide +kernel) ?_
    refine aw_b (pc' := 126) (lv' := [(0, .ref a), (1, .ref b)]) (st' := [.ref a, .int (0 : Int32), .ref (a + 10), .int (0 : Int32), .ref (b + 10)]) [(124, .iconst 0, 1, .int (0 : Int32)), (125, .aload_n 0, 1, .null)] (by decide +kernel) rfl ?_
    refine aw_gl (v := .ref (a + 10)) a 0 h0 eo_R_0 fgX4_20 rfl (by decide +kernel) ?_
    refine aw_all (ci := 0) (N := 6) (v := (6 : Int32)) a 10 h0 rfl (x := fun _ _ c => .inl c) (fun _ _ => rfl) rfl (by decide +kernel) (by decide +kernel) ?_
    obtain ⟨s33, e34, hm⟩ := bd_x hm
    refine aw_cpl (rest := []) b 10 a 10 h0 rfl h1 rfl cpX4_57 hf (by decide) (by decide +kernel) e34 rfl (Nat.le_of_ble_eq_true rfl) (by decide +kernel) (fun H35 h0 z36 => ?_)
    have h1 := h1.kept (n := 41) z36 rfl (by omega)
    have hs := hs.step z36 (by omega) (by omega)
    refine aw_b (pc' := 134) (lv' := [(0, .ref a), (1, .ref b)]) (st' := [.ref b]) [(133, .aload_n 1, 1, .null)] (by decide +kernel) rfl ?_
    refine aw_gl (v := .ref (b + 11)) b 0 h1 eo_R_0 fgX4_23 rfl (by decide +kernel) ?_
    refine aw_b (pc' := 139) (lv' := [(0, .ref a), (1, .ref b)]) (st' := [.ref a, .int (0 : Int32), .ref (b + 11)]) [(137, .iconst 0, 1, .int (0 : Int32)), (138, .aload_n 0, 1, .null)] (by decide +kernel) rfl ?_
    refine aw_gl (v := .ref (a + 11)) a 0 h0 eo_R_0 fgX4_23 rfl (by decide +kernel) ?_
    refine aw_b (pc' := 144) (lv' := [(0, .ref a), (1, .ref b)]) (st' := [.ref a, .int (0 : Int32), .ref (a + 11), .int (0 : Int32), .ref (b + 11)]) [(142, .iconst 0, 1, .int (0 : Int32)), (143, .aload_n 0, 1, .null)] (by decide +kernel) rfl ?_
    refine aw_gl (v := .ref (a + 11)) a 0 h0 eo_R_0 fgX4_23 rfl (by decide +kernel) ?_
    refine aw_all (ci := 0) (N := 6) (v := (6 : Int32)) a 11 h0 rfl (x := fun _ _ c => .inl c) (fun _ _ => rfl) rfl (by decide +kernel) (by decide +kernel) ?_
    obtain ⟨s37, e38, hm⟩ := bd_x hm
    refine aw_cpl (rest := []) b 11 a 11 h0 rfl h1 rfl cpX4_57 hf (by decide) (by decide +kernel) e38 rfl (Nat.le_of_ble_eq_true rfl) (by decide +kernel) (fun H39 h0 z40 => ?_)
    have h1 := h1.kept (n := 41) z40 rfl (by omega)
    have hs := hs.step z40 (by omega) (by omega)
    refine aw_b (pc' := 152) (lv' := [(0, .ref a), (1, .ref b)]) (st' := [.ref b]) [(151, .aload_n 1, 1, .null)] (by decide +kernel) rfl ?_
    refine aw_gl (v := .ref (b + 12)) b 0 h1 eo_R_0 fgX4_26 rfl (by decide +kernel) ?_
    refine aw_b (pc' := 157) (lv' := [(0, .ref a), (1, .ref b)]) (st' := [.ref a, .int (0 : Int32), .ref (b + 12)]) [(155, .iconst 0, 1, .int (0 : Int32)), (156, .aload_n 0, 1, .null)] (by decide +kernel) rfl ?_
    refine aw_gl (v := .ref (a + 12)) a 0 h0 eo_R_0 fgX4_26 rfl (by decide +kernel) ?_
    refine aw_b (pc' := 162) (lv' := [(0, .ref a), (1, .ref b)]) (st' := [.ref a, .int (0 : Int32), .ref (a + 12), .int (0 : Int32), .ref (b + 12)]) [(160, .iconst 0, 1, .int (0 : Int32)), (161, .aload_n 0, 1, .null)] (by decide +kernel) rfl ?_
    refine aw_gl (v := .ref (a + 12)) a 0 h0 eo_R_0 fgX4_26 rfl (by decide +kernel) ?_
    refine aw_all (ci := 0) (N := 6) (v := (6 : Int32)) a 12 h0 rfl (x := fun _ _ c => .inl c) (fun _ _ => rfl) rfl (by decide +kernel) (by decide +kernel) ?_
    obtain ⟨s41, e42, hm⟩ := bd_x hm
    refine aw_cpl (rest := []) b 12 a 12 h0 rfl h1 rfl cpX4_57 hf (by decide) (by decide +kernel) e42 rfl (Nat.le_of_ble_eq_true rfl) (by decide +kernel) (fun H43 h0 z44 => ?_)
    have h1 := h1.kept (n := 41) z44 rfl (by omega)
    have hs := hs.step z44 (by omega) (by omega)
    refine aw_b (pc' := 171) (lv' := [(2, .int (0 : Int32)), (0, .ref a), (1, .ref b)]) (st' := []) [(169, .iconst 0, 1, .int (0 : Int32)), (170, .istore_n 2, 1, .null)] (by decide +kernel) rfl ?_
    obtain ⟨x171, hx171, hr171⟩ := bn_x hm
    have X171_210 : ∀ (s_x171_210 : st_) (H_x171_210 : Heap), has_ E H_x171_210 a ly_R s_x171_210 → has_ E H_x171_210 b ly_R t → sm_ H H_x171_210 a 41 → fX4_copyFrom_x171_210 t s_x171_210 = some r → aw E mX4_copyFrom Q 210 [(0, .ref a), (1, .ref b)] [] H_x171_210 0 0 := by
      intro s_x171_210 H_x171_210 h0 h1 hs hm
      unfold fX4_copyFrom_x171_210 at hm
      refine aw_b (pc' := 212) (lv' := [(2, .int (0 : Int32)), (0, .ref a), (1, .ref b)]) (st' := []) [(210, .iconst 0, 1, .int (0 : Int32)), (211, .istore_n 2, 1, .null)] (by decide +kernel) rfl ?_
      obtain ⟨x212, hx212, hr212⟩ := bn_x hm
      have X212_251 : ∀ (s_x212_251 : st_) (H_x212_251 : Heap), has_ E H_x212_251 a ly_R s_x212_251 → has_ E H_x212_251 b ly_R t → sm_ H H_x212_251 a 41 → fX4_copyFrom_x212_251 s_x212_251 = some r → aw E mX4_copyFrom Q 251 [] [] H_x212_251 0 0 := by
        intro s_x212_251 H_x212_251 h0 h1 hs hm
        unfold fX4_copyFrom_x212_251 at hm
        obtain rfl := Option.some.inj hm
        subst hQ
        exact aw_vret rfl (Nat.zero_le _) (Nat.zero_le _) (by decide +kernel) ⟨rfl, hs, h0⟩
      have L212 : ∀ (fu : Nat) (v2_b212 : Int32) (s_b212 : st_) (H_b212 : Heap), has_ E H_b212 a ly_R s_b212 → has_ E H_b212 b ly_R t → sm_ H H_b212 a 41 → fX4_copyFrom_l212 t fu (v2_b212, s_b212) = some x212 → aw E mX4_copyFrom Q 212 [(0, .ref a), (1, .ref b), (2, .int v2_b212)] [] H_b212 0 0 := by
        intro fu
        induction fu with
        | zero =>
          intro v2_b212 s_b212 H_b212 h0 h1 hs hm
          exact (it_0 hm).elim
        | succ fu ih212 =>
          intro v2_b212 s_b212 H_b212 h0 h1 hs hm
          obtain ⟨y212, hm, hk212⟩ := it_s hm
          have hm : fX4_copyFrom_b212 t v2_b212 s_b212 = some y212 := hm
          unfold fX4_copyFrom_b212 at hm
          refine aw_b (pc' := 214) (lv' := [(0, .ref a), (1, .ref b), (2, .int v2_b212)]) (st' := [.ref a, .int v2_b212]) [(212, .iload_n 2, 1, .null), (213, .aload_n 0, 1, .null)] (by decide +kernel) rfl ?_
          refine aw_gl (v := .ref (a + 20)) a 0 h0 eo_R_0 fgX4_32 rfl (by decide +kernel) ?_
          refine aw_all (ci := 7) (N := 20) (v := (20 : Int32)) a 20 h0 rfl (x := fun _ a _ => .inr (.inr (.inr (.inr fun k => if k < 20 then some (a + (1 * k + 21)) else none)))) (fun _ _ => rfl) rfl (by decide +kernel) (by decide +kernel) ?_
          refine aw_ic_ge (off := 33) 251 (by decide) (by decide +kernel) (fun hc => ?_) (fun hc => ?_)
          · have hm := (if_pos hc).symm.trans hm
            cases hm
            refine aw_lv (lv' := []) [] rfl ?_
            exact X212_251 s_b212 H_b212 h0 h1 hs ((congrArg fX4_copyFrom_k212 (show (s_b212) = x212 from hk212)).trans hr212)
          · have hm := (if_neg hc).symm.trans hm
            refine aw_b (pc' := 222) (lv' := [(0, .ref a), (1, .ref b), (2, .int v2_b212)]) (st' := [.ref b]) [(221, .aload_n 1, 1, .null)] (by decide +kernel) rfl ?_
            refine aw_gl (v := .ref (b + 20)) b 0 h1 eo_R_0 fgX4_32 rfl (by decide +kernel) ?_
            refine aw_b (pc' := 226) (lv' := [(0, .ref a), (1, .ref b), (2, .int v2_b212)]) (st' := [.int v2_b212, .ref (b + 20)]) [(225, .iload_n 2, 1, .null)] (by decide +kernel) rfl ?_
            obtain ⟨g45, hm⟩ := gd_x hm
            refine aw_iall b 20 h1 ra_R_20 g45 (by decide +kernel) ?_
            refine aw_b (pc' := 229) (lv' := [(0, .ref a), (1, .ref b), (2, .int v2_b212)]) (st' := [.ref a, .int (0 : Int32), .ref (b + (1 * ix_ v2_b212 + 21))]) [(227, .iconst 0, 1, .int (0 : Int32)), (228, .aload_n 0, 1, .null)] (by decide +kernel) rfl ?_
            refine aw_gl (v := .ref (a + 20)) a 0 h0 eo_R_0 fgX4_32 rfl (by decide +kernel) ?_
            refine aw_b (pc' := 233) (lv' := [(0, .ref a), (1, .ref b), (2, .int v2_b212)]) (st' := [.int v2_b212, .ref (a + 20), .int (0 : Int32), .ref (b + (1 * ix_ v2_b212 + 21))]) [(232, .iload_n 2, 1, .null)] (by decide +kernel) rfl ?_
            obtain ⟨g46, hm⟩ := gd_x hm
            refine aw_iall a 20 h0 ra_R_20 g46 (by decide +kernel) ?_
            refine aw_b (pc' := 236) (lv' := [(0, .ref a), (1, .ref b), (2, .int v2_b212)]) (st' := [.ref a, .int (0 : Int32), .ref (a + (1 * ix_ v2_b212 + 21)), .int (0 : Int32), .ref (b + (1 * ix_ v2_b212 + 21))]) [(234, .iconst 0, 1, .int (0 : Int32)), (235, .aload_n 0, 1, .null)] (by decide +kernel) rfl ?_
            refine aw_gl (v := .ref (a + 20)) a 0 h0 eo_R_0 fgX4_32 rfl (by decide +kernel) ?_
            refine aw_b (pc' := 240) (lv' := [(0, .ref a), (1, .ref b), (2, .int v2_b212)]) (st' := [.int v2_b212, .ref (a + 20), .int (0 : Int32), .ref (a + (1 * ix_ v2_b212 + 21)), .int (0 : Int32), .ref (b + (1 * ix_ v2_b212 + 21))]) [(239, .iload_n 2, 1, .null)] (by decide +kernel) rfl ?_
            obtain ⟨g47, hm⟩ := gd_x hm
            refine aw_iall a 20 h0 ra_R_20 g47 (by decide +kernel) ?_
            refine aw_all (ci := 0) (N := 5) (v := (5 : Int32)) a (1 * ix_ v2_b212 + 21) h0 (sr_R_21 _ (ib_lt g47)) (x := fun _ _ c => .inl c) (fun _ _ => rfl) rfl (by decide +kernel) (by decide +kernel) ?_
            obtain ⟨s48, e49, hm⟩ := bd_x hm
            refine aw_cpl (rest := []) b (1 * ix_ v2_b212 + 21) a (1 * ix_ v2_b212 + 21) h0 (sr_R_21 _ (ib_lt g46)) h1 (sr_R_21 _ (ib_lt g45)) cpX4_57 hf (by decide) (by decide +kernel) e49 rfl (Nat.le_of_ble_eq_true rfl) (by decide +kernel) (fun H50 h0 z51 => ?_)
            have hlt := ib_lt g46
            have h1 := h1.kept (n := 41) z51 rfl (by omega)
            have hs := hs.step z51 (by omega) (by omega)
            refine aw_b (pc' := 212) (lv' := [(2, .int (v2_b212 + (1 : Int32))), (0, .ref a), (1, .ref b)]) (st' := []) [(245, .iinc 2 1, 3, .int (1 : Int32)), (248, .goto (-36), 3, .null)] (by decide +kernel) rfl ?_
            cases hm
            refine aw_lv (lv' := [(0, .ref a), (1, .ref b), (2, .int (v2_b212 + (1 : Int32)))]) [1, 2, 0] rfl ?_
            exact ih212 (v2_b212 + (1 : Int32)) s48 H50 h0 h1 hs hk212
      refine aw_lv (lv' := [(0, .ref a), (1, .ref b), (2, .int (0 : Int32))]) [1, 2, 0] rfl ?_
      exact L212 FU_ (0 : Int32) s_x171_210 H_x171_210 h0 h1 hs hx212
    have L171 : ∀ (fu : Nat) (v2_b171 : Int32) (s_b171 : st_) (H_b171 : Heap), has_ E H_b171 a ly_R s_b171 → has_ E H_b171 b ly_R t → sm_ H H_b171 a 41 → fX4_copyFrom_l171 t fu (v2_b171, s_b171) = some x171 → aw E mX4_copyFrom Q 171 [(0, .ref a), (1, .ref b), (2, .int v2_b171)] [] H_b171 0 0 := by
      intro fu
      induction fu with
      | zero =>
        intro v2_b171 s_b171 H_b171 h0 h1 hs hm
        exact (it_0 hm).elim
      | succ fu ih171 =>
        intro v2_b171 s_b171 H_b171 h0 h1 hs hm
        obtain ⟨y171, hm, hk171⟩ := it_s hm
        have hm : fX4_copyFrom_b171 t v2_b171 s_b171 = some y171 := hm
        unfold fX4_copyFrom_b171 at hm
        refine aw_b (pc' := 173) (lv' := [(0, .ref a), (1, .ref b), (2, .int v2_b171)]) (st' := [.ref a, .int v2_b171]) [(171, .iload_n 2, 1, .null), (172, .aload_n 0, 1, .null)] (by decide +kernel) rfl ?_
        refine aw_gl (v := .ref (a + 13)) a 0 h0 eo_R_0 fgX4_29 rfl (by decide +kernel) ?_
        refine aw_all (ci := 7) (N := 6) (v := (6 : Int32)) a 13 h0 rfl (x := fun _ a _ => .inr (.inr (.inr (.inr fun k => if k < 6 then some (a + (1 * k + 14)) else none)))) (fun _ _ => rfl) rfl (by decide +kernel) (by decide +kernel) ?_
        refine aw_ic_ge (off := 33) 210 (by decide) (by decide +kernel) (fun hc => ?_) (fun hc => ?_)
        · have hm := (if_pos hc).symm.trans hm
          cases hm
          refine aw_lv (lv' := [(0, .ref a), (1, .ref b)]) [0, 1] rfl ?_
          exact X171_210 s_b171 H_b171 h0 h1 hs ((congrArg (fX4_copyFrom_k171 t) (show (s_b171) = x171 from hk171)).trans hr171)
        · have hm := (if_neg hc).symm.trans hm
          refine aw_b (pc' := 181) (lv' := [(0, .ref a), (1, .ref b), (2, .int v2_b171)]) (st' := [.ref b]) [(180, .aload_n 1, 1, .null)] (by decide +kernel) rfl ?_
          refine aw_gl (v := .ref (b + 13)) b 0 h1 eo_R_0 fgX4_29 rfl (by decide +kernel) ?_
          refine aw_b (pc' := 185) (lv' := [(0, .ref a), (1, .ref b), (2, .int v2_b171)]) (st' := [.int v2_b171, .ref (b + 13)]) [(184, .iload_n 2, 1, .null)] (by decide +kernel) rfl ?_
          obtain ⟨g52, hm⟩ := gd_x hm
          refine aw_iall b 13 h1 ra_R_13 g52 (by decide +kernel) ?_
          refine aw_b (pc' := 188) (lv' := [(0, .ref a), (1, .ref b), (2, .int v2_b171)]) (st' := [.ref a, .int (0 : Int32), .ref (b + (1 * ix_ v2_b171 + 14))]) [(186, .iconst 0, 1, .int (0 : Int32)), (187, .aload_n 0, 1, .null)] (by decide +kernel) rfl ?_
          refine aw_gl (v := .ref (a + 13)) a 0 h0 eo_R_0 fgX4_29 rfl (by decide +kernel) ?_
          refine aw_b (pc' := 192) (lv' := [(0, .ref a), (1, .ref b), (2, .int v2_b171)]) (st' := [.int v2_b171, .ref (a + 13), .int (0 : Int32), .ref (b + (1 * ix_ v2_b171 + 14))]) [(191, .iload_n 2, 1, .null)] (by decide +kernel) rfl ?_
          obtain ⟨g53, hm⟩ := gd_x hm
          refine aw_iall a 13 h0 ra_R_13 g53 (by decide +kernel) ?_
          refine aw_b (pc' := 195) (lv' := [(0, .ref a), (1, .ref b), (2, .int v2_b171)]) (st' := [.ref a, .int (0 : Int32), .ref (a + (1 * ix_ v2_b171 + 14)), .int (0 : Int32), .ref (b + (1 * ix_ v2_b171 + 14))]) [(193, .iconst 0, 1, .int (0 : Int32)), (194, .aload_n 0, 1, .null)] (by decide +kernel) rfl ?_
          refine aw_gl (v := .ref (a + 13)) a 0 h0 eo_R_0 fgX4_29 rfl (by decide +kernel) ?_
          refine aw_b (pc' := 199) (lv' := [(0, .ref a), (1, .ref b), (2, .int v2_b171)]) (st' := [.int v2_b171, .ref (a + 13), .int (0 : Int32), .ref (a + (1 * ix_ v2_b171 + 14)), .int (0 : Int32), .ref (b + (1 * ix_ v2_b171 + 14))]) [(198, .iload_n 2, 1, .null)] (by decide +kernel) rfl ?_
          obtain ⟨g54, hm⟩ := gd_x hm
          refine aw_iall a 13 h0 ra_R_13 g54 (by decide +kernel) ?_
          refine aw_all (ci := 0) (N := 6) (v := (6 : Int32)) a (1 * ix_ v2_b171 + 14) h0 (sr_R_14 _ (ib_lt g54)) (x := fun _ _ c => .inl c) (fun _ _ => rfl) rfl (by decide +kernel) (by decide +kernel) ?_
          obtain ⟨s55, e56, hm⟩ := bd_x hm
          refine aw_cpl (rest := []) b (1 * ix_ v2_b171 + 14) a (1 * ix_ v2_b171 + 14) h0 (sr_R_14 _ (ib_lt g53)) h1 (sr_R_14 _ (ib_lt g52)) cpX4_57 hf (by decide) (by decide +kernel) e56 rfl (Nat.le_of_ble_eq_true rfl) (by decide +kernel) (fun H57 h0 z58 => ?_)
          have hlt := ib_lt g53
          have h1 := h1.kept (n := 41) z58 rfl (by omega)
          have hs := hs.step z58 (by omega) (by omega)
          refine aw_b (pc' := 171) (lv' := [(2, .int (v2_b171 + (1 : Int32))), (0, .ref a), (1, .ref b)]) (st' := []) [(204, .iinc 2 1, 3, .int (1 : Int32)), (207, .goto (-36), 3, .null)] (by decide +kernel) rfl ?_
          cases hm
          refine aw_lv (lv' := [(0, .ref a), (1, .ref b), (2, .int (v2_b171 + (1 : Int32)))]) [1, 2, 0] rfl ?_
          exact ih171 (v2_b171 + (1 : Int32)) s55 H57 h0 h1 hs hk171
    refine aw_lv (lv' := [(0, .ref a), (1, .ref b), (2, .int (0 : Int32))]) [1, 2, 0] rfl ?_
    exact L171 FU_ (0 : Int32) s41 H43 h0 h1 hs hx171
  have L58 : ∀ (fu : Nat) (v2_b58 : Int32) (s_b58 : st_) (H_b58 : Heap), has_ E H_b58 a ly_R s_b58 → has_ E H_b58 b ly_R t → sm_ H H_b58 a 41 → fX4_copyFrom_l58 t fu (v2_b58, s_b58) = some x58 → aw E mX4_copyFrom Q 58 [(0, .ref a), (1, .ref b), (2, .int v2_b58)] [] H_b58 0 0 := by
    intro fu
    induction fu with
    | zero =>
      intro v2_b58 s_b58 H_b58 h0 h1 hs hm
      exact (it_0 hm).elim
    | succ fu ih58 =>
      intro v2_b58 s_b58 H_b58 h0 h1 hs hm
      obtain ⟨y58, hm, hk58⟩ := it_s hm
      have hm : fX4_copyFrom_b58 t v2_b58 s_b58 = some y58 := hm
      unfold fX4_copyFrom_b58 at hm
      refine aw_b (pc' := 60) (lv' := [(0, .ref a), (1, .ref b), (2, .int v2_b58)]) (st' := [.ref a, .int v2_b58]) [(58, .iload_n 2, 1, .null), (59, .aload_n 0, 1, .null)] (by decide +kernel) rfl ?_
      refine aw_gl (v := .ref (a + 1)) a 0 h0 eo_R_0 fgX4_11 rfl (by decide +kernel) ?_
      refine aw_all (ci := 7) (N := 7) (v := (7 : Int32)) a 1 h0 rfl (x := fun _ a _ => .inr (.inr (.inr (.inr fun k => if k < 7 then some (a + (1 * k + 2)) else none)))) (fun _ _ => rfl) rfl (by decide +kernel) (by decide +kernel) ?_
      refine aw_ic_ge (off := 33) 97 (by decide) (by decide +kernel) (fun hc => ?_) (fun hc => ?_)
      · have hm := (if_pos hc).symm.trans hm
        cases hm
        refine aw_lv (lv' := [(0, .ref a), (1, .ref b)]) [0, 1] rfl ?_
        exact X58_97 s_b58 H_b58 h0 h1 hs ((congrArg (fX4_copyFrom_k58 t) (show (s_b58) = x58 from hk58)).trans hr58)
      · have hm := (if_neg hc).symm.trans hm
        refine aw_b (pc' := 68) (lv' := [(0, .ref a), (1, .ref b), (2, .int v2_b58)]) (st' := [.ref b]) [(67, .aload_n 1, 1, .null)] (by decide +kernel) rfl ?_
        refine aw_gl (v := .ref (b + 1)) b 0 h1 eo_R_0 fgX4_11 rfl (by decide +kernel) ?_
        refine aw_b (pc' := 72) (lv' := [(0, .ref a), (1, .ref b), (2, .int v2_b58)]) (st' := [.int v2_b58, .ref (b + 1)]) [(71, .iload_n 2, 1, .null)] (by decide +kernel) rfl ?_
        obtain ⟨g59, hm⟩ := gd_x hm
        refine aw_iall b 1 h1 ra_R_1 g59 (by decide +kernel) ?_
        refine aw_b (pc' := 75) (lv' := [(0, .ref a), (1, .ref b), (2, .int v2_b58)]) (st' := [.ref a, .int (0 : Int32), .ref (b + (1 * ix_ v2_b58 + 2))]) [(73, .iconst 0, 1, .int (0 : Int32)), (74, .aload_n 0, 1, .null)] (by decide +kernel) rfl ?_
        refine aw_gl (v := .ref (a + 1)) a 0 h0 eo_R_0 fgX4_11 rfl (by decide +kernel) ?_
        refine aw_b (pc' := 79) (lv' := [(0, .ref a), (1, .ref b), (2, .int v2_b58)]) (st' := [.int v2_b58, .ref (a + 1), .int (0 : Int32), .ref (b + (1 * ix_ v2_b58 + 2))]) [(78, .iload_n 2, 1, .null)] (by decide +kernel) rfl ?_
        obtain ⟨g60, hm⟩ := gd_x hm
        refine aw_iall a 1 h0 ra_R_1 g60 (by decide +kernel) ?_
        refine aw_b (pc' := 82) (lv' := [(0, .ref a), (1, .ref b), (2, .int v2_b58)]) (st' := [.ref a, .int (0 : Int32), .ref (a + (1 * ix_ v2_b58 + 2)), .int (0 : Int32), .ref (b + (1 * ix_ v2_b58 + 2))]) [(80, .iconst 0, 1, .int (0 : Int32)), (81, .aload_n 0, 1, .null)] (by decide +kernel) rfl ?_
        refine aw_gl (v := .ref (a + 1)) a 0 h0 eo_R_0 fgX4_11 rfl (by decide +kernel) ?_
        refine aw_b (pc' := 86) (lv' := [(0, .ref a), (1, .ref b), (2, .int v2_b58)]) (st' := [.int v2_b58, .ref (a + 1), .int (0 : Int32), .ref (a + (1 * ix_ v2_b58 + 2)), .int (0 : Int32), .ref (b + (1 * ix_ v2_b58 + 2))]) [(85, .iload_n 2, 1, .null)] (by decide +kernel) rfl ?_
        obtain ⟨g61, hm⟩ := gd_x hm
        refine aw_iall a 1 h0 ra_R_1 g61 (by decide +kernel) ?_
        refine aw_all (ci := 0) (N := 1001) (v := (1001 : Int32)) a (1 * ix_ v2_b58 + 2) h0 (sr_R_2 _ (ib_lt g61)) (x := fun _ _ c => .inl c) (fun _ _ => rfl) rfl (by decide +kernel) (by decide +kernel) ?_
        obtain ⟨s62, e63, hm⟩ := bd_x hm
        refine aw_cpl (rest := []) b (1 * ix_ v2_b58 + 2) a (1 * ix_ v2_b58 + 2) h0 (sr_R_2 _ (ib_lt g60)) h1 (sr_R_2 _ (ib_lt g59)) cpX4_57 hf (by decide) (by decide +kernel) e63 rfl (Nat.le_of_ble_eq_true rfl) (by decide +kernel) (fun H64 h0 z65 => ?_)
        have hlt := ib_lt g60
        have h1 := h1.kept (n := 41) z65 rfl (by omega)
        have hs := hs.step z65 (by omega) (by omega)
        refine aw_b (pc' := 58) (lv' := [(2, .int (v2_b58 + (1 : Int32))), (0, .ref a), (1, .ref b)]) (st' := []) [(91, .iinc 2 1, 3, .int (1 : Int32)), (94, .goto (-36), 3, .null)] (by decide +kernel) rfl ?_
        cases hm
        refine aw_lv (lv' := [(0, .ref a), (1, .ref b), (2, .int (v2_b58 + (1 : Int32)))]) [1, 2, 0] rfl ?_
        exact ih58 (v2_b58 + (1 : Int32)) s62 H64 h0 h1 hs hk58
  refine aw_lv (lv' := [(0, .ref a), (1, .ref b), (2, .int (0 : Int32))]) [1, 2, 0] rfl ?_
  exact L58 FU_ (0 : Int32) s25 H27 h0 h1 hs hx58
def mX4_noteSwaps : mt_ := (yX4_noteSwaps, cX4_noteSwaps, 3, none, [], { frames := 3, locals := 74, cells := 0, slots := 0 })
theorem ckX4_noteSwaps : cokV_ mX4_noteSwaps := ⟨⟨(uw_mem 1145 (by decide +kernel) (by decide +kernel)), (uw_mem 35 (by decide +kernel) (by decide +kernel)), by decide +kernel, by decide +kernel⟩, (uw_mem 1143 (by decide +kernel) (by decide +kernel)), (uw_mem 1144 (by decide +kernel) (by decide +kernel))⟩
theorem nkX4_noteSwaps : nok_ mX4_noteSwaps 1 := by decide +kernel
theorem fgX4_63 : fok_ RX4 63 1 0 := ⟨_, _, _, rfl, by decide, (uw_mem 281 (by decide +kernel) (by decide +kernel)), wkX1⟩
theorem fgX4_69 : fok_ RX4 69 1 12 := ⟨_, _, _, rfl, by decide, (uw_mem 304 (by decide +kernel) (by decide +kernel)), wkX1⟩
theorem lkX4_72 : Cond.methodLink RX4 72 yX5_hasRule ∈ uw_ := (uw_mem 1146 (by decide +kernel) (by decide +kernel))
theorem fgX4_78 : fok_ RX4 78 1 1 := ⟨_, _, _, rfl, by decide, (uw_mem 283 (by decide +kernel) (by decide +kernel)), wkX1⟩
theorem lkX4_82 : Cond.methodLink RX4 82 yX0_costBy ∈ uw_ := (uw_mem 1147 (by decide +kernel) (by decide +kernel))
theorem kX4_noteSwaps {E : ev_} {H : Heap} {a b : Nat} {s : st_} {t : st_} {r : st_} (hm : fX4_noteSwaps s t = some r) (h0 : has_ E H a ly_R s) (h1 : has_ E H b ly_D t) (hf : ev_fr E a) (d1 : a + 41 ≤ b ∨ b + 33 ≤ a) : sp_ E mX4_noteSwaps [.ref a, .ref b] H (po1 (.inl (none)) (fun Hn => sm_ H Hn a 41 ∧ has_ E Hn a ly_R r)) := by
  refine sp_of (by decide +kernel) rfl rfl ?_
  generalize hQ : po1 _ _ = Q
  have hs : sm_ H H a 41 := sm_.rfl'
  unfold fX4_noteSwaps at hm
  refine aw_lv (lv' := [(0, .ref a), (1, .ref b)]) [0, 1] rfl ?_
  refine aw_b (pc' := 1) (lv' := [(0, .ref a), (1, .ref b)]) (st' := [.ref b]) [(0, .aload_n 1, 1, .null)] (by decide +kernel) rfl ?_
  refine aw_gl (v := .ref (b + 1)) b 0 h1 eo_D_0 fgX4_63 rfl (by decide +kernel) ?_
  refine aw_b (pc' := 5) (lv' := [(0, .ref a), (1, .ref b)]) (st' := [.ref b, .ref (b + 1)]) [(4, .aload_n 1, 1, .null)] (by decide +kernel) rfl ?_
  refine aw_gl (v := .int (t 0 12)) b 0 h1 eo_D_0 fgX4_69 rfl (by decide +kernel) ?_
  obtain ⟨r1, e2, hm⟩ := bn_x hm
  refine aw_cv (rest := []) (st1 := [.int r1]) b 1 (kX5_hasRule e2 (h1.sub su_D_1_S)) rfl rfl ckX5_hasRule lkX4_72 h1 eo_D_1 ⟨_, _, rfl⟩ nkX5_hasRule rfl rfl rfl (Nat.le_of_ble_eq_true rfl) (Nat.zero_le _) (Nat.zero_le _) (by decide +kernel) (fun H3 z4 => ?_)
  have h0 := h0.kept0 z4
  have h1 := h1.kept0 z4
  have hs := hs.step0 z4
  refine aw_if_ne (off := 4) 15 (by decide) (by decide +kernel) (fun hc => ?_) (fun hc => ?_)
  · have hm := (if_neg hc).symm.trans hm
    refine aw_b (pc' := 17) (lv' := [(2, .int (0 : Int32)), (0, .ref a), (1, .ref b)]) (st' := []) [(15, .iconst 0, 1, .int (0 : Int32)), (16, .istore_n 2, 1, .null)] (by decide +kernel) rfl ?_
    obtain ⟨x17, hx17, hr17⟩ := bn_x hm
    have X17_57 : ∀ (s_x17_57 : st_) (H_x17_57 : Heap), has_ E H_x17_57 a ly_R s_x17_57 → has_ E H_x17_57 b ly_D t → sm_ H H_x17_57 a 41 → fX4_noteSwaps_x17_57 s_x17_57 = some r → aw E mX4_noteSwaps Q 57 [] [] H_x17_57 0 0 := by
      intro s_x17_57 H_x17_57 h0 h1 hs hm
      unfold fX4_noteSwaps_x17_57 at hm
      obtain rfl := Option.some.inj hm
      subst hQ
      exact aw_vret rfl (Nat.zero_le _) (Nat.zero_le _) (by decide +kernel) ⟨rfl, hs, h0⟩
    have L17 : ∀ (fu : Nat) (v2_b17 : Int32) (s_b17 : st_) (H_b17 : Heap), has_ E H_b17 a ly_R s_b17 → has_ E H_b17 b ly_D t → sm_ H H_b17 a 41 → fX4_noteSwaps_l17 t fu (v2_b17, s_b17) = some x17 → aw E mX4_noteSwaps Q 17 [(0, .ref a), (1, .ref b), (2, .int v2_b17)] [] H_b17 0 0 := by
      intro fu
      induction fu with
      | zero =>
        intro v2_b17 s_b17 H_b17 h0 h1 hs hm
        exact (it_0 hm).elim
      | succ fu ih17 =>
        intro v2_b17 s_b17 H_b17 h0 h1 hs hm
        obtain ⟨y17, hm, hk17⟩ := it_s hm
        have hm : fX4_noteSwaps_b17 t v2_b17 s_b17 = some y17 := hm
        unfold fX4_noteSwaps_b17 at hm
        refine aw_b (pc' := 19) (lv' := [(0, .ref a), (1, .ref b), (2, .int v2_b17)]) (st' := [.ref a, .int v2_b17]) [(17, .iload_n 2, 1, .null), (18, .aload_n 0, 1, .null)] (by decide +kernel) rfl ?_
        refine aw_gl (v := .int (s_b17 0 0)) a 0 h0 eo_R_0 fgX4_35 rfl (by decide +kernel) ?_
        refine aw_ic_ge (off := 35) 57 (by decide) (by decide +kernel) (fun hc => ?_) (fun hc => ?_)
        · have hm := (if_pos hc).symm.trans hm
          cases hm
          refine aw_lv (lv' := []) [] rfl ?_
          exact X17_57 s_b17 H_b17 h0 h1 hs ((congrArg fX4_noteSwaps_k17 (show (s_b17) = x17 from hk17)).trans hr17)
        · have hm := (if_neg hc).symm.trans hm
          refine aw_b (pc' := 26) (lv' := [(0, .ref a), (1, .ref b), (2, .int v2_b17)]) (st' := [.ref a]) [(25, .aload_n 0, 1, .null)] (by decide +kernel) rfl ?_
          refine aw_gl (v := .ref (a + 13)) a 0 h0 eo_R_0 fgX4_29 rfl (by decide +kernel) ?_
          refine aw_b (pc' := 30) (lv' := [(0, .ref a), (1, .ref b), (2, .int v2_b17)]) (st' := [.ref b, .ref (a + 13)]) [(29, .aload_n 1, 1, .null)] (by decide +kernel) rfl ?_
          refine aw_gl (v := .int (t 0 12)) b 0 h1 eo_D_0 fgX4_69 rfl (by decide +kernel) ?_
          obtain ⟨g5, hm⟩ := gd_x hm
          refine aw_iall a 13 h0 ra_R_13 g5 (by decide +kernel) ?_
          refine aw_b (pc' := 36) (lv' := [(0, .ref a), (1, .ref b), (2, .int v2_b17)]) (st' := [.int v2_b17, .ref (a + (1 * ix_ (t 0 12) + 14)), .int v2_b17, .ref (a + (1 * ix_ (t 0 12) + 14))]) [(34, .iload_n 2, 1, .null), (35, .dup2, 1, .null)] (by decide +kernel) rfl ?_
          obtain ⟨g6, hm⟩ := gd_x hm
          refine aw_ial a (1 * ix_ (t 0 12) + 14) h0 (sr_R_14 _ (ib_lt g5)) g6 (by decide +kernel) ?_
          refine aw_b (pc' := 38) (lv' := [(0, .ref a), (1, .ref b), (2, .int v2_b17)]) (st' := [.ref b, .int (s_b17 (1 * ix_ (t 0 12) + 14) (ix_ v2_b17)), .int v2_b17, .ref (a + (1 * ix_ (t 0 12) + 14))]) [(37, .aload_n 1, 1, .null)] (by decide +kernel) rfl ?_
          refine aw_gl (v := .ref (b + 5)) b 0 h1 eo_D_0 fgX4_78 rfl (by decide +kernel) ?_
          refine aw_b (pc' := 42) (lv' := [(0, .ref a), (1, .ref b), (2, .int v2_b17)]) (st' := [.ref b, .ref (b + 5), .int (s_b17 (1 * ix_ (t 0 12) + 14) (ix_ v2_b17)), .int v2_b17, .ref (a + (1 * ix_ (t 0 12) + 14))]) [(41, .aload_n 1, 1, .null)] (by decide +kernel) rfl ?_
          refine aw_gl (v := .ref (b + 1)) b 0 h1 eo_D_0 fgX4_63 rfl (by decide +kernel) ?_
          refine aw_b (pc' := 46) (lv' := [(0, .ref a), (1, .ref b), (2, .int v2_b17)]) (st' := [.int v2_b17, .ref (b + 1), .ref (b + 5), .int (s_b17 (1 * ix_ (t 0 12) + 14) (ix_ v2_b17)), .int v2_b17, .ref (a + (1 * ix_ (t 0 12) + 14))]) [(45, .iload_n 2, 1, .null)] (by decide +kernel) rfl ?_
          obtain ⟨r7, e8, hm⟩ := bn_x hm
          refine aw_cv (rest := [.int (s_b17 (1 * ix_ (t 0 12) + 14) (ix_ v2_b17)), .int v2_b17, .ref (a + (1 * ix_ (t 0 12) + 14))]) (st1 := [.int r7, .int (s_b17 (1 * ix_ (t 0 12) + 14) (ix_ v2_b17)), .int v2_b17, .ref (a + (1 * ix_ (t 0 12) + 14))]) b 5 (kX0_costBy e8 (h1.sub su_D_5_A) (h1.sub su_D_1_S)) rfl rfl ckX0_costBy lkX4_82 h1 eo_D_5 ⟨_, _, rfl⟩ nkX0_costBy rfl rfl rfl (Nat.le_of_ble_eq_true rfl) (Nat.zero_le _) (Nat.zero_le _) (by decide +kernel) (fun H9 z10 => ?_)
          have h0 := h0.kept0 z10
          have h1 := h1.kept0 z10
          have hs := hs.step0 z10
          refine aw_b (pc' := 50) (lv' := [(0, .ref a), (1, .ref b), (2, .int v2_b17)]) (st' := [.int ((s_b17 (1 * ix_ (t 0 12) + 14) (ix_ v2_b17)) + r7), .int v2_b17, .ref (a + (1 * ix_ (t 0 12) + 14))]) [(49, .iadd, 1, .null)] (by decide +kernel) rfl ?_
          obtain ⟨g11, hm⟩ := gd_x hm
          obtain ⟨s12, e13, hm⟩ := bd_x hm
          refine aw_isl a (1 * ix_ (t 0 12) + 14) h0 (sr_R_14 _ (ib_lt g5)) hf g11 e13 (by decide +kernel) (fun H14 h0 z15 => ?_)
          have hlt := ib_lt g5
          have h1 := h1.kept (n := 33) z15 rfl (by omega)
          have hs := hs.step z15 (by omega) (by omega)
          refine aw_b (pc' := 17) (lv' := [(2, .int (v2_b17 + (1 : Int32))), (0, .ref a), (1, .ref b)]) (st' := []) [(51, .iinc 2 1, 3, .int (1 : Int32)), (54, .goto (-37), 3, .null)] (by decide +kernel) rfl ?_
          cases hm
          refine aw_lv (lv' := [(0, .ref a), (1, .ref b), (2, .int (v2_b17 + (1 : Int32)))]) [1, 2, 0] rfl ?_
          exact ih17 (v2_b17 + (1 : Int32)) s12 H14 h0 h1 hs hk17
    refine aw_lv (lv' := [(0, .ref a), (1, .ref b), (2, .int (0 : Int32))]) [1, 2, 0] rfl ?_
    exact L17 FU_ (0 : Int32) s H3 h0 h1 hs hx17
  · have hm := (if_pos hc).symm.trans hm
    obtain rfl := Option.some.inj hm
    subst hQ
    exact aw_vret rfl (Nat.zero_le _) (Nat.zero_le _) (by decide +kernel) ⟨rfl, hs, h0⟩
def mX4_noteRegret : mt_ := (yX4_noteRegret, cX4_noteRegret, 3, none, [], { frames := 3, locals := 62, cells := 0, slots := 0 })
theorem ckX4_noteRegret : cokV_ mX4_noteRegret := ⟨⟨(uw_mem 1184 (by decide +kernel) (by decide +kernel)), (uw_mem 35 (by decide +kernel) (by decide +kernel)), by decide +kernel, by decide +kernel⟩, (uw_mem 1183 (by decide +kernel) (by decide +kernel)), (uw_mem 22 (by decide +kernel) (by decide +kernel))⟩
theorem nkX4_noteRegret : nok_ mX4_noteRegret 1 := by decide +kernel
theorem lkX4_117 : Cond.methodLink RX4 117 yX1_regretNow ∈ uw_ := (uw_mem 1185 (by decide +kernel) (by decide +kernel))
theorem lkX4_120 : Cond.methodLink RX4 120 yX1_isBreach ∈ uw_ := (uw_mem 1189 (by decide +kernel) (by decide +kernel))
theorem kX4_noteRegret {E : ev_} {H : Heap} {a b : Nat} {s : st_} {t : st_} {r : st_} (hm : fX4_noteRegret s t = some r) (h0 : has_ E H a ly_R s) (h1 : has_ E H b ly_D t) (hf : ev_fr E a) (d1 : a + 41 ≤ b ∨ b + 33 ≤ a) : sp_ E mX4_noteRegret [.ref a, .ref b] H (po1 (.inl (none)) (fun Hn => sm_ H Hn a 41 ∧ has_ E Hn a ly_R r)) := by
  refine sp_of (by decide +kernel) rfl rfl ?_
  generalize hQ : po1 _ _ = Q
  have hs : sm_ H H a 41 := sm_.rfl'
  unfold fX4_noteRegret at hm
  refine aw_lv (lv' := [(0, .ref a), (1, .ref b)]) [0, 1] rfl ?_
  refine aw_b (pc' := 1) (lv' := [(0, .ref a), (1, .ref b)]) (st' := [.ref b]) [(0, .aload_n 1, 1, .null)] (by decide +kernel) rfl ?_
  obtain ⟨r1, e2, hm⟩ := bn_x hm
  refine aw_cv (rest := []) (st1 := [.int r1]) b 0 (kX1_regretNow e2 h1) rfl rfl ckX1_regretNow lkX4_117 h1 eo_D_0 ⟨_, _, rfl⟩ nkX1_regretNow rfl rfl rfl (Nat.le_of_ble_eq_true rfl) (Nat.zero_le _) (Nat.zero_le _) (by decide +kernel) (fun H3 z4 => ?_)
  have h0 := h0.kept0 z4
  have h1 := h1.kept0 z4
  have hs := hs.step0 z4
  refine aw_b (pc' := 6) (lv' := [(2, .int r1), (0, .ref a), (1, .ref b)]) (st' := [.ref a]) [(4, .istore_n 2, 1, .null), (5, .aload_n 0, 1, .null)] (by decide +kernel) rfl ?_
  refine aw_gl (v := .int (s 0 1)) a 0 h0 eo_R_0 fgX4_39 rfl (by decide +kernel) ?_
  have J25 : ∀ (s_j25 : st_) (H_j25 : Heap), has_ E H_j25 a ly_R s_j25 → has_ E H_j25 b ly_D t → sm_ H H_j25 a 41 → fX4_noteRegret_j25 t s_j25 = some r → aw E mX4_noteRegret Q 25 [(0, .ref a), (1, .ref b)] [] H_j25 0 0 := by
    intro s_j25 H_j25 h0 h1 hs hm
    unfold fX4_noteRegret_j25 at hm
    refine aw_b (pc' := 26) (lv' := [(0, .ref a), (1, .ref b)]) (st' := [.ref b]) [(25, .aload_n 1, 1, .null)] (by decide +kernel) rfl ?_
    obtain ⟨r5, e6, hm⟩ := bn_x hm
    refine aw_cv (rest := []) (st1 := [.int r5]) b 0 (kX1_isBreach e6 h1) rfl rfl ckX1_isBreach lkX4_120 h1 eo_D_0 ⟨_, _, rfl⟩ nkX1_isBreach rfl rfl rfl (Nat.le_of_ble_eq_true rfl) (Nat.zero_le _) (Nat.zero_le _) (by decide +kernel) (fun H7 z8 => ?_)
    have h0 := h0.kept0 z8
    have h1 := h1.kept0 z8
    have hs := hs.step0 z8
    refine aw_if_eq (off := 35) 64 (by decide) (by decide +kernel) (fun hc => ?_) (fun hc => ?_)
    · have hm := (if_pos hc).symm.trans hm
      obtain rfl := Option.some.inj hm
      subst hQ
      exact aw_vret rfl (Nat.zero_le _) (Nat.zero_le _) (by decide +kernel) ⟨rfl, hs, h0⟩
    · have hm := (if_neg hc).symm.trans hm
      refine aw_b (pc' := 34) (lv' := [(0, .ref a), (1, .ref b)]) (st' := [.ref a, .ref a]) [(32, .aload_n 0, 1, .null), (33, .aload_n 0, 1, .null)] (by decide +kernel) rfl ?_
      refine aw_gl (v := .int (s_j25 0 10)) a 0 h0 eo_R_0 fgX4_45 rfl (by decide +kernel) ?_
      have J51 : ∀ (z1_j51 : Int32) (H_j51 : Heap), has_ E H_j51 a ly_R s_j25 → has_ E H_j51 b ly_D t → sm_ H H_j51 a 41 → fX4_noteRegret_j51 s_j25 z1_j51 = some r → aw E mX4_noteRegret Q 51 [(0, .ref a)] [.int z1_j51, .ref a] H_j51 0 0 := by
        intro z1_j51 H_j51 h0 h1 hs hm
        unfold fX4_noteRegret_j51 at hm
        obtain ⟨s9, e10, hm⟩ := bd_x hm
        refine aw_pl a 0 h0 eo_R_0 fsq_4_12 fpX4_51 hf rfl rfl e10 (by decide +kernel) (fun H11 h0 z12 => ?_)
        have h1 := h1.kept (n := 33) z12 rfl (by omega)
        have hs := hs.step z12 (by omega) (by omega)
        refine aw_b (pc' := 56) (lv' := [(0, .ref a)]) (st' := [.ref a, .ref a]) [(54, .aload_n 0, 1, .null), (55, .dup, 1, .null)] (by decide +kernel) rfl ?_
        refine aw_gl (v := .int (s9 0 10)) a 0 h0 eo_R_0 fgX4_45 rfl (by decide +kernel) ?_
        refine aw_b (pc' := 61) (lv' := [(0, .ref a)]) (st' := [.int ((s9 0 10) + (1 : Int32)), .ref a]) [(59, .iconst 1, 1, .int (1 : Int32)), (60, .iadd, 1, .null)] (by decide +kernel) rfl ?_
        obtain ⟨s13, e14, hm⟩ := bd_x hm
        refine aw_pl a 0 h0 eo_R_0 fsq_4_10 fpX4_45 hf rfl rfl e14 (by decide +kernel) (fun H15 h0 z16 => ?_)
        have h1 := h1.kept (n := 33) z16 rfl (by omega)
        have hs := hs.step z16 (by omega) (by omega)
        obtain rfl := Option.some.inj hm
        subst hQ
        exact aw_vret rfl (Nat.zero_le _) (Nat.zero_le _) (by decide +kernel) ⟨rfl, hs, h0⟩
      refine aw_if_ne (off := 10) 47 (by decide) (by decide +kernel) (fun hc => ?_) (fun hc => ?_)
      · have hm := (if_neg hc).symm.trans hm
        refine aw_b (pc' := 48) (lv' := [(0, .ref a), (1, .ref b)]) (st' := [.ref a, .ref a]) [(47, .aload_n 0, 1, .null)] (by decide +kernel) rfl ?_
        refine aw_gl (v := .int (s_j25 0 12)) a 0 h0 eo_R_0 fgX4_51 rfl (by decide +kernel) ?_
        refine aw_lv (lv' := [(0, .ref a)]) [0] rfl ?_
        exact J51 (s_j25 0 12) H7 h0 h1 hs hm
      · have hm := (if_pos hc).symm.trans hm
        refine aw_b (pc' := 41) (lv' := [(0, .ref a), (1, .ref b)]) (st' := [.ref a, .ref a]) [(40, .aload_n 0, 1, .null)] (by decide +kernel) rfl ?_
        refine aw_gl (v := .int (s_j25 0 1)) a 0 h0 eo_R_0 fgX4_39 rfl (by decide +kernel) ?_
        refine aw_b (pc' := 51) (lv' := [(0, .ref a), (1, .ref b)]) (st' := [.int (s_j25 0 1), .ref a]) [(44, .goto 7, 3, .null)] (by decide +kernel) rfl ?_
        refine aw_lv (lv' := [(0, .ref a)]) [0] rfl ?_
        exact J51 (s_j25 0 1) H7 h0 h1 hs hm
  have J20 : ∀ (H_j20 : Heap), has_ E H_j20 a ly_R s → has_ E H_j20 b ly_D t → sm_ H H_j20 a 41 → fX4_noteRegret_j20 s t r1 = some r → aw E mX4_noteRegret Q 20 [(0, .ref a), (1, .ref b), (2, .int r1)] [] H_j20 0 0 := by
    intro H_j20 h0 h1 hs hm
    unfold fX4_noteRegret_j20 at hm
    refine aw_b (pc' := 22) (lv' := [(0, .ref a), (1, .ref b), (2, .int r1)]) (st' := [.int r1, .ref a]) [(20, .aload_n 0, 1, .null), (21, .iload_n 2, 1, .null)] (by decide +kernel) rfl ?_
    obtain ⟨s17, e18, hm⟩ := bd_x hm
    refine aw_pl a 0 h0 eo_R_0 fsq_4_11 fpX4_48 hf rfl rfl e18 (by decide +kernel) (fun H19 h0 z20 => ?_)
    have h1 := h1.kept (n := 33) z20 rfl (by omega)
    have hs := hs.step z20 (by omega) (by omega)
    refine aw_lv (lv' := [(0, .ref a), (1, .ref b)]) [0, 1] rfl ?_
    exact J25 s17 H19 h0 h1 hs hm
  refine aw_if_eq (off := 11) 20 (by decide) (by decide +kernel) (fun hc => ?_) (fun hc => ?_)
  · have hm := (if_pos hc).symm.trans hm
    refine aw_lv (lv' := [(0, .ref a), (1, .ref b), (2, .int r1)]) [1, 2, 0] rfl ?_
    exact J20 H3 h0 h1 hs hm
  · have hm := (if_neg hc).symm.trans hm
    refine aw_b (pc' := 14) (lv' := [(2, .int r1), (0, .ref a), (1, .ref b)]) (st' := [.ref a, .int r1]) [(12, .iload_n 2, 1, .null), (13, .aload_n 0, 1, .null)] (by decide +kernel) rfl ?_
    refine aw_gl (v := .int (s 0 11)) a 0 h0 eo_R_0 fgX4_48 rfl (by decide +kernel) ?_
    refine aw_ic_le (off := 8) 25 (by decide) (by decide +kernel) (fun hc => ?_) (fun hc => ?_)
    · have hm := (if_pos hc).symm.trans hm
      refine aw_lv (lv' := [(0, .ref a), (1, .ref b)]) [1, 2] rfl ?_
      exact J25 s H3 h0 h1 hs hm
    · have hm := (if_neg hc).symm.trans hm
      refine aw_lv (lv' := [(0, .ref a), (1, .ref b), (2, .int r1)]) [1, 2, 0] rfl ?_
      exact J20 H3 h0 h1 hs hm
def mX4_noteServed : mt_ := (yX4_noteServed, cX4_noteServed, 4, none, [], { frames := 0, locals := 0, cells := 0, slots := 0 })
theorem ckX4_noteServed : cokV_ mX4_noteServed := ⟨⟨(uw_mem 1202 (by decide +kernel) (by decide +kernel)), (uw_mem 35 (by decide +kernel) (by decide +kernel)), by decide +kernel, by decide +kernel⟩, (uw_mem 1201 (by decide +kernel) (by decide +kernel)), (uw_mem 23 (by decide +kernel) (by decide +kernel))⟩
theorem nkX4_noteServed : nok_ mX4_noteServed 2 := by decide +kernel
theorem fgX4_123 : fok_ RX4 123 0 10 := ⟨_, _, _, rfl, by decide, (uw_mem 250 (by decide +kernel) (by decide +kernel)), wkX0⟩
theorem fgX4_126 : fok_ RX4 126 0 11 := ⟨_, _, _, rfl, by decide, (uw_mem 252 (by decide +kernel) (by decide +kernel)), wkX0⟩
theorem fgX4_88 : fok_ RX4 88 0 9 := ⟨_, _, _, rfl, by decide, (uw_mem 247 (by decide +kernel) (by decide +kernel)), wkX0⟩
theorem kX4_noteServed {E : ev_} {H : Heap} {a b : Nat} {s : st_} {t : st_} {i0 : Int32} {r : st_} (hm : fX4_noteServed s t i0 = some r) (h0 : has_ E H a ly_R s) (h1 : has_ E H b ly_A t) (hf : ev_fr E a) (d1 : a + 41 ≤ b ∨ b + 3 ≤ a) : sp_ E mX4_noteServed [.ref a, .ref b, .int i0] H (po1 (.inl (none)) (fun Hn => sm_ H Hn a 41 ∧ has_ E Hn a ly_R r)) := by
  refine sp_of (by decide +kernel) rfl rfl ?_
  generalize hQ : po1 _ _ = Q
  have hs : sm_ H H a 41 := sm_.rfl'
  unfold fX4_noteServed at hm
  refine aw_lv (lv' := [(0, .ref a), (1, .ref b), (2, .int i0)]) [0, 1, 2] rfl ?_
  refine aw_b (pc' := 1) (lv' := [(0, .ref a), (1, .ref b), (2, .int i0)]) (st' := [.ref b]) [(0, .aload_n 1, 1, .null)] (by decide +kernel) rfl ?_
  refine aw_gl (v := .int (t 0 10)) b 0 h1 eo_A_0 fgX4_123 rfl (by decide +kernel) ?_
  refine aw_b (pc' := 5) (lv' := [(0, .ref a), (1, .ref b), (2, .int i0)]) (st' := [.int (-1 : Int32), .int (t 0 10)]) [(4, .iconst (-1), 1, .int (-1 : Int32))] (by decide +kernel) rfl ?_
  refine aw_ic_ne (off := 4) 9 (by decide) (by decide +kernel) (fun hc => ?_) (fun hc => ?_)
  · have hm := (if_neg hc).symm.trans hm
    refine aw_b (pc' := 10) (lv' := [(0, .ref a), (1, .ref b), (2, .int i0)]) (st' := [.ref a]) [(9, .aload_n 0, 1, .null)] (by decide +kernel) rfl ?_
    refine aw_gl (v := .ref (a + 20)) a 0 h0 eo_R_0 fgX4_32 rfl (by decide +kernel) ?_
    refine aw_b (pc' := 14) (lv' := [(0, .ref a), (1, .ref b), (2, .int i0)]) (st' := [.ref a, .ref (a + 20)]) [(13, .aload_n 0, 1, .null)] (by decide +kernel) rfl ?_
    refine aw_gl (v := .int (s 0 9)) a 0 h0 eo_R_0 fgX4_42 rfl (by decide +kernel) ?_
    refine aw_b (pc' := 19) (lv' := [(0, .ref a), (1, .ref b), (2, .int i0)]) (st' := [.int (20 : Int32), .int (s 0 9), .ref (a + 20)]) [(17, .bipush 20, 2, .int (20 : Int32))] (by decide +kernel) rfl ?_
    refine aw_irem (by decide) (by decide +kernel) ?_
    obtain ⟨g1, hm⟩ := gd_x hm
    refine aw_iall a 20 h0 ra_R_20 g1 (by decide +kernel) ?_
    refine aw_b (pc' := 25) (lv' := [(3, .ref (a + (1 * ix_ ((s 0 9) - (s 0 9) / (20 : Int32) * (20 : Int32)) + 21))), (0, .ref a), (1, .ref b), (2, .int i0)]) (st' := [.ref a, .int (0 : Int32), .ref (a + (1 * ix_ ((s 0 9) - (s 0 9) / (20 : Int32) * (20 : Int32)) + 21))]) [(21, .astore_n 3, 1, .null), (22, .aload_n 3, 1, .null), (23, .iconst 0, 1, .int (0 : Int32)), (24, .aload_n 0, 1, .null)] (by decide +kernel) rfl ?_
    refine aw_gl (v := .int (s 0 1)) a 0 h0 eo_R_0 fgX4_39 rfl (by decide +kernel) ?_
    obtain ⟨g2, hm⟩ := gd_x hm
    obtain ⟨s3, e4, hm⟩ := bd_x hm
    refine aw_isl a (1 * ix_ ((s 0 9) - (s 0 9) / (20 : Int32) * (20 : Int32)) + 21) h0 (sr_R_21 _ (ib_lt g1)) hf g2 e4 (by decide +kernel) (fun H5 h0 z6 => ?_)
    have hlt := ib_lt g1
    have h1 := h1.kept (n := 3) z6 rfl (by omega)
    have hs := hs.step z6 (by omega) (by omega)
    refine aw_b (pc' := 32) (lv' := [(3, .ref (a + (1 * ix_ ((s 0 9) - (s 0 9) / (20 : Int32) * (20 : Int32)) + 21))), (0, .ref a), (1, .ref b), (2, .int i0)]) (st' := [.ref b, .int (1 : Int32), .ref (a + (1 * ix_ ((s 0 9) - (s 0 9) / (20 : Int32) * (20 : Int32)) + 21))]) [(29, .aload_n 3, 1, .null), (30, .iconst 1, 1, .int (1 : Int32)), (31, .aload_n 1, 1, .null)] (by decide +kernel) rfl ?_
    refine aw_gl (v := .int (t 0 10)) b 0 h1 eo_A_0 fgX4_123 rfl (by decide +kernel) ?_
    obtain ⟨g7, hm⟩ := gd_x hm
    obtain ⟨s8, e9, hm⟩ := bd_x hm
    refine aw_isl a (1 * ix_ ((s 0 9) - (s 0 9) / (20 : Int32) * (20 : Int32)) + 21) h0 (sr_R_21 _ (ib_lt g1)) hf g7 e9 (by decide +kernel) (fun H10 h0 z11 => ?_)
    have hlt := ib_lt g1
    have h1 := h1.kept (n := 3) z11 rfl (by omega)
    have hs := hs.step z11 (by omega) (by omega)
    refine aw_b (pc' := 39) (lv' := [(3, .ref (a + (1 * ix_ ((s 0 9) - (s 0 9) / (20 : Int32) * (20 : Int32)) + 21))), (0, .ref a), (1, .ref b), (2, .int i0)]) (st' := [.ref b, .int (2 : Int32), .ref (a + (1 * ix_ ((s 0 9) - (s 0 9) / (20 : Int32) * (20 : Int32)) + 21))]) [(36, .aload_n 3, 1, .null), (37, .iconst 2, 1, .int (2 : Int32)), (38, .aload_n 1, 1, .null)] (by decide +kernel) rfl ?_
    refine aw_gl (v := .int (t 0 11)) b 0 h1 eo_A_0 fgX4_126 rfl (by decide +kernel) ?_
    obtain ⟨g12, hm⟩ := gd_x hm
    obtain ⟨s13, e14, hm⟩ := bd_x hm
    refine aw_isl a (1 * ix_ ((s 0 9) - (s 0 9) / (20 : Int32) * (20 : Int32)) + 21) h0 (sr_R_21 _ (ib_lt g1)) hf g12 e14 (by decide +kernel) (fun H15 h0 z16 => ?_)
    have hlt := ib_lt g1
    have h1 := h1.kept (n := 3) z16 rfl (by omega)
    have hs := hs.step z16 (by omega) (by omega)
    refine aw_b (pc' := 46) (lv' := [(3, .ref (a + (1 * ix_ ((s 0 9) - (s 0 9) / (20 : Int32) * (20 : Int32)) + 21))), (0, .ref a), (1, .ref b), (2, .int i0)]) (st' := [.ref b, .int (3 : Int32), .ref (a + (1 * ix_ ((s 0 9) - (s 0 9) / (20 : Int32) * (20 : Int32)) + 21))]) [(43, .aload_n 3, 1, .null), (44, .iconst 3, 1, .int (3 : Int32)), (45, .aload_n 1, 1, .null)] (by decide +kernel) rfl ?_
    refine aw_gl (v := .int (t 0 9)) b 0 h1 eo_A_0 fgX4_88 rfl (by decide +kernel) ?_
    obtain ⟨g17, hm⟩ := gd_x hm
    obtain ⟨s18, e19, hm⟩ := bd_x hm
    refine aw_isl a (1 * ix_ ((s 0 9) - (s 0 9) / (20 : Int32) * (20 : Int32)) + 21) h0 (sr_R_21 _ (ib_lt g1)) hf g17 e19 (by decide +kernel) (fun H20 h0 z21 => ?_)
    have hlt := ib_lt g1
    have h1 := h1.kept (n := 3) z21 rfl (by omega)
    have hs := hs.step z21 (by omega) (by omega)
    refine aw_b (pc' := 53) (lv' := [(3, .ref (a + (1 * ix_ ((s 0 9) - (s 0 9) / (20 : Int32) * (20 : Int32)) + 21))), (0, .ref a), (1, .ref b), (2, .int i0)]) (st' := [.int i0, .int (4 : Int32), .ref (a + (1 * ix_ ((s 0 9) - (s 0 9) / (20 : Int32) * (20 : Int32)) + 21))]) [(50, .aload_n 3, 1, .null), (51, .iconst 4, 1, .int (4 : Int32)), (52, .iload_n 2, 1, .null)] (by decide +kernel) rfl ?_
    obtain ⟨g22, hm⟩ := gd_x hm
    obtain ⟨s23, e24, hm⟩ := bd_x hm
    refine aw_isl a (1 * ix_ ((s 0 9) - (s 0 9) / (20 : Int32) * (20 : Int32)) + 21) h0 (sr_R_21 _ (ib_lt g1)) hf g22 e24 (by decide +kernel) (fun H25 h0 z26 => ?_)
    have hlt := ib_lt g1
    have h1 := h1.kept (n := 3) z26 rfl (by omega)
    have hs := hs.step z26 (by omega) (by omega)
    refine aw_b (pc' := 56) (lv' := [(3, .ref (a + (1 * ix_ ((s 0 9) - (s 0 9) / (20 : Int32) * (20 : Int32)) + 21))), (0, .ref a), (1, .ref b), (2, .int i0)]) (st' := [.ref a, .ref a]) [(54, .aload_n 0, 1, .null), (55, .dup, 1, .null)] (by decide +kernel) rfl ?_
    refine aw_gl (v := .int (s23 0 9)) a 0 h0 eo_R_0 fgX4_42 rfl (by decide +kernel) ?_
    refine aw_b (pc' := 61) (lv' := [(3, .ref (a + (1 * ix_ ((s 0 9) - (s 0 9) / (20 : Int32) * (20 : Int32)) + 21))), (0, .ref a), (1, .ref b), (2, .int i0)]) (st' := [.int ((s23 0 9) + (1 : Int32)), .ref a]) [(59, .iconst 1, 1, .int (1 : Int32)), (60, .iadd, 1, .null)] (by decide +kernel) rfl ?_
    obtain ⟨s27, e28, hm⟩ := bd_x hm
    refine aw_pl a 0 h0 eo_R_0 fsq_4_9 fpX4_42 hf rfl rfl e28 (by decide +kernel) (fun H29 h0 z30 => ?_)
    have h1 := h1.kept (n := 3) z30 rfl (by omega)
    have hs := hs.step z30 (by omega) (by omega)
    obtain rfl := Option.some.inj hm
    subst hQ
    exact aw_vret rfl (Nat.zero_le _) (Nat.zero_le _) (by decide +kernel) ⟨rfl, hs, h0⟩
  · have hm := (if_pos hc).symm.trans hm
    obtain rfl := Option.some.inj hm
    subst hQ
    exact aw_vret rfl (Nat.zero_le _) (Nat.zero_le _) (by decide +kernel) ⟨rfl, hs, h0⟩
def mX4_noteRound : mt_ := (yX4_noteRound, cX4_noteRound, 4, none, [], { frames := 4, locals := 84, cells := 0, slots := 0 })
theorem ckX4_noteRound : cokV_ mX4_noteRound := ⟨⟨(uw_mem 1178 (by decide +kernel) (by decide +kernel)), (uw_mem 35 (by decide +kernel) (by decide +kernel)), by decide +kernel, by decide +kernel⟩, (uw_mem 1176 (by decide +kernel) (by decide +kernel)), (uw_mem 1177 (by decide +kernel) (by decide +kernel))⟩
theorem nkX4_noteRound : nok_ mX4_noteRound 1 := by decide +kernel
theorem lkX4_91 : Cond.methodLink RX4 91 yX1_cheapestRule ∈ uw_ := (uw_mem 1179 (by decide +kernel) (by decide +kernel))
theorem lkX4_95 : Cond.methodLink RX4 95 yX5_hasRival ∈ uw_ := (uw_mem 1180 (by decide +kernel) (by decide +kernel))
theorem lkX4_102 : Cond.methodLink RX4 102 yX4_noteRegret ∈ uw_ := (uw_mem 1181 (by decide +kernel) (by decide +kernel))
theorem lkX4_106 : Cond.methodLink RX4 106 yX4_noteServed ∈ uw_ := (uw_mem 1199 (by decide +kernel) (by decide +kernel))
theorem lkX4_110 : Cond.methodLink RX4 110 yX1_armOf ∈ uw_ := (uw_mem 1203 (by decide +kernel) (by decide +kernel))
theorem fgX4_114 : fok_ RX4 114 0 5 := ⟨_, _, _, rfl, by decide, (uw_mem 237 (by decide +kernel) (by decide +kernel)), wkX0⟩
theorem eoa_D_0 : ∀ r, aro_ r → eo_ ly_D r 0 fsX0 := by
  intro r h
  rcases h with rfl | ⟨k, hk, rfl⟩
  · rfl
  · match k, hk with
    | 0, _ => rfl
    | 1, _ => rfl
    | 2, _ => rfl
    | 3, _ => rfl
    | 4, _ => rfl
    | 5, _ => rfl
theorem wta_D_0 : ∀ r, aro_ r → ly_D[r + 1]? = some (ia_ 20) ∧ ly_D[r + 2]? = some (ia_ 20) := by
  intro r h
  rcases h with rfl | ⟨k, hk, rfl⟩
  · exact ⟨rfl, rfl⟩
  · match k, hk with
    | 0, _ => exact ⟨rfl, rfl⟩
    | 1, _ => exact ⟨rfl, rfl⟩
    | 2, _ => exact ⟨rfl, rfl⟩
    | 3, _ => exact ⟨rfl, rfl⟩
    | 4, _ => exact ⟨rfl, rfl⟩
    | 5, _ => exact ⟨rfl, rfl⟩
theorem soa_D_0 : ∀ r, aro_ r → sub_ ly_D r ly_A := by
  intro r h
  rcases h with rfl | ⟨k, hk, rfl⟩
  · exact sub_of rfl
  · match k, hk with
    | 0, _ => exact sub_of rfl
    | 1, _ => exact sub_of rfl
    | 2, _ => exact sub_of rfl
    | 3, _ => exact sub_of rfl
    | 4, _ => exact sub_of rfl
    | 5, _ => exact sub_of rfl
theorem fgX4_99 : fok_ RX4 99 1 2 := ⟨_, _, _, rfl, by decide, (uw_mem 286 (by decide +kernel) (by decide +kernel)), wkX1⟩
theorem kX4_noteRound {E : ev_} {H : Heap} {a b : Nat} {s : st_} {t : st_} {r : st_} (hm : fX4_noteRound s t = some r) (h0 : has_ E H a ly_R s) (h1 : has_ E H b ly_D t) (hf : ev_fr E a) (d1 : a + 41 ≤ b ∨ b + 33 ≤ a) : sp_ E mX4_noteRound [.ref a, .ref b] H (po1 (.inl (none)) (fun Hn => sm_ H Hn a 41 ∧ has_ E Hn a ly_R r)) := by
  refine sp_of (by decide +kernel) rfl rfl ?_
  generalize hQ : po1 _ _ = Q
  have hs : sm_ H H a 41 := sm_.rfl'
  unfold fX4_noteRound at hm
  refine aw_lv (lv' := [(0, .ref a), (1, .ref b)]) [0, 1] rfl ?_
  refine aw_b (pc' := 1) (lv' := [(0, .ref a), (1, .ref b)]) (st' := [.ref b]) [(0, .aload_n 1, 1, .null)] (by decide +kernel) rfl ?_
  refine aw_gl (v := .int (t 0 12)) b 0 h1 eo_D_0 fgX4_69 rfl (by decide +kernel) ?_
  refine aw_b (pc' := 6) (lv' := [(2, .int (t 0 12)), (0, .ref a), (1, .ref b)]) (st' := [.ref a]) [(4, .istore_n 2, 1, .null), (5, .aload_n 0, 1, .null)] (by decide +kernel) rfl ?_
  refine aw_gl (v := .int (s 0 1)) a 0 h0 eo_R_0 fgX4_39 rfl (by decide +kernel) ?_
  refine aw_b (pc' := 12) (lv' := [(2, .int (t 0 12)), (0, .ref a), (1, .ref b)]) (st' := [.int (1000 : Int32), .int (s 0 1)]) [(9, .sipush 1000, 3, .int (1000 : Int32))] (by decide +kernel) rfl ?_
  refine aw_ic_ge (off := 14) 26 (by decide) (by decide +kernel) (fun hc => ?_) (fun hc => ?_)
  · have hm := (if_pos hc).symm.trans hm
    obtain rfl := Option.some.inj hm
    subst hQ
    exact aw_vret rfl (Nat.zero_le _) (Nat.zero_le _) (by decide +kernel) ⟨rfl, hs, h0⟩
  · have hm := (if_neg hc).symm.trans hm
    refine aw_b (pc' := 16) (lv' := [(2, .int (t 0 12)), (0, .ref a), (1, .ref b)]) (st' := [.ref b]) [(15, .aload_n 1, 1, .null)] (by decide +kernel) rfl ?_
    refine aw_gl (v := .ref (b + 1)) b 0 h1 eo_D_0 fgX4_63 rfl (by decide +kernel) ?_
    refine aw_b (pc' := 20) (lv' := [(2, .int (t 0 12)), (0, .ref a), (1, .ref b)]) (st' := [.int (t 0 12), .ref (b + 1)]) [(19, .iload_n 2, 1, .null)] (by decide +kernel) rfl ?_
    obtain ⟨r1, e2, hm⟩ := bn_x hm
    refine aw_cv (rest := []) (st1 := [.int r1]) b 1 (kX5_hasRule e2 (h1.sub su_D_1_S)) rfl rfl ckX5_hasRule lkX4_72 h1 eo_D_1 ⟨_, _, rfl⟩ nkX5_hasRule rfl rfl rfl (Nat.le_of_ble_eq_true rfl) (Nat.zero_le _) (Nat.zero_le _) (by decide +kernel) (fun H3 z4 => ?_)
    have h0 := h0.kept0 z4
    have h1 := h1.kept0 z4
    have hs := hs.step0 z4
    refine aw_if_ne (off := 4) 27 (by decide) (by decide +kernel) (fun hc => ?_) (fun hc => ?_)
    · have hm := (if_neg hc).symm.trans hm
      refine aw_b (pc' := 28) (lv' := [(2, .int (t 0 12)), (0, .ref a), (1, .ref b)]) (st' := [.ref a]) [(27, .aload_n 0, 1, .null)] (by decide +kernel) rfl ?_
      refine aw_gl (v := .ref (a + 9)) a 0 h0 eo_R_0 fgX4_16 rfl (by decide +kernel) ?_
      refine aw_b (pc' := 32) (lv' := [(2, .int (t 0 12)), (0, .ref a), (1, .ref b)]) (st' := [.ref a, .ref (a + 9)]) [(31, .aload_n 0, 1, .null)] (by decide +kernel) rfl ?_
      refine aw_gl (v := .int (s 0 1)) a 0 h0 eo_R_0 fgX4_39 rfl (by decide +kernel) ?_
      refine aw_b (pc' := 36) (lv' := [(2, .int (t 0 12)), (0, .ref a), (1, .ref b)]) (st' := [.int (t 0 12), .int (s 0 1), .ref (a + 9)]) [(35, .iload_n 2, 1, .null)] (by decide +kernel) rfl ?_
      obtain ⟨g5, hm⟩ := gd_x hm
      obtain ⟨s6, e7, hm⟩ := bd_x hm
      refine aw_isl a 9 h0 rfl hf g5 e7 (by decide +kernel) (fun H8 h0 z9 => ?_)
      have h1 := h1.kept (n := 33) z9 rfl (by omega)
      have hs := hs.step z9 (by omega) (by omega)
      refine aw_b (pc' := 38) (lv' := [(2, .int (t 0 12)), (0, .ref a), (1, .ref b)]) (st' := [.ref a]) [(37, .aload_n 0, 1, .null)] (by decide +kernel) rfl ?_
      refine aw_gl (v := .ref (a + 10)) a 0 h0 eo_R_0 fgX4_20 rfl (by decide +kernel) ?_
      refine aw_b (pc' := 43) (lv' := [(2, .int (t 0 12)), (0, .ref a), (1, .ref b)]) (st' := [.int (t 0 12), .ref (a + 10), .int (t 0 12), .ref (a + 10)]) [(41, .iload_n 2, 1, .null), (42, .dup2, 1, .null)] (by decide +kernel) rfl ?_
      obtain ⟨g10, hm⟩ := gd_x hm
      refine aw_ial a 10 h0 rfl g10 (by decide +kernel) ?_
      refine aw_b (pc' := 46) (lv' := [(2, .int (t 0 12)), (0, .ref a), (1, .ref b)]) (st' := [.int ((s6 10 (ix_ (t 0 12))) + (1 : Int32)), .int (t 0 12), .ref (a + 10)]) [(44, .iconst 1, 1, .int (1 : Int32)), (45, .iadd, 1, .null)] (by decide +kernel) rfl ?_
      obtain ⟨g11, hm⟩ := gd_x hm
      obtain ⟨s12, e13, hm⟩ := bd_x hm
      refine aw_isl a 10 h0 rfl hf g11 e13 (by decide +kernel) (fun H14 h0 z15 => ?_)
      have h1 := h1.kept (n := 33) z15 rfl (by omega)
      have hs := hs.step z15 (by omega) (by omega)
      refine aw_b (pc' := 48) (lv' := [(2, .int (t 0 12)), (0, .ref a), (1, .ref b)]) (st' := [.ref a]) [(47, .aload_n 0, 1, .null)] (by decide +kernel) rfl ?_
      refine aw_gl (v := .ref (a + 11)) a 0 h0 eo_R_0 fgX4_23 rfl (by decide +kernel) ?_
      refine aw_b (pc' := 53) (lv' := [(2, .int (t 0 12)), (0, .ref a), (1, .ref b)]) (st' := [.int (t 0 12), .ref (a + 11), .int (t 0 12), .ref (a + 11)]) [(51, .iload_n 2, 1, .null), (52, .dup2, 1, .null)] (by decide +kernel) rfl ?_
      obtain ⟨g16, hm⟩ := gd_x hm
      refine aw_ial a 11 h0 rfl g16 (by decide +kernel) ?_
      refine aw_b (pc' := 55) (lv' := [(2, .int (t 0 12)), (0, .ref a), (1, .ref b)]) (st' := [.ref b, .int (s12 11 (ix_ (t 0 12))), .int (t 0 12), .ref (a + 11)]) [(54, .aload_n 1, 1, .null)] (by decide +kernel) rfl ?_
      refine aw_gl (v := .ref (b + 5)) b 0 h1 eo_D_0 fgX4_78 rfl (by decide +kernel) ?_
      refine aw_gl (v := .int (t 5 9)) b 5 h1 eo_D_5 fgX4_88 rfl (by decide +kernel) ?_
      refine aw_b (pc' := 62) (lv' := [(2, .int (t 0 12)), (0, .ref a), (1, .ref b)]) (st' := [.int ((s12 11 (ix_ (t 0 12))) + (t 5 9)), .int (t 0 12), .ref (a + 11)]) [(61, .iadd, 1, .null)] (by decide +kernel) rfl ?_
      obtain ⟨g17, hm⟩ := gd_x hm
      obtain ⟨s18, e19, hm⟩ := bd_x hm
      refine aw_isl a 11 h0 rfl hf g17 e19 (by decide +kernel) (fun H20 h0 z21 => ?_)
      have h1 := h1.kept (n := 33) z21 rfl (by omega)
      have hs := hs.step z21 (by omega) (by omega)
      refine aw_b (pc' := 64) (lv' := [(2, .int (t 0 12)), (0, .ref a), (1, .ref b)]) (st' := [.ref a]) [(63, .aload_n 0, 1, .null)] (by decide +kernel) rfl ?_
      refine aw_gl (v := .ref (a + 12)) a 0 h0 eo_R_0 fgX4_26 rfl (by decide +kernel) ?_
      refine aw_b (pc' := 68) (lv' := [(2, .int (t 0 12)), (0, .ref a), (1, .ref b)]) (st' := [.ref b, .ref (a + 12)]) [(67, .aload_n 1, 1, .null)] (by decide +kernel) rfl ?_
      obtain ⟨r22, e23, hm⟩ := bn_x hm
      refine aw_cv (rest := [.ref (a + 12)]) (st1 := [.int r22, .ref (a + 12)]) b 0 (kX1_cheapestRule e23 h1) rfl rfl ckX1_cheapestRule lkX4_91 h1 eo_D_0 ⟨_, _, rfl⟩ nkX1_cheapestRule rfl rfl rfl (Nat.le_of_ble_eq_true rfl) (Nat.zero_le _) (Nat.zero_le _) (by decide +kernel) (fun H24 z25 => ?_)
      have h0 := h0.kept0 z25
      have h1 := h1.kept0 z25
      have hs := hs.step0 z25
      refine aw_b (pc' := 72) (lv' := [(2, .int (t 0 12)), (0, .ref a), (1, .ref b)]) (st' := [.int r22, .ref (a + 12), .int r22, .ref (a + 12)]) [(71, .dup2, 1, .null)] (by decide +kernel) rfl ?_
      obtain ⟨g26, hm⟩ := gd_x hm
      refine aw_ial a 12 h0 rfl g26 (by decide +kernel) ?_
      refine aw_b (pc' := 75) (lv' := [(2, .int (t 0 12)), (0, .ref a), (1, .ref b)]) (st' := [.int ((s18 12 (ix_ r22)) + (1 : Int32)), .int r22, .ref (a + 12)]) [(73, .iconst 1, 1, .int (1 : Int32)), (74, .iadd, 1, .null)] (by decide +kernel) rfl ?_
      obtain ⟨g27, hm⟩ := gd_x hm
      obtain ⟨s28, e29, hm⟩ := bd_x hm
      refine aw_isl a 12 h0 rfl hf g27 e29 (by decide +kernel) (fun H30 h0 z31 => ?_)
      have h1 := h1.kept (n := 33) z31 rfl (by omega)
      have hs := hs.step z31 (by omega) (by omega)
      refine aw_b (pc' := 77) (lv' := [(2, .int (t 0 12)), (0, .ref a), (1, .ref b)]) (st' := [.ref b]) [(76, .aload_n 1, 1, .null)] (by decide +kernel) rfl ?_
      refine aw_gl (v := .ref (b + 1)) b 0 h1 eo_D_0 fgX4_63 rfl (by decide +kernel) ?_
      obtain ⟨r32, e33, hm⟩ := bn_x hm
      refine aw_cv (rest := []) (st1 := [.int r32]) b 1 (kX5_hasRival e33 (h1.sub su_D_1_S)) rfl rfl ckX5_hasRival lkX4_95 h1 eo_D_1 ⟨_, _, rfl⟩ nkX5_hasRival rfl rfl rfl (Nat.le_of_ble_eq_true rfl) (Nat.zero_le _) (Nat.zero_le _) (by decide +kernel) (fun H34 z35 => ?_)
      have h0 := h0.kept0 z35
      have h1 := h1.kept0 z35
      have hs := hs.step0 z35
      have J113 : ∀ (s_j113 : st_) (H_j113 : Heap), has_ E H_j113 a ly_R s_j113 → has_ E H_j113 b ly_D t → sm_ H H_j113 a 41 → fX4_noteRound_j113 t s_j113 = some r → aw E mX4_noteRound Q 113 [(0, .ref a), (1, .ref b), (2, .int (t 0 12))] [] H_j113 0 0 := by
        intro s_j113 H_j113 h0 h1 hs hm
        unfold fX4_noteRound_j113 at hm
        refine aw_b (pc' := 115) (lv' := [(0, .ref a), (1, .ref b), (2, .int (t 0 12))]) (st' := [.ref b, .ref a]) [(113, .aload_n 0, 1, .null), (114, .aload_n 1, 1, .null)] (by decide +kernel) rfl ?_
        obtain ⟨r36, e37, hm⟩ := bn_x hm
        refine aw_cv (rest := []) (st1 := []) a 0 (kX4_noteRegret e37 h0 h1 hf (by omega)) rfl rfl ckX4_noteRegret lkX4_102 h0 eo_R_0 ⟨_, _, rfl⟩ nkX4_noteRegret rfl rfl rfl (Nat.le_of_ble_eq_true rfl) (Nat.zero_le _) (Nat.zero_le _) (by decide +kernel) (fun H38 z39 => ?_)
        obtain ⟨z39, hn⟩ := z39
        have h0 := hn
        have h1 := h1.kept (n := 33) z39 rfl (by omega)
        have hs := hs.step z39 (by omega) (by omega)
        refine aw_b (pc' := 120) (lv' := [(0, .ref a), (1, .ref b), (2, .int (t 0 12))]) (st' := [.ref b, .ref a]) [(118, .aload_n 0, 1, .null), (119, .aload_n 1, 1, .null)] (by decide +kernel) rfl ?_
        refine aw_gl (v := .ref (b + 5)) b 0 h1 eo_D_0 fgX4_78 rfl (by decide +kernel) ?_
        refine aw_b (pc' := 124) (lv' := [(0, .ref a), (1, .ref b), (2, .int (t 0 12))]) (st' := [.int (t 0 12), .ref (b + 5), .ref a]) [(123, .iload_n 2, 1, .null)] (by decide +kernel) rfl ?_
        obtain ⟨r40, e41, hm⟩ := bn_x hm
        refine aw_cv (rest := []) (st1 := []) a 0 (kX4_noteServed e41 h0 (h1.sub su_D_5_A) hf (by omega)) rfl rfl ckX4_noteServed lkX4_106 h0 eo_R_0 ⟨_, _, rfl⟩ nkX4_noteServed rfl rfl rfl (Nat.le_of_ble_eq_true rfl) (Nat.zero_le _) (Nat.zero_le _) (by decide +kernel) (fun H42 z43 => ?_)
        obtain ⟨z43, hn⟩ := z43
        have h0 := hn
        have h1 := h1.kept (n := 33) z43 rfl (by omega)
        have hs := hs.step z43 (by omega) (by omega)
        refine aw_b (pc' := 129) (lv' := [(0, .ref a), (1, .ref b), (2, .int (t 0 12))]) (st' := [.ref a, .ref a]) [(127, .aload_n 0, 1, .null), (128, .dup, 1, .null)] (by decide +kernel) rfl ?_
        refine aw_gl (v := .int (r40 0 1)) a 0 h0 eo_R_0 fgX4_39 rfl (by decide +kernel) ?_
        refine aw_b (pc' := 134) (lv' := [(0, .ref a), (1, .ref b), (2, .int (t 0 12))]) (st' := [.int ((r40 0 1) + (1 : Int32)), .ref a]) [(132, .iconst 1, 1, .int (1 : Int32)), (133, .iadd, 1, .null)] (by decide +kernel) rfl ?_
        obtain ⟨s44, e45, hm⟩ := bd_x hm
        refine aw_pl a 0 h0 eo_R_0 fsq_4_1 fpX4_39 hf rfl rfl e45 (by decide +kernel) (fun H46 h0 z47 => ?_)
        have h1 := h1.kept (n := 33) z47 rfl (by omega)
        have hs := hs.step z47 (by omega) (by omega)
        refine aw_b (pc' := 139) (lv' := [(3, .int (0 : Int32)), (0, .ref a), (1, .ref b), (2, .int (t 0 12))]) (st' := []) [(137, .iconst 0, 1, .int (0 : Int32)), (138, .istore_n 3, 1, .null)] (by decide +kernel) rfl ?_
        obtain ⟨x139, hx139, hr139⟩ := bn_x hm
        have X139_174 : ∀ (s_x139_174 : st_) (H_x139_174 : Heap), has_ E H_x139_174 a ly_R s_x139_174 → has_ E H_x139_174 b ly_D t → sm_ H H_x139_174 a 41 → fX4_noteRound_x139_174 s_x139_174 = some r → aw E mX4_noteRound Q 174 [] [] H_x139_174 0 0 := by
          intro s_x139_174 H_x139_174 h0 h1 hs hm
          unfold fX4_noteRound_x139_174 at hm
          obtain rfl := Option.some.inj hm
          subst hQ
          exact aw_vret rfl (Nat.zero_le _) (Nat.zero_le _) (by decide +kernel) ⟨rfl, hs, h0⟩
        have L139 : ∀ (fu : Nat) (v3_b139 : Int32) (s_b139 : st_) (H_b139 : Heap), has_ E H_b139 a ly_R s_b139 → has_ E H_b139 b ly_D t → sm_ H H_b139 a 41 → fX4_noteRound_l139 t fu (v3_b139, s_b139) = some x139 → aw E mX4_noteRound Q 139 [(0, .ref a), (1, .ref b), (3, .int v3_b139)] [] H_b139 0 0 := by
          intro fu
          induction fu with
          | zero =>
            intro v3_b139 s_b139 H_b139 h0 h1 hs hm
            exact (it_0 hm).elim
          | succ fu ih139 =>
            intro v3_b139 s_b139 H_b139 h0 h1 hs hm
            obtain ⟨y139, hm, hk139⟩ := it_s hm
            have hm : fX4_noteRound_b139 t v3_b139 s_b139 = some y139 := hm
            unfold fX4_noteRound_b139 at hm
            refine aw_b (pc' := 141) (lv' := [(0, .ref a), (1, .ref b), (3, .int v3_b139)]) (st' := [.ref a, .int v3_b139]) [(139, .iload_n 3, 1, .null), (140, .aload_n 0, 1, .null)] (by decide +kernel) rfl ?_
            refine aw_gl (v := .int (s_b139 0 0)) a 0 h0 eo_R_0 fgX4_35 rfl (by decide +kernel) ?_
            refine aw_ic_gt (off := 30) 174 (by decide) (by decide +kernel) (fun hc => ?_) (fun hc => ?_)
            · have hm := (if_pos hc).symm.trans hm
              cases hm
              refine aw_lv (lv' := []) [] rfl ?_
              exact X139_174 s_b139 H_b139 h0 h1 hs ((congrArg fX4_noteRound_k139 (show (s_b139) = x139 from hk139)).trans hr139)
            · have hm := (if_neg hc).symm.trans hm
              refine aw_b (pc' := 148) (lv' := [(0, .ref a), (1, .ref b), (3, .int v3_b139)]) (st' := [.ref a]) [(147, .aload_n 0, 1, .null)] (by decide +kernel) rfl ?_
              refine aw_gl (v := .ref (a + 1)) a 0 h0 eo_R_0 fgX4_11 rfl (by decide +kernel) ?_
              refine aw_b (pc' := 152) (lv' := [(0, .ref a), (1, .ref b), (3, .int v3_b139)]) (st' := [.int v3_b139, .ref (a + 1)]) [(151, .iload_n 3, 1, .null)] (by decide +kernel) rfl ?_
              obtain ⟨g48, hm⟩ := gd_x hm
              refine aw_iall a 1 h0 ra_R_1 g48 (by decide +kernel) ?_
              refine aw_b (pc' := 154) (lv' := [(0, .ref a), (1, .ref b), (3, .int v3_b139)]) (st' := [.ref a, .ref (a + (1 * ix_ v3_b139 + 2))]) [(153, .aload_n 0, 1, .null)] (by decide +kernel) rfl ?_
              refine aw_gl (v := .int (s_b139 0 1)) a 0 h0 eo_R_0 fgX4_39 rfl (by decide +kernel) ?_
              refine aw_b (pc' := 161) (lv' := [(0, .ref a), (1, .ref b), (3, .int v3_b139)]) (st' := [.int (v3_b139 - (1 : Int32)), .ref b, .int (s_b139 0 1), .ref (a + (1 * ix_ v3_b139 + 2))]) [(157, .aload_n 1, 1, .null), (158, .iload_n 3, 1, .null), (159, .iconst 1, 1, .int (1 : Int32)), (160, .isub, 1, .null)] (by decide +kernel) rfl ?_
              obtain ⟨r49, e50, hm⟩ := bn_x hm
              refine aw_cv (rest := [.int (s_b139 0 1), .ref (a + (1 * ix_ v3_b139 + 2))]) (st1 := [.ref (b + (r49)), .int (s_b139 0 1), .ref (a + (1 * ix_ v3_b139 + 2))]) b 0 (kX1_armOf e50 h1) rfl rfl ckX1_armOf lkX4_110 h1 eo_D_0 ⟨_, _, rfl⟩ nkX1_armOf rfl rfl rfl (Nat.le_of_ble_eq_true rfl) (Nat.zero_le _) (Nat.zero_le _) (by decide +kernel) (fun H51 z52 => ?_)
              obtain ⟨z52, hor49⟩ := z52
              have h0 := h0.kept0 z52
              have h1 := h1.kept0 z52
              have hs := hs.step0 z52
              refine aw_gl (v := .int (t (r49) 5)) b (r49) h1 (eoa_D_0 _ hor49) fgX4_114 rfl (by decide +kernel) ?_
              obtain ⟨g53, hm⟩ := gd_x hm
              obtain ⟨s54, e55, hm⟩ := bd_x hm
              refine aw_isl a (1 * ix_ v3_b139 + 2) h0 (sr_R_2 _ (ib_lt g48)) hf g53 e55 (by decide +kernel) (fun H56 h0 z57 => ?_)
              have hlt := ib_lt g48
              have h1 := h1.kept (n := 33) z57 rfl (by omega)
              have hs := hs.step z57 (by omega) (by omega)
              refine aw_b (pc' := 139) (lv' := [(3, .int (v3_b139 + (1 : Int32))), (0, .ref a), (1, .ref b)]) (st' := []) [(168, .iinc 3 1, 3, .int (1 : Int32)), (171, .goto (-32), 3, .null)] (by decide +kernel) rfl ?_
              cases hm
              refine aw_lv (lv' := [(0, .ref a), (1, .ref b), (3, .int (v3_b139 + (1 : Int32)))]) [1, 2, 0] rfl ?_
              exact ih139 (v3_b139 + (1 : Int32)) s54 H56 h0 h1 hs hk139
        refine aw_lv (lv' := [(0, .ref a), (1, .ref b), (3, .int (0 : Int32))]) [1, 2, 0] rfl ?_
        exact L139 FU_ (0 : Int32) s44 H46 h0 h1 hs hx139
      refine aw_if_eq (off := 30) 113 (by decide) (by decide +kernel) (fun hc => ?_) (fun hc => ?_)
      · have hm := (if_pos hc).symm.trans hm
        refine aw_lv (lv' := [(0, .ref a), (1, .ref b), (2, .int (t 0 12))]) [1, 2, 0] rfl ?_
        exact J113 s28 H34 h0 h1 hs hm
      · have hm := (if_neg hc).symm.trans hm
        refine aw_b (pc' := 87) (lv' := [(2, .int (t 0 12)), (0, .ref a), (1, .ref b)]) (st' := [.ref b]) [(86, .aload_n 1, 1, .null)] (by decide +kernel) rfl ?_
        refine aw_gl (v := .ref (b + 8)) b 0 h1 eo_D_0 fgX4_99 rfl (by decide +kernel) ?_
        refine aw_gl (v := .int (t 8 9)) b 8 h1 eo_D_8 fgX4_88 rfl (by decide +kernel) ?_
        refine aw_b (pc' := 94) (lv' := [(2, .int (t 0 12)), (0, .ref a), (1, .ref b)]) (st' := [.ref b, .int (t 8 9)]) [(93, .aload_n 1, 1, .null)] (by decide +kernel) rfl ?_
        refine aw_gl (v := .ref (b + 5)) b 0 h1 eo_D_0 fgX4_78 rfl (by decide +kernel) ?_
        refine aw_gl (v := .int (t 5 9)) b 5 h1 eo_D_5 fgX4_88 rfl (by decide +kernel) ?_
        refine aw_ic_ge (off := 13) 113 (by decide) (by decide +kernel) (fun hc => ?_) (fun hc => ?_)
        · have hm := (if_pos hc).symm.trans hm
          refine aw_lv (lv' := [(0, .ref a), (1, .ref b), (2, .int (t 0 12))]) [1, 2, 0] rfl ?_
          exact J113 s28 H34 h0 h1 hs hm
        · have hm := (if_neg hc).symm.trans hm
          refine aw_b (pc' := 105) (lv' := [(2, .int (t 0 12)), (0, .ref a), (1, .ref b)]) (st' := [.ref a, .ref a]) [(103, .aload_n 0, 1, .null), (104, .dup, 1, .null)] (by decide +kernel) rfl ?_
          refine aw_gl (v := .int (s28 0 13)) a 0 h0 eo_R_0 fgX4_54 rfl (by decide +kernel) ?_
          refine aw_b (pc' := 110) (lv' := [(2, .int (t 0 12)), (0, .ref a), (1, .ref b)]) (st' := [.int ((s28 0 13) + (1 : Int32)), .ref a]) [(108, .iconst 1, 1, .int (1 : Int32)), (109, .iadd, 1, .null)] (by decide +kernel) rfl ?_
          obtain ⟨s58, e59, hm⟩ := bd_x hm
          refine aw_pl a 0 h0 eo_R_0 fsq_4_13 fpX4_54 hf rfl rfl e59 (by decide +kernel) (fun H60 h0 z61 => ?_)
          have h1 := h1.kept (n := 33) z61 rfl (by omega)
          have hs := hs.step z61 (by omega) (by omega)
          refine aw_lv (lv' := [(0, .ref a), (1, .ref b), (2, .int (t 0 12))]) [1, 2, 0] rfl ?_
          exact J113 s58 H60 h0 h1 hs hm
    · have hm := (if_pos hc).symm.trans hm
      obtain rfl := Option.some.inj hm
      subst hQ
      exact aw_vret rfl (Nat.zero_le _) (Nat.zero_le _) (by decide +kernel) ⟨rfl, hs, h0⟩
def mX4_servedAt : mt_ := (yX4_servedAt, cX4_servedAt, 3, some .int, [], { frames := 0, locals := 0, cells := 0, slots := 0 })
theorem ckX4_servedAt : cokV_ mX4_servedAt := ⟨⟨(uw_mem 1375 (by decide +kernel) (by decide +kernel)), (uw_mem 35 (by decide +kernel) (by decide +kernel)), by decide +kernel, by decide +kernel⟩, (uw_mem 1373 (by decide +kernel) (by decide +kernel)), (uw_mem 1374 (by decide +kernel) (by decide +kernel))⟩
theorem nkX4_servedAt : nok_ mX4_servedAt 2 := by decide +kernel
theorem kX4_servedAt {E : ev_} {H : Heap} {a : Nat} {s : st_} {i0 : Int32} {i1 : Int32} {r : Int32} (hm : fX4_servedAt s i0 i1 = some r) (h0 : has_ E H a ly_R s) : sp_ E mX4_servedAt [.ref a, .int i0, .int i1] H (po1 (.inl (some (.int r))) (fun Hn => sm_ H Hn 0 0)) := by
  refine sp_of (by decide +kernel) rfl rfl ?_
  generalize hQ : po1 _ _ = Q
  have hs : sm_ H H 0 0 := sm_.rfl'
  unfold fX4_servedAt at hm
  refine aw_lv (lv' := [(0, .ref a), (1, .int i0), (2, .int i1)]) [0, 1, 2] rfl ?_
  refine aw_b (pc' := 1) (lv' := [(0, .ref a), (1, .int i0), (2, .int i1)]) (st' := [.int i0]) [(0, .iload_n 1, 1, .null)] (by decide +kernel) rfl ?_
  refine aw_if_lt (off := 26) 27 (by decide) (by decide +kernel) (fun hc => ?_) (fun hc => ?_)
  · have hm := (if_pos hc).symm.trans hm
    refine aw_b (pc' := 28) (lv' := [(0, .ref a), (1, .int i0), (2, .int i1)]) (st' := [.int (-1 : Int32)]) [(27, .iconst (-1), 1, .int (-1 : Int32))] (by decide +kernel) rfl ?_
    obtain rfl := Option.some.inj hm
    subst hQ
    exact aw_iret rfl (Nat.zero_le _) (Nat.zero_le _) (by decide +kernel) ⟨rfl, hs⟩
  · have hm := (if_neg hc).symm.trans hm
    refine aw_b (pc' := 6) (lv' := [(0, .ref a), (1, .int i0), (2, .int i1)]) (st' := [.ref a, .int i0]) [(4, .iload_n 1, 1, .null), (5, .aload_n 0, 1, .null)] (by decide +kernel) rfl ?_
    refine aw_gl (v := .int (s 0 9)) a 0 h0 eo_R_0 fgX4_42 rfl (by decide +kernel) ?_
    refine aw_ic_ge (off := 18) 27 (by decide) (by decide +kernel) (fun hc => ?_) (fun hc => ?_)
    · have hm := (if_pos hc).symm.trans hm
      refine aw_b (pc' := 28) (lv' := [(0, .ref a), (1, .int i0), (2, .int i1)]) (st' := [.int (-1 : Int32)]) [(27, .iconst (-1), 1, .int (-1 : Int32))] (by decide +kernel) rfl ?_
      obtain rfl := Option.some.inj hm
      subst hQ
      exact aw_iret rfl (Nat.zero_le _) (Nat.zero_le _) (by decide +kernel) ⟨rfl, hs⟩
    · have hm := (if_neg hc).symm.trans hm
      refine aw_b (pc' := 15) (lv' := [(0, .ref a), (1, .int i0), (2, .int i1)]) (st' := [.int (20 : Int32), .int i0]) [(12, .iload_n 1, 1, .null), (13, .bipush 20, 2, .int (20 : Int32))] (by decide +kernel) rfl ?_
      refine aw_ic_ge (off := 12) 27 (by decide) (by decide +kernel) (fun hc => ?_) (fun hc => ?_)
      · have hm := (if_pos hc).symm.trans hm
        refine aw_b (pc' := 28) (lv' := [(0, .ref a), (1, .int i0), (2, .int i1)]) (st' := [.int (-1 : Int32)]) [(27, .iconst (-1), 1, .int (-1 : Int32))] (by decide +kernel) rfl ?_
        obtain rfl := Option.some.inj hm
        subst hQ
        exact aw_iret rfl (Nat.zero_le _) (Nat.zero_le _) (by decide +kernel) ⟨rfl, hs⟩
      · have hm := (if_neg hc).symm.trans hm
        refine aw_b (pc' := 19) (lv' := [(0, .ref a), (1, .int i0), (2, .int i1)]) (st' := [.int i1]) [(18, .iload_n 2, 1, .null)] (by decide +kernel) rfl ?_
        refine aw_if_lt (off := 8) 27 (by decide) (by decide +kernel) (fun hc => ?_) (fun hc => ?_)
        · have hm := (if_pos hc).symm.trans hm
          refine aw_b (pc' := 28) (lv' := [(0, .ref a), (1, .int i0), (2, .int i1)]) (st' := [.int (-1 : Int32)]) [(27, .iconst (-1), 1, .int (-1 : Int32))] (by decide +kernel) rfl ?_
          obtain rfl := Option.some.inj hm
          subst hQ
          exact aw_iret rfl (Nat.zero_le _) (Nat.zero_le _) (by decide +kernel) ⟨rfl, hs⟩
        · have hm := (if_neg hc).symm.trans hm
          refine aw_b (pc' := 24) (lv' := [(0, .ref a), (1, .int i0), (2, .int i1)]) (st' := [.int (5 : Int32), .int i1]) [(22, .iload_n 2, 1, .null), (23, .iconst 5, 1, .int (5 : Int32))] (by decide +kernel) rfl ?_
          refine aw_ic_lt (off := 5) 29 (by decide) (by decide +kernel) (fun hc => ?_) (fun hc => ?_)
          · have hm := (if_pos hc).symm.trans hm
            refine aw_b (pc' := 30) (lv' := [(0, .ref a), (1, .int i0), (2, .int i1)]) (st' := [.ref a]) [(29, .aload_n 0, 1, .null)] (by decide +kernel) rfl ?_
            refine aw_gl (v := .ref (a + 20)) a 0 h0 eo_R_0 fgX4_32 rfl (by decide +kernel) ?_
            refine aw_b (pc' := 34) (lv' := [(0, .ref a), (1, .int i0), (2, .int i1)]) (st' := [.ref a, .ref (a + 20)]) [(33, .aload_n 0, 1, .null)] (by decide +kernel) rfl ?_
            refine aw_gl (v := .int (s 0 9)) a 0 h0 eo_R_0 fgX4_42 rfl (by decide +kernel) ?_
            refine aw_b (pc' := 43) (lv' := [(0, .ref a), (1, .int i0), (2, .int i1)]) (st' := [.int (20 : Int32), .int (((s 0 9) - (1 : Int32)) - i0), .ref (a + 20)]) [(37, .iconst 1, 1, .int (1 : Int32)), (38, .isub, 1, .null), (39, .iload_n 1, 1, .null), (40, .isub, 1, .null), (41, .bipush 20, 2, .int (20 : Int32))] (by decide +kernel) rfl ?_
            refine aw_irem (by decide) (by decide +kernel) ?_
            obtain ⟨g1, hm⟩ := gd_x hm
            refine aw_iall a 20 h0 ra_R_20 g1 (by decide +kernel) ?_
            refine aw_b (pc' := 46) (lv' := [(0, .ref a), (1, .int i0), (2, .int i1)]) (st' := [.int i1, .ref (a + (1 * ix_ ((((s 0 9) - (1 : Int32)) - i0) - (((s 0 9) - (1 : Int32)) - i0) / (20 : Int32) * (20 : Int32)) + 21))]) [(45, .iload_n 2, 1, .null)] (by decide +kernel) rfl ?_
            obtain ⟨g2, hm⟩ := gd_x hm
            refine aw_ial a (1 * ix_ ((((s 0 9) - (1 : Int32)) - i0) - (((s 0 9) - (1 : Int32)) - i0) / (20 : Int32) * (20 : Int32)) + 21) h0 (sr_R_21 _ (ib_lt g1)) g2 (by decide +kernel) ?_
            obtain rfl := Option.some.inj hm
            subst hQ
            exact aw_iret rfl (Nat.zero_le _) (Nat.zero_le _) (by decide +kernel) ⟨rfl, hs⟩
          · have hm := (if_neg hc).symm.trans hm
            refine aw_b (pc' := 28) (lv' := [(0, .ref a), (1, .int i0), (2, .int i1)]) (st' := [.int (-1 : Int32)]) [(27, .iconst (-1), 1, .int (-1 : Int32))] (by decide +kernel) rfl ?_
            obtain rfl := Option.some.inj hm
            subst hQ
            exact aw_iret rfl (Nat.zero_le _) (Nat.zero_le _) (by decide +kernel) ⟨rfl, hs⟩
def mX4_hasRounds : mt_ := (yX4_hasRounds, cX4_hasRounds, 3, some .boolean, [], { frames := 0, locals := 0, cells := 0, slots := 0 })
theorem ckX4_hasRounds : cokV_ mX4_hasRounds := ⟨⟨(uw_mem 1226 (by decide +kernel) (by decide +kernel)), (uw_mem 35 (by decide +kernel) (by decide +kernel)), by decide +kernel, by decide +kernel⟩, (uw_mem 1224 (by decide +kernel) (by decide +kernel)), (uw_mem 1225 (by decide +kernel) (by decide +kernel))⟩
theorem nkX4_hasRounds : nok_ mX4_hasRounds 2 := by decide +kernel
theorem kX4_hasRounds {E : ev_} {H : Heap} {a : Nat} {s : st_} {i0 : Int32} {i1 : Int32} {r : Int32} (hm : fX4_hasRounds s i0 i1 = some r) (h0 : has_ E H a ly_R s) : sp_ E mX4_hasRounds [.ref a, .int i0, .int i1] H (po1 (.inl (some (.int r))) (fun Hn => sm_ H Hn 0 0)) := by
  refine sp_of (by decide +kernel) rfl rfl ?_
  generalize hQ : po1 _ _ = Q
  have hs : sm_ H H 0 0 := sm_.rfl'
  unfold fX4_hasRounds at hm
  refine aw_lv (lv' := [(0, .ref a), (1, .int i0), (2, .int i1)]) [0, 1, 2] rfl ?_
  refine aw_b (pc' := 1) (lv' := [(0, .ref a), (1, .int i0), (2, .int i1)]) (st' := [.int i0]) [(0, .iload_n 1, 1, .null)] (by decide +kernel) rfl ?_
  have J30 : ∀ (H_j30 : Heap), has_ E H_j30 a ly_R s → sm_ H H_j30 0 0 → fX4_hasRounds_j30 = some r → aw E mX4_hasRounds Q 30 [] [] H_j30 0 0 := by
    intro H_j30 h0 hs hm
    unfold fX4_hasRounds_j30 at hm
    refine aw_b (pc' := 31) (lv' := []) (st' := [.int (0 : Int32)]) [(30, .iconst 0, 1, .int (0 : Int32))] (by decide +kernel) rfl ?_
    obtain rfl := Option.some.inj hm
    subst hQ
    exact aw_zret rfl (by decide +kernel) (Nat.zero_le _) (Nat.zero_le _) (by decide +kernel) ⟨rfl, hs⟩
  refine aw_if_lt (off := 29) 30 (by decide) (by decide +kernel) (fun hc => ?_) (fun hc => ?_)
  · have hm := (if_pos hc).symm.trans hm
    refine aw_lv (lv' := []) [] rfl ?_
    exact J30 H h0 hs hm
  · have hm := (if_neg hc).symm.trans hm
    refine aw_b (pc' := 5) (lv' := [(0, .ref a), (1, .int i0), (2, .int i1)]) (st' := [.int i1]) [(4, .iload_n 2, 1, .null)] (by decide +kernel) rfl ?_
    refine aw_if_lt (off := 25) 30 (by decide) (by decide +kernel) (fun hc => ?_) (fun hc => ?_)
    · have hm := (if_pos hc).symm.trans hm
      refine aw_lv (lv' := []) [] rfl ?_
      exact J30 H h0 hs hm
    · have hm := (if_neg hc).symm.trans hm
      refine aw_b (pc' := 10) (lv' := [(0, .ref a), (1, .int i0), (2, .int i1)]) (st' := [.ref a, .int i1]) [(8, .iload_n 2, 1, .null), (9, .aload_n 0, 1, .null)] (by decide +kernel) rfl ?_
      refine aw_gl (v := .int (s 0 1)) a 0 h0 eo_R_0 fgX4_39 rfl (by decide +kernel) ?_
      refine aw_ic_gt (off := 17) 30 (by decide) (by decide +kernel) (fun hc => ?_) (fun hc => ?_)
      · have hm := (if_pos hc).symm.trans hm
        refine aw_lv (lv' := []) [] rfl ?_
        exact J30 H h0 hs hm
      · have hm := (if_neg hc).symm.trans hm
        refine aw_b (pc' := 18) (lv' := [(0, .ref a), (1, .int i0), (2, .int i1)]) (st' := [.ref a, .int i0]) [(16, .iload_n 1, 1, .null), (17, .aload_n 0, 1, .null)] (by decide +kernel) rfl ?_
        refine aw_gl (v := .int (s 0 1)) a 0 h0 eo_R_0 fgX4_39 rfl (by decide +kernel) ?_
        refine aw_b (pc' := 23) (lv' := [(0, .ref a), (1, .int i0), (2, .int i1)]) (st' := [.int ((s 0 1) - i1), .int i0]) [(21, .iload_n 2, 1, .null), (22, .isub, 1, .null)] (by decide +kernel) rfl ?_
        refine aw_ic_gt (off := 7) 30 (by decide) (by decide +kernel) (fun hc => ?_) (fun hc => ?_)
        · have hm := (if_pos hc).symm.trans hm
          refine aw_lv (lv' := []) [] rfl ?_
          exact J30 H h0 hs hm
        · have hm := (if_neg hc).symm.trans hm
          refine aw_b (pc' := 31) (lv' := [(0, .ref a), (1, .int i0), (2, .int i1)]) (st' := [.int (1 : Int32)]) [(26, .iconst 1, 1, .int (1 : Int32)), (27, .goto 4, 3, .null)] (by decide +kernel) rfl ?_
          obtain rfl := Option.some.inj hm
          subst hQ
          exact aw_zret rfl (by decide +kernel) (Nat.zero_le _) (Nat.zero_le _) (by decide +kernel) ⟨rfl, hs⟩
def mX4_paidIn : mt_ := (yX4_paidIn, cX4_paidIn, 5, some .int, [], { frames := 0, locals := 0, cells := 0, slots := 0 })
theorem ckX4_paidIn : cokV_ mX4_paidIn := ⟨⟨(uw_mem 1230 (by decide +kernel) (by decide +kernel)), (uw_mem 35 (by decide +kernel) (by decide +kernel)), by decide +kernel, by decide +kernel⟩, (uw_mem 1228 (by decide +kernel) (by decide +kernel)), (uw_mem 1229 (by decide +kernel) (by decide +kernel))⟩
theorem nkX4_paidIn : nok_ mX4_paidIn 3 := by decide +kernel
theorem kX4_paidIn {E : ev_} {H : Heap} {a : Nat} {s : st_} {i0 : Int32} {i1 : Int32} {i2 : Int32} {r : Int32} (hm : fX4_paidIn s i0 i1 i2 = some r) (h0 : has_ E H a ly_R s) : sp_ E mX4_paidIn [.ref a, .int i0, .int i1, .int i2] H (po1 (.inl (some (.int r))) (fun Hn => sm_ H Hn 0 0)) := by
  refine sp_of (by decide +kernel) rfl rfl ?_
  generalize hQ : po1 _ _ = Q
  have hs : sm_ H H 0 0 := sm_.rfl'
  unfold fX4_paidIn at hm
  refine aw_lv (lv' := [(0, .ref a), (1, .int i0), (2, .int i1), (3, .int i2)]) [0, 1, 2, 3] rfl ?_
  refine aw_b (pc' := 7) (lv' := [(4, .int (i0 + (1 : Int32))), (0, .ref a), (1, .int i0), (2, .int i1), (3, .int i2)]) (st' := [.int (i0 + (1 : Int32))]) [(0, .iload_n 1, 1, .null), (1, .iconst 1, 1, .int (1 : Int32)), (2, .iadd, 1, .null), (3, .istore 4, 2, .null), (5, .iload 4, 2, .null)] (by decide +kernel) rfl ?_
  refine aw_if_lt (off := 29) 36 (by decide) (by decide +kernel) (fun hc => ?_) (fun hc => ?_)
  · have hm := (if_pos hc).symm.trans hm
    refine aw_b (pc' := 37) (lv' := [(4, .int (i0 + (1 : Int32))), (0, .ref a), (1, .int i0), (2, .int i1), (3, .int i2)]) (st' := [.int (0 : Int32)]) [(36, .iconst 0, 1, .int (0 : Int32))] (by decide +kernel) rfl ?_
    obtain rfl := Option.some.inj hm
    subst hQ
    exact aw_iret rfl (Nat.zero_le _) (Nat.zero_le _) (by decide +kernel) ⟨rfl, hs⟩
  · have hm := (if_neg hc).symm.trans hm
    refine aw_b (pc' := 13) (lv' := [(4, .int (i0 + (1 : Int32))), (0, .ref a), (1, .int i0), (2, .int i1), (3, .int i2)]) (st' := [.ref a, .int (i0 + (1 : Int32))]) [(10, .iload 4, 2, .null), (12, .aload_n 0, 1, .null)] (by decide +kernel) rfl ?_
    refine aw_gl (v := .int (s 0 0)) a 0 h0 eo_R_0 fgX4_35 rfl (by decide +kernel) ?_
    refine aw_ic_gt (off := 20) 36 (by decide) (by decide +kernel) (fun hc => ?_) (fun hc => ?_)
    · have hm := (if_pos hc).symm.trans hm
      refine aw_b (pc' := 37) (lv' := [(4, .int (i0 + (1 : Int32))), (0, .ref a), (1, .int i0), (2, .int i1), (3, .int i2)]) (st' := [.int (0 : Int32)]) [(36, .iconst 0, 1, .int (0 : Int32))] (by decide +kernel) rfl ?_
      obtain rfl := Option.some.inj hm
      subst hQ
      exact aw_iret rfl (Nat.zero_le _) (Nat.zero_le _) (by decide +kernel) ⟨rfl, hs⟩
    · have hm := (if_neg hc).symm.trans hm
      refine aw_b (pc' := 20) (lv' := [(4, .int (i0 + (1 : Int32))), (0, .ref a), (1, .int i0), (2, .int i1), (3, .int i2)]) (st' := [.int i1]) [(19, .iload_n 2, 1, .null)] (by decide +kernel) rfl ?_
      refine aw_if_lt (off := 16) 36 (by decide) (by decide +kernel) (fun hc => ?_) (fun hc => ?_)
      · have hm := (if_pos hc).symm.trans hm
        refine aw_b (pc' := 37) (lv' := [(4, .int (i0 + (1 : Int32))), (0, .ref a), (1, .int i0), (2, .int i1), (3, .int i2)]) (st' := [.int (0 : Int32)]) [(36, .iconst 0, 1, .int (0 : Int32))] (by decide +kernel) rfl ?_
        obtain rfl := Option.some.inj hm
        subst hQ
        exact aw_iret rfl (Nat.zero_le _) (Nat.zero_le _) (by decide +kernel) ⟨rfl, hs⟩
      · have hm := (if_neg hc).symm.trans hm
        refine aw_b (pc' := 25) (lv' := [(4, .int (i0 + (1 : Int32))), (0, .ref a), (1, .int i0), (2, .int i1), (3, .int i2)]) (st' := [.ref a, .int i2]) [(23, .iload_n 3, 1, .null), (24, .aload_n 0, 1, .null)] (by decide +kernel) rfl ?_
        refine aw_gl (v := .int (s 0 1)) a 0 h0 eo_R_0 fgX4_39 rfl (by decide +kernel) ?_
        refine aw_ic_gt (off := 8) 36 (by decide) (by decide +kernel) (fun hc => ?_) (fun hc => ?_)
        · have hm := (if_pos hc).symm.trans hm
          refine aw_b (pc' := 37) (lv' := [(4, .int (i0 + (1 : Int32))), (0, .ref a), (1, .int i0), (2, .int i1), (3, .int i2)]) (st' := [.int (0 : Int32)]) [(36, .iconst 0, 1, .int (0 : Int32))] (by decide +kernel) rfl ?_
          obtain rfl := Option.some.inj hm
          subst hQ
          exact aw_iret rfl (Nat.zero_le _) (Nat.zero_le _) (by decide +kernel) ⟨rfl, hs⟩
        · have hm := (if_neg hc).symm.trans hm
          refine aw_b (pc' := 33) (lv' := [(4, .int (i0 + (1 : Int32))), (0, .ref a), (1, .int i0), (2, .int i1), (3, .int i2)]) (st' := [.int i2, .int i1]) [(31, .iload_n 2, 1, .null), (32, .iload_n 3, 1, .null)] (by decide +kernel) rfl ?_
          refine aw_ic_le (off := 5) 38 (by decide) (by decide +kernel) (fun hc => ?_) (fun hc => ?_)
          · have hm := (if_pos hc).symm.trans hm
            refine aw_b (pc' := 39) (lv' := [(4, .int (i0 + (1 : Int32))), (0, .ref a), (1, .int i0), (2, .int i1), (3, .int i2)]) (st' := [.ref a]) [(38, .aload_n 0, 1, .null)] (by decide +kernel) rfl ?_
            refine aw_gl (v := .ref (a + 1)) a 0 h0 eo_R_0 fgX4_11 rfl (by decide +kernel) ?_
            refine aw_b (pc' := 44) (lv' := [(4, .int (i0 + (1 : Int32))), (0, .ref a), (1, .int i0), (2, .int i1), (3, .int i2)]) (st' := [.int (i0 + (1 : Int32)), .ref (a + 1)]) [(42, .iload 4, 2, .null)] (by decide +kernel) rfl ?_
            obtain ⟨g1, hm⟩ := gd_x hm
            refine aw_iall a 1 h0 ra_R_1 g1 (by decide +kernel) ?_
            refine aw_b (pc' := 46) (lv' := [(4, .int (i0 + (1 : Int32))), (0, .ref a), (1, .int i0), (2, .int i1), (3, .int i2)]) (st' := [.int i2, .ref (a + (1 * ix_ (i0 + (1 : Int32)) + 2))]) [(45, .iload_n 3, 1, .null)] (by decide +kernel) rfl ?_
            obtain ⟨g2, hm⟩ := gd_x hm
            refine aw_ial a (1 * ix_ (i0 + (1 : Int32)) + 2) h0 (sr_R_2 _ (ib_lt g1)) g2 (by decide +kernel) ?_
            refine aw_b (pc' := 48) (lv' := [(4, .int (i0 + (1 : Int32))), (0, .ref a), (1, .int i0), (2, .int i1), (3, .int i2)]) (st' := [.ref a, .int (s (1 * ix_ (i0 + (1 : Int32)) + 2) (ix_ i2))]) [(47, .aload_n 0, 1, .null)] (by decide +kernel) rfl ?_
            refine aw_gl (v := .ref (a + 1)) a 0 h0 eo_R_0 fgX4_11 rfl (by decide +kernel) ?_
            refine aw_b (pc' := 53) (lv' := [(4, .int (i0 + (1 : Int32))), (0, .ref a), (1, .int i0), (2, .int i1), (3, .int i2)]) (st' := [.int (i0 + (1 : Int32)), .ref (a + 1), .int (s (1 * ix_ (i0 + (1 : Int32)) + 2) (ix_ i2))]) [(51, .iload 4, 2, .null)] (by decide +kernel) rfl ?_
            obtain ⟨g3, hm⟩ := gd_x hm
            refine aw_iall a 1 h0 ra_R_1 g3 (by decide +kernel) ?_
            refine aw_b (pc' := 55) (lv' := [(4, .int (i0 + (1 : Int32))), (0, .ref a), (1, .int i0), (2, .int i1), (3, .int i2)]) (st' := [.int i1, .ref (a + (1 * ix_ (i0 + (1 : Int32)) + 2)), .int (s (1 * ix_ (i0 + (1 : Int32)) + 2) (ix_ i2))]) [(54, .iload_n 2, 1, .null)] (by decide +kernel) rfl ?_
            obtain ⟨g4, hm⟩ := gd_x hm
            refine aw_ial a (1 * ix_ (i0 + (1 : Int32)) + 2) h0 (sr_R_2 _ (ib_lt g3)) g4 (by decide +kernel) ?_
            refine aw_b (pc' := 57) (lv' := [(4, .int (i0 + (1 : Int32))), (0, .ref a), (1, .int i0), (2, .int i1), (3, .int i2)]) (st' := [.int ((s (1 * ix_ (i0 + (1 : Int32)) + 2) (ix_ i2)) - (s (1 * ix_ (i0 + (1 : Int32)) + 2) (ix_ i1)))]) [(56, .isub, 1, .null)] (by decide +kernel) rfl ?_
            obtain rfl := Option.some.inj hm
            subst hQ
            exact aw_iret rfl (Nat.zero_le _) (Nat.zero_le _) (by decide +kernel) ⟨rfl, hs⟩
          · have hm := (if_neg hc).symm.trans hm
            refine aw_b (pc' := 37) (lv' := [(4, .int (i0 + (1 : Int32))), (0, .ref a), (1, .int i0), (2, .int i1), (3, .int i2)]) (st' := [.int (0 : Int32)]) [(36, .iconst 0, 1, .int (0 : Int32))] (by decide +kernel) rfl ?_
            obtain rfl := Option.some.inj hm
            subst hQ
            exact aw_iret rfl (Nat.zero_le _) (Nat.zero_le _) (by decide +kernel) ⟨rfl, hs⟩
def mX4_cheapestIn : mt_ := (yX4_cheapestIn, cX4_cheapestIn, 5, some .int, [], { frames := 1, locals := 24, cells := 0, slots := 0 })
theorem ckX4_cheapestIn : cokV_ mX4_cheapestIn := ⟨⟨(uw_mem 1327 (by decide +kernel) (by decide +kernel)), (uw_mem 35 (by decide +kernel) (by decide +kernel)), by decide +kernel, by decide +kernel⟩, (uw_mem 1325 (by decide +kernel) (by decide +kernel)), (uw_mem 1326 (by decide +kernel) (by decide +kernel))⟩
theorem nkX4_cheapestIn : nok_ mX4_cheapestIn 2 := by decide +kernel
theorem lkX4_129 : Cond.methodLink RX4 129 yX4_paidIn ∈ uw_ := (uw_mem 1323 (by decide +kernel) (by decide +kernel))
theorem kX4_cheapestIn {E : ev_} {H : Heap} {a : Nat} {s : st_} {i0 : Int32} {i1 : Int32} {r : Int32} (hm : fX4_cheapestIn s i0 i1 = some r) (h0 : has_ E H a ly_R s) : sp_ E mX4_cheapestIn [.ref a, .int i0, .int i1] H (po1 (.inl (some (.int r))) (fun Hn => sm_ H Hn 0 0)) := by
  refine sp_of (by decide +kernel) rfl rfl ?_
  generalize hQ : po1 _ _ = Q
  have hs : sm_ H H 0 0 := sm_.rfl'
  unfold fX4_cheapestIn at hm
  refine aw_lv (lv' := [(0, .ref a), (1, .int i0), (2, .int i1)]) [0, 1, 2] rfl ?_
  refine aw_b (pc' := 5) (lv' := [(4, .int (1 : Int32)), (3, .int (0 : Int32)), (0, .ref a), (1, .int i0), (2, .int i1)]) (st' := []) [(0, .iconst 0, 1, .int (0 : Int32)), (1, .istore_n 3, 1, .null), (2, .iconst 1, 1, .int (1 : Int32)), (3, .istore 4, 2, .null)] (by decide +kernel) rfl ?_
  obtain ⟨x5, hx5, hr5⟩ := bn_x hm
  have X5_41 : ∀ (v3_x5_41 : Int32) (H_x5_41 : Heap), has_ E H_x5_41 a ly_R s → sm_ H H_x5_41 0 0 → fX4_cheapestIn_x5_41 v3_x5_41 = some r → aw E mX4_cheapestIn Q 41 [(3, .int v3_x5_41)] [] H_x5_41 0 0 := by
    intro v3_x5_41 H_x5_41 h0 hs hm
    unfold fX4_cheapestIn_x5_41 at hm
    refine aw_b (pc' := 42) (lv' := [(3, .int v3_x5_41)]) (st' := [.int v3_x5_41]) [(41, .iload_n 3, 1, .null)] (by decide +kernel) rfl ?_
    obtain rfl := Option.some.inj hm
    subst hQ
    exact aw_iret rfl (Nat.zero_le _) (Nat.zero_le _) (by decide +kernel) ⟨rfl, hs⟩
  have L5 : ∀ (fu : Nat) (v3_b5 : Int32) (v4_b5 : Int32) (H_b5 : Heap), has_ E H_b5 a ly_R s → sm_ H H_b5 0 0 → fX4_cheapestIn_l5 s i0 i1 fu (v3_b5, v4_b5) = some x5 → aw E mX4_cheapestIn Q 5 [(0, .ref a), (1, .int i0), (2, .int i1), (3, .int v3_b5), (4, .int v4_b5)] [] H_b5 0 0 := by
    intro fu
    induction fu with
    | zero =>
      intro v3_b5 v4_b5 H_b5 h0 hs hm
      exact (it_0 hm).elim
    | succ fu ih5 =>
      intro v3_b5 v4_b5 H_b5 h0 hs hm
      obtain ⟨y5, hm, hk5⟩ := it_s hm
      have hm : fX4_cheapestIn_b5 s i0 i1 v3_b5 v4_b5 = some y5 := hm
      unfold fX4_cheapestIn_b5 at hm
      refine aw_b (pc' := 8) (lv' := [(0, .ref a), (1, .int i0), (2, .int i1), (3, .int v3_b5), (4, .int v4_b5)]) (st' := [.ref a, .int v4_b5]) [(5, .iload 4, 2, .null), (7, .aload_n 0, 1, .null)] (by decide +kernel) rfl ?_
      refine aw_gl (v := .int (s 0 0)) a 0 h0 eo_R_0 fgX4_35 rfl (by decide +kernel) ?_
      refine aw_ic_ge (off := 30) 41 (by decide) (by decide +kernel) (fun hc => ?_) (fun hc => ?_)
      · have hm := (if_pos hc).symm.trans hm
        cases hm
        refine aw_lv (lv' := [(3, .int v3_b5)]) [3] rfl ?_
        exact X5_41 v3_b5 H_b5 h0 hs ((congrArg fX4_cheapestIn_k5 (show (v3_b5) = x5 from hk5)).trans hr5)
      · have hm := (if_neg hc).symm.trans hm
        refine aw_b (pc' := 19) (lv' := [(0, .ref a), (1, .int i0), (2, .int i1), (3, .int v3_b5), (4, .int v4_b5)]) (st' := [.int i1, .int i0, .int v4_b5, .ref a]) [(14, .aload_n 0, 1, .null), (15, .iload 4, 2, .null), (17, .iload_n 1, 1, .null), (18, .iload_n 2, 1, .null)] (by decide +kernel) rfl ?_
        obtain ⟨r1, e2, hm⟩ := bn_x hm
        refine aw_cv (rest := []) (st1 := [.int r1]) a 0 (kX4_paidIn e2 h0) rfl rfl ckX4_paidIn lkX4_129 h0 eo_R_0 ⟨_, _, rfl⟩ nkX4_paidIn rfl rfl rfl (Nat.le_of_ble_eq_true rfl) (Nat.zero_le _) (Nat.zero_le _) (by decide +kernel) (fun H3 z4 => ?_)
        have h0 := h0.kept0 z4
        have hs := hs.step0 z4
        refine aw_b (pc' := 26) (lv' := [(0, .ref a), (1, .int i0), (2, .int i1), (3, .int v3_b5), (4, .int v4_b5)]) (st' := [.int i1, .int i0, .int v3_b5, .ref a, .int r1]) [(22, .aload_n 0, 1, .null), (23, .iload_n 3, 1, .null), (24, .iload_n 1, 1, .null), (25, .iload_n 2, 1, .null)] (by decide +kernel) rfl ?_
        obtain ⟨r5, e6, hm⟩ := bn_x hm
        refine aw_cv (rest := [.int r1]) (st1 := [.int r5, .int r1]) a 0 (kX4_paidIn e6 h0) rfl rfl ckX4_paidIn lkX4_129 h0 eo_R_0 ⟨_, _, rfl⟩ nkX4_paidIn rfl rfl rfl (Nat.le_of_ble_eq_true rfl) (Nat.zero_le _) (Nat.zero_le _) (by decide +kernel) (fun H7 z8 => ?_)
        have h0 := h0.kept0 z8
        have hs := hs.step0 z8
        have J35 : ∀ (v3_j35 : Int32) (H_j35 : Heap), has_ E H_j35 a ly_R s → sm_ H H_j35 0 0 → fX4_cheapestIn_j35 v4_b5 v3_j35 = some y5 → aw E mX4_cheapestIn Q 35 [(0, .ref a), (1, .int i0), (2, .int i1), (3, .int v3_j35), (4, .int v4_b5)] [] H_j35 0 0 := by
          intro v3_j35 H_j35 h0 hs hm
          unfold fX4_cheapestIn_j35 at hm
          refine aw_b (pc' := 5) (lv' := [(4, .int (v4_b5 + (1 : Int32))), (0, .ref a), (1, .int i0), (2, .int i1), (3, .int v3_j35)]) (st' := []) [(35, .iinc 4 1, 3, .int (1 : Int32)), (38, .goto (-33), 3, .null)] (by decide +kernel) rfl ?_
          cases hm
          refine aw_lv (lv' := [(0, .ref a), (1, .int i0), (2, .int i1), (3, .int v3_j35), (4, .int (v4_b5 + (1 : Int32)))]) [1, 2, 3, 4, 0] rfl ?_
          exact ih5 v3_j35 (v4_b5 + (1 : Int32)) H_j35 h0 hs hk5
        refine aw_ic_ge (off := 6) 35 (by decide) (by decide +kernel) (fun hc => ?_) (fun hc => ?_)
        · have hm := (if_pos hc).symm.trans hm
          exact J35 v3_b5 H7 h0 hs hm
        · have hm := (if_neg hc).symm.trans hm
          refine aw_b (pc' := 35) (lv' := [(3, .int v4_b5), (0, .ref a), (1, .int i0), (2, .int i1), (4, .int v4_b5)]) (st' := []) [(32, .iload 4, 2, .null), (34, .istore_n 3, 1, .null)] (by decide +kernel) rfl ?_
          refine aw_lv (lv' := [(0, .ref a), (1, .int i0), (2, .int i1), (3, .int v4_b5), (4, .int v4_b5)]) [1, 2, 3, 0, 4] rfl ?_
          exact J35 v4_b5 H7 h0 hs hm
  refine aw_lv (lv' := [(0, .ref a), (1, .int i0), (2, .int i1), (3, .int (0 : Int32)), (4, .int (1 : Int32))]) [2, 3, 4, 1, 0] rfl ?_
  exact L5 FU_ (0 : Int32) (1 : Int32) H h0 hs hx5
def mX4_regretOver : mt_ := (yX4_regretOver, cX4_regretOver, 3, some .int, [], { frames := 2, locals := 48, cells := 0, slots := 0 })
theorem ckX4_regretOver : cokV_ mX4_regretOver := ⟨⟨(uw_mem 1322 (by decide +kernel) (by decide +kernel)), (uw_mem 35 (by decide +kernel) (by decide +kernel)), by decide +kernel, by decide +kernel⟩, (uw_mem 1320 (by decide +kernel) (by decide +kernel)), (uw_mem 1321 (by decide +kernel) (by decide +kernel))⟩
theorem nkX4_regretOver : nok_ mX4_regretOver 2 := by decide +kernel
theorem lkX4_133 : Cond.methodLink RX4 133 yX4_cheapestIn ∈ uw_ := (uw_mem 1324 (by decide +kernel) (by decide +kernel))
theorem kX4_regretOver {E : ev_} {H : Heap} {a : Nat} {s : st_} {i0 : Int32} {i1 : Int32} {r : Int32} (hm : fX4_regretOver s i0 i1 = some r) (h0 : has_ E H a ly_R s) : sp_ E mX4_regretOver [.ref a, .int i0, .int i1] H (po1 (.inl (some (.int r))) (fun Hn => sm_ H Hn 0 0)) := by
  refine sp_of (by decide +kernel) rfl rfl ?_
  generalize hQ : po1 _ _ = Q
  have hs : sm_ H H 0 0 := sm_.rfl'
  unfold fX4_regretOver at hm
  refine aw_lv (lv' := [(0, .ref a), (1, .int i0), (2, .int i1)]) [0, 1, 2] rfl ?_
  refine aw_b (pc' := 4) (lv' := [(0, .ref a), (1, .int i0), (2, .int i1)]) (st' := [.int i1, .int i0, .int (-1 : Int32), .ref a]) [(0, .aload_n 0, 1, .null), (1, .iconst (-1), 1, .int (-1 : Int32)), (2, .iload_n 1, 1, .null), (3, .iload_n 2, 1, .null)] (by decide +kernel) rfl ?_
  obtain ⟨r1, e2, hm⟩ := bn_x hm
  refine aw_cv (rest := []) (st1 := [.int r1]) a 0 (kX4_paidIn e2 h0) rfl rfl ckX4_paidIn lkX4_129 h0 eo_R_0 ⟨_, _, rfl⟩ nkX4_paidIn rfl rfl rfl (Nat.le_of_ble_eq_true rfl) (Nat.zero_le _) (Nat.zero_le _) (by decide +kernel) (fun H3 z4 => ?_)
  have h0 := h0.kept0 z4
  have hs := hs.step0 z4
  refine aw_b (pc' := 11) (lv' := [(0, .ref a), (1, .int i0), (2, .int i1)]) (st' := [.int i1, .int i0, .ref a, .ref a, .int r1]) [(7, .aload_n 0, 1, .null), (8, .aload_n 0, 1, .null), (9, .iload_n 1, 1, .null), (10, .iload_n 2, 1, .null)] (by decide +kernel) rfl ?_
  obtain ⟨r5, e6, hm⟩ := bn_x hm
  refine aw_cv (rest := [.ref a, .int r1]) (st1 := [.int r5, .ref a, .int r1]) a 0 (kX4_cheapestIn e6 h0) rfl rfl ckX4_cheapestIn lkX4_133 h0 eo_R_0 ⟨_, _, rfl⟩ nkX4_cheapestIn rfl rfl rfl (Nat.le_of_ble_eq_true rfl) (Nat.zero_le _) (Nat.zero_le _) (by decide +kernel) (fun H7 z8 => ?_)
  have h0 := h0.kept0 z8
  have hs := hs.step0 z8
  refine aw_b (pc' := 16) (lv' := [(0, .ref a), (1, .int i0), (2, .int i1)]) (st' := [.int i1, .int i0, .int r5, .ref a, .int r1]) [(14, .iload_n 1, 1, .null), (15, .iload_n 2, 1, .null)] (by decide +kernel) rfl ?_
  obtain ⟨r9, e10, hm⟩ := bn_x hm
  refine aw_cv (rest := [.int r1]) (st1 := [.int r9, .int r1]) a 0 (kX4_paidIn e10 h0) rfl rfl ckX4_paidIn lkX4_129 h0 eo_R_0 ⟨_, _, rfl⟩ nkX4_paidIn rfl rfl rfl (Nat.le_of_ble_eq_true rfl) (Nat.zero_le _) (Nat.zero_le _) (by decide +kernel) (fun H11 z12 => ?_)
  have h0 := h0.kept0 z12
  have hs := hs.step0 z12
  refine aw_b (pc' := 20) (lv' := [(0, .ref a), (1, .int i0), (2, .int i1)]) (st' := [.int (r1 - r9)]) [(19, .isub, 1, .null)] (by decide +kernel) rfl ?_
  obtain rfl := Option.some.inj hm
  subst hQ
  exact aw_iret rfl (Nat.zero_le _) (Nat.zero_le _) (by decide +kernel) ⟨rfl, hs⟩
def mX4_splitCost : mt_ := (yX4_splitCost, cX4_splitCost, 2, some .int, [], { frames := 2, locals := 48, cells := 0, slots := 0 })
theorem ckX4_splitCost : cokV_ mX4_splitCost := ⟨⟨(uw_mem 1352 (by decide +kernel) (by decide +kernel)), (uw_mem 35 (by decide +kernel) (by decide +kernel)), by decide +kernel, by decide +kernel⟩, (uw_mem 1350 (by decide +kernel) (by decide +kernel)), (uw_mem 1351 (by decide +kernel) (by decide +kernel))⟩
theorem nkX4_splitCost : nok_ mX4_splitCost 1 := by decide +kernel
theorem kX4_splitCost {E : ev_} {H : Heap} {a : Nat} {s : st_} {i0 : Int32} {r : Int32} (hm : fX4_splitCost s i0 = some r) (h0 : has_ E H a ly_R s) : sp_ E mX4_splitCost [.ref a, .int i0] H (po1 (.inl (some (.int r))) (fun Hn => sm_ H Hn 0 0)) := by
  refine sp_of (by decide +kernel) rfl rfl ?_
  generalize hQ : po1 _ _ = Q
  have hs : sm_ H H 0 0 := sm_.rfl'
  unfold fX4_splitCost at hm
  refine aw_lv (lv' := [(0, .ref a), (1, .int i0)]) [0, 1] rfl ?_
  refine aw_b (pc' := 4) (lv' := [(0, .ref a), (1, .int i0)]) (st' := [.int i0, .int (0 : Int32), .ref a, .ref a]) [(0, .aload_n 0, 1, .null), (1, .aload_n 0, 1, .null), (2, .iconst 0, 1, .int (0 : Int32)), (3, .iload_n 1, 1, .null)] (by decide +kernel) rfl ?_
  obtain ⟨r1, e2, hm⟩ := bn_x hm
  refine aw_cv (rest := [.ref a]) (st1 := [.int r1, .ref a]) a 0 (kX4_cheapestIn e2 h0) rfl rfl ckX4_cheapestIn lkX4_133 h0 eo_R_0 ⟨_, _, rfl⟩ nkX4_cheapestIn rfl rfl rfl (Nat.le_of_ble_eq_true rfl) (Nat.zero_le _) (Nat.zero_le _) (by decide +kernel) (fun H3 z4 => ?_)
  have h0 := h0.kept0 z4
  have hs := hs.step0 z4
  refine aw_b (pc' := 9) (lv' := [(0, .ref a), (1, .int i0)]) (st' := [.int i0, .int (0 : Int32), .int r1, .ref a]) [(7, .iconst 0, 1, .int (0 : Int32)), (8, .iload_n 1, 1, .null)] (by decide +kernel) rfl ?_
  obtain ⟨r5, e6, hm⟩ := bn_x hm
  refine aw_cv (rest := []) (st1 := [.int r5]) a 0 (kX4_paidIn e6 h0) rfl rfl ckX4_paidIn lkX4_129 h0 eo_R_0 ⟨_, _, rfl⟩ nkX4_paidIn rfl rfl rfl (Nat.le_of_ble_eq_true rfl) (Nat.zero_le _) (Nat.zero_le _) (by decide +kernel) (fun H7 z8 => ?_)
  have h0 := h0.kept0 z8
  have hs := hs.step0 z8
  refine aw_b (pc' := 16) (lv' := [(0, .ref a), (1, .int i0)]) (st' := [.ref a, .int i0, .ref a, .ref a, .int r5]) [(12, .aload_n 0, 1, .null), (13, .aload_n 0, 1, .null), (14, .iload_n 1, 1, .null), (15, .aload_n 0, 1, .null)] (by decide +kernel) rfl ?_
  refine aw_gl (v := .int (s 0 1)) a 0 h0 eo_R_0 fgX4_39 rfl (by decide +kernel) ?_
  obtain ⟨r9, e10, hm⟩ := bn_x hm
  refine aw_cv (rest := [.ref a, .int r5]) (st1 := [.int r9, .ref a, .int r5]) a 0 (kX4_cheapestIn e10 h0) rfl rfl ckX4_cheapestIn lkX4_133 h0 eo_R_0 ⟨_, _, rfl⟩ nkX4_cheapestIn rfl rfl rfl (Nat.le_of_ble_eq_true rfl) (Nat.zero_le _) (Nat.zero_le _) (by decide +kernel) (fun H11 z12 => ?_)
  have h0 := h0.kept0 z12
  have hs := hs.step0 z12
  refine aw_b (pc' := 24) (lv' := [(0, .ref a), (1, .int i0)]) (st' := [.ref a, .int i0, .int r9, .ref a, .int r5]) [(22, .iload_n 1, 1, .null), (23, .aload_n 0, 1, .null)] (by decide +kernel) rfl ?_
  refine aw_gl (v := .int (s 0 1)) a 0 h0 eo_R_0 fgX4_39 rfl (by decide +kernel) ?_
  obtain ⟨r13, e14, hm⟩ := bn_x hm
  refine aw_cv (rest := [.int r5]) (st1 := [.int r13, .int r5]) a 0 (kX4_paidIn e14 h0) rfl rfl ckX4_paidIn lkX4_129 h0 eo_R_0 ⟨_, _, rfl⟩ nkX4_paidIn rfl rfl rfl (Nat.le_of_ble_eq_true rfl) (Nat.zero_le _) (Nat.zero_le _) (by decide +kernel) (fun H15 z16 => ?_)
  have h0 := h0.kept0 z16
  have hs := hs.step0 z16
  refine aw_b (pc' := 31) (lv' := [(0, .ref a), (1, .int i0)]) (st' := [.int (r5 + r13)]) [(30, .iadd, 1, .null)] (by decide +kernel) rfl ?_
  obtain rfl := Option.some.inj hm
  subst hQ
  exact aw_iret rfl (Nat.zero_le _) (Nat.zero_le _) (by decide +kernel) ⟨rfl, hs⟩
def mX4_bestSplit : mt_ := (yX4_bestSplit, cX4_bestSplit, 5, some .int, [], { frames := 3, locals := 69, cells := 0, slots := 0 })
theorem ckX4_bestSplit : cokV_ mX4_bestSplit := ⟨⟨(uw_mem 1348 (by decide +kernel) (by decide +kernel)), (uw_mem 35 (by decide +kernel) (by decide +kernel)), by decide +kernel, by decide +kernel⟩, (uw_mem 1346 (by decide +kernel) (by decide +kernel)), (uw_mem 1347 (by decide +kernel) (by decide +kernel))⟩
theorem nkX4_bestSplit : nok_ mX4_bestSplit 0 := by decide +kernel
theorem lkX4_137 : Cond.methodLink RX4 137 yX4_splitCost ∈ uw_ := (uw_mem 1349 (by decide +kernel) (by decide +kernel))
theorem kX4_bestSplit {E : ev_} {H : Heap} {a : Nat} {s : st_} {r : Int32} (hm : fX4_bestSplit s = some r) (h0 : has_ E H a ly_R s) : sp_ E mX4_bestSplit [.ref a] H (po1 (.inl (some (.int r))) (fun Hn => sm_ H Hn 0 0)) := by
  refine sp_of (by decide +kernel) rfl rfl ?_
  generalize hQ : po1 _ _ = Q
  have hs : sm_ H H 0 0 := sm_.rfl'
  unfold fX4_bestSplit at hm
  refine aw_lv (lv' := [(0, .ref a)]) [0] rfl ?_
  refine aw_b (pc' := 4) (lv' := [(1, .int (0 : Int32)), (0, .ref a)]) (st' := [.int (0 : Int32), .ref a]) [(0, .iconst 0, 1, .int (0 : Int32)), (1, .istore_n 1, 1, .null), (2, .aload_n 0, 1, .null), (3, .iconst 0, 1, .int (0 : Int32))] (by decide +kernel) rfl ?_
  obtain ⟨r1, e2, hm⟩ := bn_x hm
  refine aw_cv (rest := []) (st1 := [.int r1]) a 0 (kX4_splitCost e2 h0) rfl rfl ckX4_splitCost lkX4_137 h0 eo_R_0 ⟨_, _, rfl⟩ nkX4_splitCost rfl rfl rfl (Nat.le_of_ble_eq_true rfl) (Nat.zero_le _) (Nat.zero_le _) (by decide +kernel) (fun H3 z4 => ?_)
  have h0 := h0.kept0 z4
  have hs := hs.step0 z4
  refine aw_b (pc' := 10) (lv' := [(3, .int (1 : Int32)), (2, .int r1), (1, .int (0 : Int32)), (0, .ref a)]) (st' := []) [(7, .istore_n 2, 1, .null), (8, .iconst 1, 1, .int (1 : Int32)), (9, .istore_n 3, 1, .null)] (by decide +kernel) rfl ?_
  obtain ⟨x10, hx10, hr10⟩ := bn_x hm
  have X10_42 : ∀ (v1_x10_42 : Int32) (H_x10_42 : Heap), has_ E H_x10_42 a ly_R s → sm_ H H_x10_42 0 0 → fX4_bestSplit_x10_42 v1_x10_42 = some r → aw E mX4_bestSplit Q 42 [(1, .int v1_x10_42)] [] H_x10_42 0 0 := by
    intro v1_x10_42 H_x10_42 h0 hs hm
    unfold fX4_bestSplit_x10_42 at hm
    refine aw_b (pc' := 43) (lv' := [(1, .int v1_x10_42)]) (st' := [.int v1_x10_42]) [(42, .iload_n 1, 1, .null)] (by decide +kernel) rfl ?_
    obtain rfl := Option.some.inj hm
    subst hQ
    exact aw_iret rfl (Nat.zero_le _) (Nat.zero_le _) (by decide +kernel) ⟨rfl, hs⟩
  have L10 : ∀ (fu : Nat) (v1_b10 : Int32) (v2_b10 : Int32) (v3_b10 : Int32) (H_b10 : Heap), has_ E H_b10 a ly_R s → sm_ H H_b10 0 0 → fX4_bestSplit_l10 s fu (v1_b10, v2_b10, v3_b10) = some x10 → aw E mX4_bestSplit Q 10 [(0, .ref a), (1, .int v1_b10), (2, .int v2_b10), (3, .int v3_b10)] [] H_b10 0 0 := by
    intro fu
    induction fu with
    | zero =>
      intro v1_b10 v2_b10 v3_b10 H_b10 h0 hs hm
      exact (it_0 hm).elim
    | succ fu ih10 =>
      intro v1_b10 v2_b10 v3_b10 H_b10 h0 hs hm
      obtain ⟨y10, hm, hk10⟩ := it_s hm
      have hm : fX4_bestSplit_b10 s v1_b10 v2_b10 v3_b10 = some y10 := hm
      unfold fX4_bestSplit_b10 at hm
      refine aw_b (pc' := 12) (lv' := [(0, .ref a), (1, .int v1_b10), (2, .int v2_b10), (3, .int v3_b10)]) (st' := [.ref a, .int v3_b10]) [(10, .iload_n 3, 1, .null), (11, .aload_n 0, 1, .null)] (by decide +kernel) rfl ?_
      refine aw_gl (v := .int (s 0 1)) a 0 h0 eo_R_0 fgX4_39 rfl (by decide +kernel) ?_
      refine aw_ic_gt (off := 27) 42 (by decide) (by decide +kernel) (fun hc => ?_) (fun hc => ?_)
      · have hm := (if_pos hc).symm.trans hm
        cases hm
        refine aw_lv (lv' := [(1, .int v1_b10)]) [1] rfl ?_
        exact X10_42 v1_b10 H_b10 h0 hs ((congrArg fX4_bestSplit_k10 (show (v1_b10) = x10 from hk10)).trans hr10)
      · have hm := (if_neg hc).symm.trans hm
        refine aw_b (pc' := 20) (lv' := [(0, .ref a), (1, .int v1_b10), (2, .int v2_b10), (3, .int v3_b10)]) (st' := [.int v3_b10, .ref a]) [(18, .aload_n 0, 1, .null), (19, .iload_n 3, 1, .null)] (by decide +kernel) rfl ?_
        obtain ⟨r5, e6, hm⟩ := bn_x hm
        refine aw_cv (rest := []) (st1 := [.int r5]) a 0 (kX4_splitCost e6 h0) rfl rfl ckX4_splitCost lkX4_137 h0 eo_R_0 ⟨_, _, rfl⟩ nkX4_splitCost rfl rfl rfl (Nat.le_of_ble_eq_true rfl) (Nat.zero_le _) (Nat.zero_le _) (by decide +kernel) (fun H7 z8 => ?_)
        have h0 := h0.kept0 z8
        have hs := hs.step0 z8
        refine aw_b (pc' := 28) (lv' := [(4, .int r5), (0, .ref a), (1, .int v1_b10), (2, .int v2_b10), (3, .int v3_b10)]) (st' := [.int v2_b10, .int r5]) [(23, .istore 4, 2, .null), (25, .iload 4, 2, .null), (27, .iload_n 2, 1, .null)] (by decide +kernel) rfl ?_
        have J36 : ∀ (v1_j36 : Int32) (v2_j36 : Int32) (H_j36 : Heap), has_ E H_j36 a ly_R s → sm_ H H_j36 0 0 → fX4_bestSplit_j36 v3_b10 v1_j36 v2_j36 = some y10 → aw E mX4_bestSplit Q 36 [(0, .ref a), (1, .int v1_j36), (2, .int v2_j36), (3, .int v3_b10)] [] H_j36 0 0 := by
          intro v1_j36 v2_j36 H_j36 h0 hs hm
          unfold fX4_bestSplit_j36 at hm
          refine aw_b (pc' := 10) (lv' := [(3, .int (v3_b10 + (1 : Int32))), (0, .ref a), (1, .int v1_j36), (2, .int v2_j36)]) (st' := []) [(36, .iinc 3 1, 3, .int (1 : Int32)), (39, .goto (-29), 3, .null)] (by decide +kernel) rfl ?_
          cases hm
          refine aw_lv (lv' := [(0, .ref a), (1, .int v1_j36), (2, .int v2_j36), (3, .int (v3_b10 + (1 : Int32)))]) [1, 2, 3, 0] rfl ?_
          exact ih10 v1_j36 v2_j36 (v3_b10 + (1 : Int32)) H_j36 h0 hs hk10
        refine aw_ic_ge (off := 8) 36 (by decide) (by decide +kernel) (fun hc => ?_) (fun hc => ?_)
        · have hm := (if_pos hc).symm.trans hm
          refine aw_lv (lv' := [(0, .ref a), (1, .int v1_b10), (2, .int v2_b10), (3, .int v3_b10)]) [1, 2, 3, 4] rfl ?_
          exact J36 v1_b10 v2_b10 H7 h0 hs hm
        · have hm := (if_neg hc).symm.trans hm
          refine aw_b (pc' := 36) (lv' := [(2, .int r5), (1, .int v3_b10), (4, .int r5), (0, .ref a), (3, .int v3_b10)]) (st' := []) [(31, .iload_n 3, 1, .null), (32, .istore_n 1, 1, .null), (33, .iload 4, 2, .null), (35, .istore_n 2, 1, .null)] (by decide +kernel) rfl ?_
          refine aw_lv (lv' := [(0, .ref a), (1, .int v3_b10), (2, .int r5), (3, .int v3_b10)]) [3, 1, 0, 4] rfl ?_
          exact J36 v3_b10 r5 H7 h0 hs hm
  refine aw_lv (lv' := [(0, .ref a), (1, .int (0 : Int32)), (2, .int r1), (3, .int (1 : Int32))]) [3, 2, 1, 0] rfl ?_
  exact L10 FU_ (0 : Int32) r1 (1 : Int32) H3 h0 hs hx10
def mX4_cheapestSwap : mt_ := (yX4_cheapestSwap, cX4_cheapestSwap, 4, some .int, [], { frames := 0, locals := 0, cells := 0, slots := 0 })
theorem ckX4_cheapestSwap : cokV_ mX4_cheapestSwap := ⟨⟨(uw_mem 1285 (by decide +kernel) (by decide +kernel)), (uw_mem 35 (by decide +kernel) (by decide +kernel)), by decide +kernel, by decide +kernel⟩, (uw_mem 1283 (by decide +kernel) (by decide +kernel)), (uw_mem 1284 (by decide +kernel) (by decide +kernel))⟩
theorem nkX4_cheapestSwap : nok_ mX4_cheapestSwap 1 := by decide +kernel
theorem kX4_cheapestSwap {E : ev_} {H : Heap} {a : Nat} {s : st_} {i0 : Int32} {r : Int32} (hm : fX4_cheapestSwap s i0 = some r) (h0 : has_ E H a ly_R s) : sp_ E mX4_cheapestSwap [.ref a, .int i0] H (po1 (.inl (some (.int r))) (fun Hn => sm_ H Hn 0 0)) := by
  refine sp_of (by decide +kernel) rfl rfl ?_
  generalize hQ : po1 _ _ = Q
  have hs : sm_ H H 0 0 := sm_.rfl'
  unfold fX4_cheapestSwap at hm
  refine aw_lv (lv' := [(0, .ref a), (1, .int i0)]) [0, 1] rfl ?_
  refine aw_b (pc' := 4) (lv' := [(3, .int (1 : Int32)), (2, .int (0 : Int32)), (0, .ref a), (1, .int i0)]) (st' := []) [(0, .iconst 0, 1, .int (0 : Int32)), (1, .istore_n 2, 1, .null), (2, .iconst 1, 1, .int (1 : Int32)), (3, .istore_n 3, 1, .null)] (by decide +kernel) rfl ?_
  obtain ⟨x4, hx4, hr4⟩ := bn_x hm
  have X4_39 : ∀ (v2_x4_39 : Int32) (H_x4_39 : Heap), has_ E H_x4_39 a ly_R s → sm_ H H_x4_39 0 0 → fX4_cheapestSwap_x4_39 v2_x4_39 = some r → aw E mX4_cheapestSwap Q 39 [(2, .int v2_x4_39)] [] H_x4_39 0 0 := by
    intro v2_x4_39 H_x4_39 h0 hs hm
    unfold fX4_cheapestSwap_x4_39 at hm
    refine aw_b (pc' := 40) (lv' := [(2, .int v2_x4_39)]) (st' := [.int v2_x4_39]) [(39, .iload_n 2, 1, .null)] (by decide +kernel) rfl ?_
    obtain rfl := Option.some.inj hm
    subst hQ
    exact aw_iret rfl (Nat.zero_le _) (Nat.zero_le _) (by decide +kernel) ⟨rfl, hs⟩
  have L4 : ∀ (fu : Nat) (v2_b4 : Int32) (v3_b4 : Int32) (H_b4 : Heap), has_ E H_b4 a ly_R s → sm_ H H_b4 0 0 → fX4_cheapestSwap_l4 s i0 fu (v2_b4, v3_b4) = some x4 → aw E mX4_cheapestSwap Q 4 [(0, .ref a), (1, .int i0), (2, .int v2_b4), (3, .int v3_b4)] [] H_b4 0 0 := by
    intro fu
    induction fu with
    | zero =>
      intro v2_b4 v3_b4 H_b4 h0 hs hm
      exact (it_0 hm).elim
    | succ fu ih4 =>
      intro v2_b4 v3_b4 H_b4 h0 hs hm
      obtain ⟨y4, hm, hk4⟩ := it_s hm
      have hm : fX4_cheapestSwap_b4 s i0 v2_b4 v3_b4 = some y4 := hm
      unfold fX4_cheapestSwap_b4 at hm
      refine aw_b (pc' := 6) (lv' := [(0, .ref a), (1, .int i0), (2, .int v2_b4), (3, .int v3_b4)]) (st' := [.ref a, .int v3_b4]) [(4, .iload_n 3, 1, .null), (5, .aload_n 0, 1, .null)] (by decide +kernel) rfl ?_
      refine aw_gl (v := .int (s 0 0)) a 0 h0 eo_R_0 fgX4_35 rfl (by decide +kernel) ?_
      refine aw_ic_ge (off := 30) 39 (by decide) (by decide +kernel) (fun hc => ?_) (fun hc => ?_)
      · have hm := (if_pos hc).symm.trans hm
        cases hm
        refine aw_lv (lv' := [(2, .int v2_b4)]) [2] rfl ?_
        exact X4_39 v2_b4 H_b4 h0 hs ((congrArg fX4_cheapestSwap_k4 (show (v2_b4) = x4 from hk4)).trans hr4)
      · have hm := (if_neg hc).symm.trans hm
        refine aw_b (pc' := 13) (lv' := [(0, .ref a), (1, .int i0), (2, .int v2_b4), (3, .int v3_b4)]) (st' := [.ref a]) [(12, .aload_n 0, 1, .null)] (by decide +kernel) rfl ?_
        refine aw_gl (v := .ref (a + 13)) a 0 h0 eo_R_0 fgX4_29 rfl (by decide +kernel) ?_
        refine aw_b (pc' := 17) (lv' := [(0, .ref a), (1, .int i0), (2, .int v2_b4), (3, .int v3_b4)]) (st' := [.int i0, .ref (a + 13)]) [(16, .iload_n 1, 1, .null)] (by decide +kernel) rfl ?_
        obtain ⟨g1, hm⟩ := gd_x hm
        refine aw_iall a 13 h0 ra_R_13 g1 (by decide +kernel) ?_
        refine aw_b (pc' := 19) (lv' := [(0, .ref a), (1, .int i0), (2, .int v2_b4), (3, .int v3_b4)]) (st' := [.int v3_b4, .ref (a + (1 * ix_ i0 + 14))]) [(18, .iload_n 3, 1, .null)] (by decide +kernel) rfl ?_
        obtain ⟨g2, hm⟩ := gd_x hm
        refine aw_ial a (1 * ix_ i0 + 14) h0 (sr_R_14 _ (ib_lt g1)) g2 (by decide +kernel) ?_
        refine aw_b (pc' := 21) (lv' := [(0, .ref a), (1, .int i0), (2, .int v2_b4), (3, .int v3_b4)]) (st' := [.ref a, .int (s (1 * ix_ i0 + 14) (ix_ v3_b4))]) [(20, .aload_n 0, 1, .null)] (by decide +kernel) rfl ?_
        refine aw_gl (v := .ref (a + 13)) a 0 h0 eo_R_0 fgX4_29 rfl (by decide +kernel) ?_
        refine aw_b (pc' := 25) (lv' := [(0, .ref a), (1, .int i0), (2, .int v2_b4), (3, .int v3_b4)]) (st' := [.int i0, .ref (a + 13), .int (s (1 * ix_ i0 + 14) (ix_ v3_b4))]) [(24, .iload_n 1, 1, .null)] (by decide +kernel) rfl ?_
        obtain ⟨g3, hm⟩ := gd_x hm
        refine aw_iall a 13 h0 ra_R_13 g3 (by decide +kernel) ?_
        refine aw_b (pc' := 27) (lv' := [(0, .ref a), (1, .int i0), (2, .int v2_b4), (3, .int v3_b4)]) (st' := [.int v2_b4, .ref (a + (1 * ix_ i0 + 14)), .int (s (1 * ix_ i0 + 14) (ix_ v3_b4))]) [(26, .iload_n 2, 1, .null)] (by decide +kernel) rfl ?_
        obtain ⟨g4, hm⟩ := gd_x hm
        refine aw_ial a (1 * ix_ i0 + 14) h0 (sr_R_14 _ (ib_lt g3)) g4 (by decide +kernel) ?_
        have J33 : ∀ (v2_j33 : Int32) (H_j33 : Heap), has_ E H_j33 a ly_R s → sm_ H H_j33 0 0 → fX4_cheapestSwap_j33 v3_b4 v2_j33 = some y4 → aw E mX4_cheapestSwap Q 33 [(0, .ref a), (1, .int i0), (2, .int v2_j33), (3, .int v3_b4)] [] H_j33 0 0 := by
          intro v2_j33 H_j33 h0 hs hm
          unfold fX4_cheapestSwap_j33 at hm
          refine aw_b (pc' := 4) (lv' := [(3, .int (v3_b4 + (1 : Int32))), (0, .ref a), (1, .int i0), (2, .int v2_j33)]) (st' := []) [(33, .iinc 3 1, 3, .int (1 : Int32)), (36, .goto (-32), 3, .null)] (by decide +kernel) rfl ?_
          cases hm
          refine aw_lv (lv' := [(0, .ref a), (1, .int i0), (2, .int v2_j33), (3, .int (v3_b4 + (1 : Int32)))]) [1, 2, 3, 0] rfl ?_
          exact ih4 v2_j33 (v3_b4 + (1 : Int32)) H_j33 h0 hs hk4
        refine aw_ic_ge (off := 5) 33 (by decide) (by decide +kernel) (fun hc => ?_) (fun hc => ?_)
        · have hm := (if_pos hc).symm.trans hm
          exact J33 v2_b4 H_b4 h0 hs hm
        · have hm := (if_neg hc).symm.trans hm
          refine aw_b (pc' := 33) (lv' := [(2, .int v3_b4), (0, .ref a), (1, .int i0), (3, .int v3_b4)]) (st' := []) [(31, .iload_n 3, 1, .null), (32, .istore_n 2, 1, .null)] (by decide +kernel) rfl ?_
          refine aw_lv (lv' := [(0, .ref a), (1, .int i0), (2, .int v3_b4), (3, .int v3_b4)]) [1, 2, 0, 3] rfl ?_
          exact J33 v3_b4 H_b4 h0 hs hm
  refine aw_lv (lv' := [(0, .ref a), (1, .int i0), (2, .int (0 : Int32)), (3, .int (1 : Int32))]) [2, 3, 1, 0] rfl ?_
  exact L4 FU_ (0 : Int32) (1 : Int32) H h0 hs hx4
def mX2_begin : mt_ := (yX2_begin, cX2_begin, 2, none, [], { frames := 3, locals := 91, cells := 0, slots := 0 })
theorem ckX2_begin : cokV_ mX2_begin := ⟨⟨(uw_mem 440 (by decide +kernel) (by decide +kernel)), (uw_mem 32 (by decide +kernel) (by decide +kernel)), by decide +kernel, by decide +kernel⟩, (uw_mem 438 (by decide +kernel) (by decide +kernel)), (uw_mem 439 (by decide +kernel) (by decide +kernel))⟩
theorem nkX2_begin : nok_ mX2_begin 1 := by decide +kernel
theorem fgX2_10 : fok_ RX2 10 2 0 := ⟨_, _, _, rfl, by decide, (uw_mem 397 (by decide +kernel) (by decide +kernel)), wkX2⟩
theorem eo_G_0 : eo_ ly_G 0 2 fsX2 := rfl
theorem lkX2_23 : Cond.methodLink RX2 23 yX1_begin ∈ uw_ := (uw_mem 441 (by decide +kernel) (by decide +kernel))
theorem su_G_1_D : sub_ ly_G 1 ly_D := sub_of rfl
theorem eo_G_1 : eo_ ly_G 1 1 fsX1 := rfl
theorem fgX2_19 : fok_ RX2 19 2 1 := ⟨_, _, _, rfl, by decide, (uw_mem 399 (by decide +kernel) (by decide +kernel)), wkX2⟩
theorem fgX2_27 : fok_ RX2 27 5 4 := ⟨_, _, _, rfl, by decide, (uw_mem 88 (by decide +kernel) (by decide +kernel)), wkX5⟩
theorem lkX2_33 : Cond.methodLink RX2 33 yX4_begin ∈ uw_ := (uw_mem 461 (by decide +kernel) (by decide +kernel))
theorem su_G_34_R : sub_ ly_G 34 ly_R := sub_of rfl
theorem eo_G_34 : eo_ ly_G 34 4 fsX4 := rfl
theorem kX2_begin {E : ev_} {H : Heap} {a b : Nat} {s : st_} {t : st_} {r : st_} (hm : fX2_begin s t = some r) (h0 : has_ E H a ly_G s) (h1 : has_ E H b ly_S t) (hf : ev_fr E a) (d1 : a + 75 ≤ b ∨ b + 4 ≤ a) : sp_ E mX2_begin [.ref a, .ref b] H (po1 (.inl (none)) (fun Hn => sm_ H Hn a 75 ∧ has_ E Hn a ly_G r)) := by
  refine sp_of (by decide +kernel) rfl rfl ?_
  generalize hQ : po1 _ _ = Q
  have hs : sm_ H H a 75 := sm_.rfl'
  unfold fX2_begin at hm
  refine aw_lv (lv' := [(0, .ref a), (1, .ref b)]) [0, 1] rfl ?_
  refine aw_b (pc' := 1) (lv' := [(0, .ref a), (1, .ref b)]) (st' := [.ref a]) [(0, .aload_n 0, 1, .null)] (by decide +kernel) rfl ?_
  refine aw_gl (v := .ref (a + 1)) a 0 h0 eo_G_0 fgX2_10 rfl (by decide +kernel) ?_
  refine aw_b (pc' := 5) (lv' := [(0, .ref a), (1, .ref b)]) (st' := [.ref b, .ref (a + 1)]) [(4, .aload_n 1, 1, .null)] (by decide +kernel) rfl ?_
  obtain ⟨r1, e2, hm⟩ := bn_x hm
  refine aw_cv (rest := []) (st1 := []) a 1 (kX1_begin e2 (h0.sub su_G_1_D) h1 (Nat.le_trans hf (Nat.le_add_right _ _)) (by omega)) rfl rfl ckX1_begin lkX2_23 h0 eo_G_1 ⟨_, _, rfl⟩ nkX1_begin rfl rfl rfl (Nat.le_of_ble_eq_true rfl) (Nat.zero_le _) (Nat.zero_le _) (by decide +kernel) (fun H3 z4 => ?_)
  obtain ⟨z4, hn⟩ := z4
  obtain ⟨s5, e6, hm⟩ := bd_x hm
  have h0 := h0.mg su_G_1_D hn z4 rfl e6
  have h1 := h1.kept (n := 4) z4 rfl (by omega)
  have hs := hs.step z4 (by omega) (by omega)
  refine aw_b (pc' := 9) (lv' := [(0, .ref a), (1, .ref b)]) (st' := [.ref a]) [(8, .aload_n 0, 1, .null)] (by decide +kernel) rfl ?_
  refine aw_gl (v := .ref (a + 34)) a 0 h0 eo_G_0 fgX2_19 rfl (by decide +kernel) ?_
  refine aw_b (pc' := 13) (lv' := [(0, .ref a), (1, .ref b)]) (st' := [.ref b, .ref (a + 34)]) [(12, .aload_n 1, 1, .null)] (by decide +kernel) rfl ?_
  refine aw_gl (v := .int (t 0 4)) b 0 h1 eo_S_0 fgX2_27 rfl (by decide +kernel) ?_
  obtain ⟨r7, e8, hm⟩ := bn_x hm
  refine aw_cv (rest := []) (st1 := []) a 34 (kX4_begin e8 (h0.sub su_G_34_R) (Nat.le_trans hf (Nat.le_add_right _ _))) rfl rfl ckX4_begin lkX2_33 h0 eo_G_34 ⟨_, _, rfl⟩ nkX4_begin rfl rfl rfl (Nat.le_of_ble_eq_true rfl) (Nat.zero_le _) (Nat.zero_le _) (by decide +kernel) (fun H9 z10 => ?_)
  obtain ⟨z10, hn⟩ := z10
  obtain ⟨s11, e12, hm⟩ := bd_x hm
  have h0 := h0.mg su_G_34_R hn z10 rfl e12
  have h1 := h1.kept (n := 4) z10 rfl (by omega)
  have hs := hs.step z10 (by omega) (by omega)
  obtain rfl := Option.some.inj hm
  subst hQ
  exact aw_vret rfl (Nat.zero_le _) (Nat.zero_le _) (by decide +kernel) ⟨rfl, hs, h0⟩
def mX2_copyFrom : mt_ := (yX2_copyFrom, cX2_copyFrom, 2, none, [], { frames := 3, locals := 91, cells := 0, slots := 0 })
theorem ckX2_copyFrom : cokV_ mX2_copyFrom := ⟨⟨(uw_mem 1463 (by decide +kernel) (by decide +kernel)), (uw_mem 32 (by decide +kernel) (by decide +kernel)), by decide +kernel, by decide +kernel⟩, (uw_mem 1461 (by decide +kernel) (by decide +kernel)), (uw_mem 1462 (by decide +kernel) (by decide +kernel))⟩
theorem nkX2_copyFrom : nok_ mX2_copyFrom 1 := by decide +kernel
theorem lkX2_36 : Cond.methodLink RX2 36 yX1_copyFrom ∈ uw_ := (uw_mem 1464 (by decide +kernel) (by decide +kernel))
theorem lkX2_40 : Cond.methodLink RX2 40 yX4_copyFrom ∈ uw_ := (uw_mem 1465 (by decide +kernel) (by decide +kernel))
theorem kX2_copyFrom {E : ev_} {H : Heap} {a b : Nat} {s : st_} {t : st_} {r : st_} (hm : fX2_copyFrom s t = some r) (h0 : has_ E H a ly_G s) (h1 : has_ E H b ly_G t) (hf : ev_fr E a) (d1 : a + 75 ≤ b ∨ b + 75 ≤ a) : sp_ E mX2_copyFrom [.ref a, .ref b] H (po1 (.inl (none)) (fun Hn => sm_ H Hn a 75 ∧ has_ E Hn a ly_G r)) := by
  refine sp_of (by decide +kernel) rfl rfl ?_
  generalize hQ : po1 _ _ = Q
  have hs : sm_ H H a 75 := sm_.rfl'
  unfold fX2_copyFrom at hm
  refine aw_lv (lv' := [(0, .ref a), (1, .ref b)]) [0, 1] rfl ?_
  refine aw_b (pc' := 1) (lv' := [(0, .ref a), (1, .ref b)]) (st' := [.ref a]) [(0, .aload_n 0, 1, .null)] (by decide +kernel) rfl ?_
  refine aw_gl (v := .ref (a + 1)) a 0 h0 eo_G_0 fgX2_10 rfl (by decide +kernel) ?_
  refine aw_b (pc' := 5) (lv' := [(0, .ref a), (1, .ref b)]) (st' := [.ref b, .ref (a + 1)]) [(4, .aload_n 1, 1, .null)] (by decide +kernel) rfl ?_
  refine aw_gl (v := .ref (b + 1)) b 0 h1 eo_G_0 fgX2_10 rfl (by decide +kernel) ?_
  obtain ⟨r1, e2, hm⟩ := bn_x hm
  refine aw_cv (rest := []) (st1 := []) a 1 (kX1_copyFrom e2 (h0.sub su_G_1_D) (h1.sub su_G_1_D) (Nat.le_trans hf (Nat.le_add_right _ _)) (by omega)) rfl rfl ckX1_copyFrom lkX2_36 h0 eo_G_1 ⟨_, _, rfl⟩ nkX1_copyFrom rfl rfl rfl (Nat.le_of_ble_eq_true rfl) (Nat.zero_le _) (Nat.zero_le _) (by decide +kernel) (fun H3 z4 => ?_)
  obtain ⟨z4, hn⟩ := z4
  obtain ⟨s5, e6, hm⟩ := bd_x hm
  have h0 := h0.mg su_G_1_D hn z4 rfl e6
  have h1 := h1.kept (n := 75) z4 rfl (by omega)
  have hs := hs.step z4 (by omega) (by omega)
  refine aw_b (pc' := 12) (lv' := [(0, .ref a), (1, .ref b)]) (st' := [.ref a]) [(11, .aload_n 0, 1, .null)] (by decide +kernel) rfl ?_
  refine aw_gl (v := .ref (a + 34)) a 0 h0 eo_G_0 fgX2_19 rfl (by decide +kernel) ?_
  refine aw_b (pc' := 16) (lv' := [(0, .ref a), (1, .ref b)]) (st' := [.ref b, .ref (a + 34)]) [(15, .aload_n 1, 1, .null)] (by decide +kernel) rfl ?_
  refine aw_gl (v := .ref (b + 34)) b 0 h1 eo_G_0 fgX2_19 rfl (by decide +kernel) ?_
  obtain ⟨r7, e8, hm⟩ := bn_x hm
  refine aw_cv (rest := []) (st1 := []) a 34 (kX4_copyFrom e8 (h0.sub su_G_34_R) (h1.sub su_G_34_R) (Nat.le_trans hf (Nat.le_add_right _ _)) (by omega)) rfl rfl ckX4_copyFrom lkX2_40 h0 eo_G_34 ⟨_, _, rfl⟩ nkX4_copyFrom rfl rfl rfl (Nat.le_of_ble_eq_true rfl) (Nat.zero_le _) (Nat.zero_le _) (by decide +kernel) (fun H9 z10 => ?_)
  obtain ⟨z10, hn⟩ := z10
  obtain ⟨s11, e12, hm⟩ := bd_x hm
  have h0 := h0.mg su_G_34_R hn z10 rfl e12
  have h1 := h1.kept (n := 75) z10 rfl (by omega)
  have hs := hs.step z10 (by omega) (by omega)
  obtain rfl := Option.some.inj hm
  subst hQ
  exact aw_vret rfl (Nat.zero_le _) (Nat.zero_le _) (by decide +kernel) ⟨rfl, hs, h0⟩
def mX2_makeRound : mt_ := (yX2_makeRound, cX2_makeRound, 1, none, [], { frames := 5, locals := 125, cells := 0, slots := 0 })
theorem ckX2_makeRound : cokV_ mX2_makeRound := ⟨⟨(uw_mem 1060 (by decide +kernel) (by decide +kernel)), (uw_mem 32 (by decide +kernel) (by decide +kernel)), by decide +kernel, by decide +kernel⟩, (uw_mem 1058 (by decide +kernel) (by decide +kernel)), (uw_mem 1059 (by decide +kernel) (by decide +kernel))⟩
theorem nkX2_makeRound : nok_ mX2_makeRound 0 := by decide +kernel
theorem lkX2_43 : Cond.methodLink RX2 43 yX1_moveFoe ∈ uw_ := (uw_mem 1061 (by decide +kernel) (by decide +kernel))
theorem lkX2_46 : Cond.methodLink RX2 46 yX1_takeRules ∈ uw_ := (uw_mem 1138 (by decide +kernel) (by decide +kernel))
theorem lkX2_49 : Cond.methodLink RX2 49 yX4_noteSwaps ∈ uw_ := (uw_mem 1142 (by decide +kernel) (by decide +kernel))
theorem lkX2_52 : Cond.methodLink RX2 52 yX1_serveAll ∈ uw_ := (uw_mem 1151 (by decide +kernel) (by decide +kernel))
theorem lkX2_55 : Cond.methodLink RX2 55 yX4_noteRound ∈ uw_ := (uw_mem 1175 (by decide +kernel) (by decide +kernel))
theorem kX2_makeRound {E : ev_} {H : Heap} {a : Nat} {s : st_} {r : st_} (hm : fX2_makeRound s = some r) (h0 : has_ E H a ly_G s) (hf : ev_fr E a) : sp_ E mX2_makeRound [.ref a] H (po1 (.inl (none)) (fun Hn => sm_ H Hn a 75 ∧ has_ E Hn a ly_G r)) := by
  refine sp_of (by decide +kernel) rfl rfl ?_
  generalize hQ : po1 _ _ = Q
  have hs : sm_ H H a 75 := sm_.rfl'
  unfold fX2_makeRound at hm
  refine aw_lv (lv' := [(0, .ref a)]) [0] rfl ?_
  refine aw_b (pc' := 1) (lv' := [(0, .ref a)]) (st' := [.ref a]) [(0, .aload_n 0, 1, .null)] (by decide +kernel) rfl ?_
  refine aw_gl (v := .ref (a + 1)) a 0 h0 eo_G_0 fgX2_10 rfl (by decide +kernel) ?_
  obtain ⟨r1, e2, hm⟩ := bn_x hm
  refine aw_cv (rest := []) (st1 := []) a 1 (kX1_moveFoe e2 (h0.sub su_G_1_D) (Nat.le_trans hf (Nat.le_add_right _ _))) rfl rfl ckX1_moveFoe lkX2_43 h0 eo_G_1 ⟨_, _, rfl⟩ nkX1_moveFoe rfl rfl rfl (Nat.le_of_ble_eq_true rfl) (Nat.zero_le _) (Nat.zero_le _) (by decide +kernel) (fun H3 z4 => ?_)
  obtain ⟨z4, hn⟩ := z4
  obtain ⟨s5, e6, hm⟩ := bd_x hm
  have h0 := h0.mg su_G_1_D hn z4 rfl e6
  have hs := hs.step z4 (by omega) (by omega)
  refine aw_b (pc' := 8) (lv' := [(0, .ref a)]) (st' := [.ref a]) [(7, .aload_n 0, 1, .null)] (by decide +kernel) rfl ?_
  refine aw_gl (v := .ref (a + 1)) a 0 h0 eo_G_0 fgX2_10 rfl (by decide +kernel) ?_
  obtain ⟨r7, e8, hm⟩ := bn_x hm
  refine aw_cv (rest := []) (st1 := []) a 1 (kX1_takeRules e8 (h0.sub su_G_1_D) (Nat.le_trans hf (Nat.le_add_right _ _))) rfl rfl ckX1_takeRules lkX2_46 h0 eo_G_1 ⟨_, _, rfl⟩ nkX1_takeRules rfl rfl rfl (Nat.le_of_ble_eq_true rfl) (Nat.zero_le _) (Nat.zero_le _) (by decide +kernel) (fun H9 z10 => ?_)
  obtain ⟨z10, hn⟩ := z10
  obtain ⟨s11, e12, hm⟩ := bd_x hm
  have h0 := h0.mg su_G_1_D hn z10 rfl e12
  have hs := hs.step z10 (by omega) (by omega)
  refine aw_b (pc' := 15) (lv' := [(0, .ref a)]) (st' := [.ref a]) [(14, .aload_n 0, 1, .null)] (by decide +kernel) rfl ?_
  refine aw_gl (v := .ref (a + 34)) a 0 h0 eo_G_0 fgX2_19 rfl (by decide +kernel) ?_
  refine aw_b (pc' := 19) (lv' := [(0, .ref a)]) (st' := [.ref a, .ref (a + 34)]) [(18, .aload_n 0, 1, .null)] (by decide +kernel) rfl ?_
  refine aw_gl (v := .ref (a + 1)) a 0 h0 eo_G_0 fgX2_10 rfl (by decide +kernel) ?_
  obtain ⟨r13, e14, hm⟩ := bn_x hm
  refine aw_cv (rest := []) (st1 := []) a 34 (kX4_noteSwaps e14 (h0.sub su_G_34_R) (h0.sub su_G_1_D) (Nat.le_trans hf (Nat.le_add_right _ _)) (by omega)) rfl rfl ckX4_noteSwaps lkX2_49 h0 eo_G_34 ⟨_, _, rfl⟩ nkX4_noteSwaps rfl rfl rfl (Nat.le_of_ble_eq_true rfl) (Nat.zero_le _) (Nat.zero_le _) (by decide +kernel) (fun H15 z16 => ?_)
  obtain ⟨z16, hn⟩ := z16
  obtain ⟨s17, e18, hm⟩ := bd_x hm
  have h0 := h0.mg su_G_34_R hn z16 rfl e18
  have hs := hs.step z16 (by omega) (by omega)
  refine aw_b (pc' := 26) (lv' := [(0, .ref a)]) (st' := [.ref a]) [(25, .aload_n 0, 1, .null)] (by decide +kernel) rfl ?_
  refine aw_gl (v := .ref (a + 1)) a 0 h0 eo_G_0 fgX2_10 rfl (by decide +kernel) ?_
  obtain ⟨r19, e20, hm⟩ := bn_x hm
  refine aw_cv (rest := []) (st1 := []) a 1 (kX1_serveAll e20 (h0.sub su_G_1_D) (Nat.le_trans hf (Nat.le_add_right _ _))) rfl rfl ckX1_serveAll lkX2_52 h0 eo_G_1 ⟨_, _, rfl⟩ nkX1_serveAll rfl rfl rfl (Nat.le_of_ble_eq_true rfl) (Nat.zero_le _) (Nat.zero_le _) (by decide +kernel) (fun H21 z22 => ?_)
  obtain ⟨z22, hn⟩ := z22
  obtain ⟨s23, e24, hm⟩ := bd_x hm
  have h0 := h0.mg su_G_1_D hn z22 rfl e24
  have hs := hs.step z22 (by omega) (by omega)
  refine aw_b (pc' := 33) (lv' := [(0, .ref a)]) (st' := [.ref a]) [(32, .aload_n 0, 1, .null)] (by decide +kernel) rfl ?_
  refine aw_gl (v := .ref (a + 34)) a 0 h0 eo_G_0 fgX2_19 rfl (by decide +kernel) ?_
  refine aw_b (pc' := 37) (lv' := [(0, .ref a)]) (st' := [.ref a, .ref (a + 34)]) [(36, .aload_n 0, 1, .null)] (by decide +kernel) rfl ?_
  refine aw_gl (v := .ref (a + 1)) a 0 h0 eo_G_0 fgX2_10 rfl (by decide +kernel) ?_
  obtain ⟨r25, e26, hm⟩ := bn_x hm
  refine aw_cv (rest := []) (st1 := []) a 34 (kX4_noteRound e26 (h0.sub su_G_34_R) (h0.sub su_G_1_D) (Nat.le_trans hf (Nat.le_add_right _ _)) (by omega)) rfl rfl ckX4_noteRound lkX2_55 h0 eo_G_34 ⟨_, _, rfl⟩ nkX4_noteRound rfl rfl rfl (Nat.le_of_ble_eq_true rfl) (Nat.zero_le _) (Nat.zero_le _) (by decide +kernel) (fun H27 z28 => ?_)
  obtain ⟨z28, hn⟩ := z28
  obtain ⟨s29, e30, hm⟩ := bd_x hm
  have h0 := h0.mg su_G_34_R hn z28 rfl e30
  have hs := hs.step z28 (by omega) (by omega)
  obtain rfl := Option.some.inj hm
  subst hQ
  exact aw_vret rfl (Nat.zero_le _) (Nat.zero_le _) (by decide +kernel) ⟨rfl, hs, h0⟩
def mX6_costOver : mt_ := (yX6_costOver, cX6_costOver, 5, some .int, [], { frames := 1, locals := 22, cells := 0, slots := 0 })
theorem ckX6_costOver : cokV_ mX6_costOver := ⟨⟨(uw_mem 1450 (by decide +kernel) (by decide +kernel)), (uw_mem 36 (by decide +kernel) (by decide +kernel)), by decide +kernel, by decide +kernel⟩, (uw_mem 1449 (by decide +kernel) (by decide +kernel)), (uw_mem 27 (by decide +kernel) (by decide +kernel))⟩
theorem nkX6_costOver : nok_ mX6_costOver 4 := by decide +kernel
theorem fgX6_11 : fok_ RX6 11 6 1 := ⟨_, _, _, rfl, by decide, (uw_mem 415 (by decide +kernel) (by decide +kernel)), wkX6⟩
theorem eo_T_0 : eo_ ly_T 0 6 fsX6 := rfl
theorem lkX6_50 : Cond.methodLink RX6 50 yX5_priceOf ∈ uw_ := (uw_mem 1451 (by decide +kernel) (by decide +kernel))
theorem fgX6_15 : fok_ RX6 15 6 2 := ⟨_, _, _, rfl, by decide, (uw_mem 416 (by decide +kernel) (by decide +kernel)), wkX6⟩
theorem kX6_costOver {E : ev_} {H : Heap} {a b : Nat} {s : st_} {t : st_} {i0 : Int32} {i1 : Int32} {i2 : Int32} {r : Int32} (hm : fX6_costOver s t i0 i1 i2 = some r) (h0 : has_ E H a ly_T s) (h1 : has_ E H b ly_S t) : sp_ E mX6_costOver [.ref a, .ref b, .int i0, .int i1, .int i2] H (po1 (.inl (some (.int r))) (fun Hn => sm_ H Hn 0 0)) := by
  refine sp_of (by decide +kernel) rfl rfl ?_
  generalize hQ : po1 _ _ = Q
  have hs : sm_ H H 0 0 := sm_.rfl'
  unfold fX6_costOver at hm
  refine aw_lv (lv' := [(0, .ref a), (1, .ref b), (2, .int i0), (3, .int i1), (4, .int i2)]) [0, 1, 2, 3, 4] rfl ?_
  refine aw_b (pc' := 2) (lv' := [(0, .ref a), (1, .ref b), (2, .int i0), (3, .int i1), (4, .int i2)]) (st' := [.ref a, .ref b]) [(0, .aload_n 1, 1, .null), (1, .aload_n 0, 1, .null)] (by decide +kernel) rfl ?_
  refine aw_gl (v := .ref (a + 1)) a 0 h0 eo_T_0 fgX6_11 rfl (by decide +kernel) ?_
  refine aw_b (pc' := 6) (lv' := [(0, .ref a), (1, .ref b), (2, .int i0), (3, .int i1), (4, .int i2)]) (st' := [.int i1, .ref (a + 1), .ref b]) [(5, .iload_n 3, 1, .null)] (by decide +kernel) rfl ?_
  obtain ⟨g1, hm⟩ := gd_x hm
  refine aw_ial a 1 h0 rfl g1 (by decide +kernel) ?_
  refine aw_b (pc' := 8) (lv' := [(0, .ref a), (1, .ref b), (2, .int i0), (3, .int i1), (4, .int i2)]) (st' := [.ref a, .int (s 1 (ix_ i1)), .ref b]) [(7, .aload_n 0, 1, .null)] (by decide +kernel) rfl ?_
  refine aw_gl (v := .ref (a + 1)) a 0 h0 eo_T_0 fgX6_11 rfl (by decide +kernel) ?_
  refine aw_b (pc' := 13) (lv' := [(0, .ref a), (1, .ref b), (2, .int i0), (3, .int i1), (4, .int i2)]) (st' := [.int i2, .ref (a + 1), .int (s 1 (ix_ i1)), .ref b]) [(11, .iload 4, 2, .null)] (by decide +kernel) rfl ?_
  obtain ⟨g2, hm⟩ := gd_x hm
  refine aw_ial a 1 h0 rfl g2 (by decide +kernel) ?_
  obtain ⟨r3, e4, hm⟩ := bn_x hm
  refine aw_cv (rest := []) (st1 := [.int r3]) b 0 (kX5_priceOf e4 h1) rfl rfl ckX5_priceOf lkX6_50 h1 eo_S_0 ⟨_, _, rfl⟩ nkX5_priceOf rfl rfl rfl (Nat.le_of_ble_eq_true rfl) (Nat.zero_le _) (Nat.zero_le _) (by decide +kernel) (fun H5 z6 => ?_)
  have h0 := h0.kept0 z6
  have h1 := h1.kept0 z6
  have hs := hs.step0 z6
  refine aw_b (pc' := 18) (lv' := [(0, .ref a), (1, .ref b), (2, .int i0), (3, .int i1), (4, .int i2)]) (st' := [.ref a, .int r3]) [(17, .aload_n 0, 1, .null)] (by decide +kernel) rfl ?_
  refine aw_gl (v := .ref (a + 2)) a 0 h0 eo_T_0 fgX6_15 rfl (by decide +kernel) ?_
  refine aw_b (pc' := 33) (lv' := [(0, .ref a), (1, .ref b), (2, .int i0), (3, .int i1), (4, .int i2)]) (st' := [.int (((i0 ||| ((1 : Int32) <<< (i2 &&& 31))) * (9 : Int32)) + i2), .ref (a + 2), .int r3]) [(21, .iload_n 2, 1, .null), (22, .iconst 1, 1, .int (1 : Int32)), (23, .iload 4, 2, .null), (25, .ishl, 1, .null), (26, .ior, 1, .null), (27, .bipush 9, 2, .int (9 : Int32)), (29, .imul, 1, .null), (30, .iload 4, 2, .null), (32, .iadd, 1, .null)] (by decide +kernel) rfl ?_
  obtain ⟨g7, hm⟩ := gd_x hm
  refine aw_ial a 2 h0 rfl g7 (by decide +kernel) ?_
  refine aw_b (pc' := 35) (lv' := [(0, .ref a), (1, .ref b), (2, .int i0), (3, .int i1), (4, .int i2)]) (st' := [.int (r3 + (s 2 (ix_ (((i0 ||| ((1 : Int32) <<< (i2 &&& 31))) * (9 : Int32)) + i2))))]) [(34, .iadd, 1, .null)] (by decide +kernel) rfl ?_
  obtain rfl := Option.some.inj hm
  subst hQ
  exact aw_iret rfl (Nat.zero_le _) (Nat.zero_le _) (by decide +kernel) ⟨rfl, hs⟩
def mX6_nextOf : mt_ := (yX6_nextOf, cX6_nextOf, 8, some .int, [], { frames := 2, locals := 46, cells := 0, slots := 0 })
theorem ckX6_nextOf : cokV_ mX6_nextOf := ⟨⟨(uw_mem 1446 (by decide +kernel) (by decide +kernel)), (uw_mem 36 (by decide +kernel) (by decide +kernel)), by decide +kernel, by decide +kernel⟩, (uw_mem 1445 (by decide +kernel) (by decide +kernel)), (uw_mem 26 (by decide +kernel) (by decide +kernel))⟩
theorem nkX6_nextOf : nok_ mX6_nextOf 3 := by decide +kernel
theorem fgX6_33 : fok_ RX6 33 6 0 := ⟨_, _, _, rfl, by decide, (uw_mem 414 (by decide +kernel) (by decide +kernel)), wkX6⟩
theorem lkX6_46 : Cond.methodLink RX6 46 yX6_costOver ∈ uw_ := (uw_mem 1447 (by decide +kernel) (by decide +kernel))
theorem kX6_nextOf {E : ev_} {H : Heap} {a b : Nat} {s : st_} {t : st_} {i0 : Int32} {i1 : Int32} {r : Int32} (hm : fX6_nextOf s t i0 i1 = some r) (h0 : has_ E H a ly_T s) (h1 : has_ E H b ly_S t) : sp_ E mX6_nextOf [.ref a, .ref b, .int i0, .int i1] H (po1 (.inl (some (.int r))) (fun Hn => sm_ H Hn 0 0)) := by
  refine sp_of (by decide +kernel) rfl rfl ?_
  generalize hQ : po1 _ _ = Q
  have hs : sm_ H H 0 0 := sm_.rfl'
  unfold fX6_nextOf at hm
  refine aw_lv (lv' := [(0, .ref a), (1, .ref b), (2, .int i0), (3, .int i1)]) [0, 1, 2, 3] rfl ?_
  refine aw_b (pc' := 9) (lv' := [(6, .int (0 : Int32)), (5, .int (0 : Int32)), (4, .int (-1 : Int32)), (0, .ref a), (1, .ref b), (2, .int i0), (3, .int i1)]) (st' := []) [(0, .iconst (-1), 1, .int (-1 : Int32)), (1, .istore 4, 2, .null), (3, .iconst 0, 1, .int (0 : Int32)), (4, .istore 5, 2, .null), (6, .iconst 0, 1, .int (0 : Int32)), (7, .istore 6, 2, .null)] (by decide +kernel) rfl ?_
  obtain ⟨x9, hx9, hr9⟩ := bn_x hm
  have X9_65 : ∀ (v4_x9_65 : Int32) (H_x9_65 : Heap), has_ E H_x9_65 a ly_T s → has_ E H_x9_65 b ly_S t → sm_ H H_x9_65 0 0 → fX6_nextOf_x9_65 v4_x9_65 = some r → aw E mX6_nextOf Q 65 [(4, .int v4_x9_65)] [] H_x9_65 0 0 := by
    intro v4_x9_65 H_x9_65 h0 h1 hs hm
    unfold fX6_nextOf_x9_65 at hm
    refine aw_b (pc' := 67) (lv' := [(4, .int v4_x9_65)]) (st' := [.int v4_x9_65]) [(65, .iload 4, 2, .null)] (by decide +kernel) rfl ?_
    obtain rfl := Option.some.inj hm
    subst hQ
    exact aw_iret rfl (Nat.zero_le _) (Nat.zero_le _) (by decide +kernel) ⟨rfl, hs⟩
  have L9 : ∀ (fu : Nat) (v4_b9 : Int32) (v5_b9 : Int32) (v6_b9 : Int32) (H_b9 : Heap), has_ E H_b9 a ly_T s → has_ E H_b9 b ly_S t → sm_ H H_b9 0 0 → fX6_nextOf_l9 s t i0 i1 fu (v4_b9, v5_b9, v6_b9) = some x9 → aw E mX6_nextOf Q 9 [(0, .ref a), (1, .ref b), (2, .int i0), (3, .int i1), (4, .int v4_b9), (5, .int v5_b9), (6, .int v6_b9)] [] H_b9 0 0 := by
    intro fu
    induction fu with
    | zero =>
      intro v4_b9 v5_b9 v6_b9 H_b9 h0 h1 hs hm
      exact (it_0 hm).elim
    | succ fu ih9 =>
      intro v4_b9 v5_b9 v6_b9 H_b9 h0 h1 hs hm
      obtain ⟨y9, hm, hk9⟩ := it_s hm
      have hm : fX6_nextOf_b9 s t i0 i1 v4_b9 v5_b9 v6_b9 = some y9 := hm
      unfold fX6_nextOf_b9 at hm
      refine aw_b (pc' := 12) (lv' := [(0, .ref a), (1, .ref b), (2, .int i0), (3, .int i1), (4, .int v4_b9), (5, .int v5_b9), (6, .int v6_b9)]) (st' := [.ref a, .int v6_b9]) [(9, .iload 6, 2, .null), (11, .aload_n 0, 1, .null)] (by decide +kernel) rfl ?_
      refine aw_gl (v := .int (s 0 0)) a 0 h0 eo_T_0 fgX6_33 rfl (by decide +kernel) ?_
      refine aw_ic_ge (off := 50) 65 (by decide) (by decide +kernel) (fun hc => ?_) (fun hc => ?_)
      · have hm := (if_pos hc).symm.trans hm
        cases hm
        refine aw_lv (lv' := [(4, .int v4_b9)]) [4] rfl ?_
        exact X9_65 v4_b9 H_b9 h0 h1 hs ((congrArg fX6_nextOf_k9 (show (v4_b9) = x9 from hk9)).trans hr9)
      · have hm := (if_neg hc).symm.trans hm
        refine aw_b (pc' := 24) (lv' := [(0, .ref a), (1, .ref b), (2, .int i0), (3, .int i1), (4, .int v4_b9), (5, .int v5_b9), (6, .int v6_b9)]) (st' := [.int (i0 &&& ((1 : Int32) <<< (v6_b9 &&& 31)))]) [(18, .iload_n 2, 1, .null), (19, .iconst 1, 1, .int (1 : Int32)), (20, .iload 6, 2, .null), (22, .ishl, 1, .null), (23, .iand, 1, .null)] (by decide +kernel) rfl ?_
        have J59 : ∀ (v4_j59 : Int32) (v5_j59 : Int32) (H_j59 : Heap), has_ E H_j59 a ly_T s → has_ E H_j59 b ly_S t → sm_ H H_j59 0 0 → fX6_nextOf_j59 v6_b9 v4_j59 v5_j59 = some y9 → aw E mX6_nextOf Q 59 [(0, .ref a), (1, .ref b), (2, .int i0), (3, .int i1), (4, .int v4_j59), (5, .int v5_j59), (6, .int v6_b9)] [] H_j59 0 0 := by
          intro v4_j59 v5_j59 H_j59 h0 h1 hs hm
          unfold fX6_nextOf_j59 at hm
          refine aw_b (pc' := 9) (lv' := [(6, .int (v6_b9 + (1 : Int32))), (0, .ref a), (1, .ref b), (2, .int i0), (3, .int i1), (4, .int v4_j59), (5, .int v5_j59)]) (st' := []) [(59, .iinc 6 1, 3, .int (1 : Int32)), (62, .goto (-53), 3, .null)] (by decide +kernel) rfl ?_
          cases hm
          refine aw_lv (lv' := [(0, .ref a), (1, .ref b), (2, .int i0), (3, .int i1), (4, .int v4_j59), (5, .int v5_j59), (6, .int (v6_b9 + (1 : Int32)))]) [1, 2, 3, 4, 5, 6, 0] rfl ?_
          exact ih9 v4_j59 v5_j59 (v6_b9 + (1 : Int32)) H_j59 h0 h1 hs hk9
        refine aw_if_ne (off := 35) 59 (by decide) (by decide +kernel) (fun hc => ?_) (fun hc => ?_)
        · have hm := (if_neg hc).symm.trans hm
          exact J59 v4_b9 v5_b9 H_b9 h0 h1 hs hm
        · have hm := (if_pos hc).symm.trans hm
          refine aw_b (pc' := 33) (lv' := [(0, .ref a), (1, .ref b), (2, .int i0), (3, .int i1), (4, .int v4_b9), (5, .int v5_b9), (6, .int v6_b9)]) (st' := [.int v6_b9, .int i1, .int i0, .ref b, .ref a]) [(27, .aload_n 0, 1, .null), (28, .aload_n 1, 1, .null), (29, .iload_n 2, 1, .null), (30, .iload_n 3, 1, .null), (31, .iload 6, 2, .null)] (by decide +kernel) rfl ?_
          obtain ⟨r1, e2, hm⟩ := bn_x hm
          refine aw_cv (rest := []) (st1 := [.int r1]) a 0 (kX6_costOver e2 h0 h1) rfl rfl ckX6_costOver lkX6_46 h0 eo_T_0 ⟨_, _, rfl⟩ nkX6_costOver rfl rfl rfl (Nat.le_of_ble_eq_true rfl) (Nat.zero_le _) (Nat.zero_le _) (by decide +kernel) (fun H3 z4 => ?_)
          have h0 := h0.kept0 z4
          have h1 := h1.kept0 z4
          have hs := hs.step0 z4
          refine aw_b (pc' := 41) (lv' := [(7, .int r1), (0, .ref a), (1, .ref b), (2, .int i0), (3, .int i1), (4, .int v4_b9), (5, .int v5_b9), (6, .int v6_b9)]) (st' := [.int (-1 : Int32), .int v4_b9]) [(36, .istore 7, 2, .null), (38, .iload 4, 2, .null), (40, .iconst (-1), 1, .int (-1 : Int32))] (by decide +kernel) rfl ?_
          have J51 : ∀ (H_j51 : Heap), has_ E H_j51 a ly_T s → has_ E H_j51 b ly_S t → sm_ H H_j51 0 0 → fX6_nextOf_j51 v6_b9 r1 = some y9 → aw E mX6_nextOf Q 51 [(0, .ref a), (1, .ref b), (2, .int i0), (3, .int i1), (6, .int v6_b9), (7, .int r1)] [] H_j51 0 0 := by
            intro H_j51 h0 h1 hs hm
            unfold fX6_nextOf_j51 at hm
            refine aw_b (pc' := 59) (lv' := [(5, .int r1), (4, .int v6_b9), (0, .ref a), (1, .ref b), (2, .int i0), (3, .int i1), (6, .int v6_b9), (7, .int r1)]) (st' := []) [(51, .iload 6, 2, .null), (53, .istore 4, 2, .null), (55, .iload 7, 2, .null), (57, .istore 5, 2, .null)] (by decide +kernel) rfl ?_
            refine aw_lv (lv' := [(0, .ref a), (1, .ref b), (2, .int i0), (3, .int i1), (4, .int v6_b9), (5, .int r1), (6, .int v6_b9)]) [2, 3, 4, 5, 1, 0, 6] rfl ?_
            exact J59 v6_b9 r1 H_j51 h0 h1 hs hm
          refine aw_ic_eq (off := 10) 51 (by decide) (by decide +kernel) (fun hc => ?_) (fun hc => ?_)
          · have hm := (if_pos hc).symm.trans hm
            refine aw_lv (lv' := [(0, .ref a), (1, .ref b), (2, .int i0), (3, .int i1), (6, .int v6_b9), (7, .int r1)]) [1, 2, 3, 4, 7, 0] rfl ?_
            exact J51 H3 h0 h1 hs hm
          · have hm := (if_neg hc).symm.trans hm
            refine aw_b (pc' := 48) (lv' := [(7, .int r1), (0, .ref a), (1, .ref b), (2, .int i0), (3, .int i1), (4, .int v4_b9), (5, .int v5_b9), (6, .int v6_b9)]) (st' := [.int v5_b9, .int r1]) [(44, .iload 7, 2, .null), (46, .iload 5, 2, .null)] (by decide +kernel) rfl ?_
            refine aw_ic_ge (off := 11) 59 (by decide) (by decide +kernel) (fun hc => ?_) (fun hc => ?_)
            · have hm := (if_pos hc).symm.trans hm
              refine aw_lv (lv' := [(0, .ref a), (1, .ref b), (2, .int i0), (3, .int i1), (4, .int v4_b9), (5, .int v5_b9), (6, .int v6_b9)]) [1, 2, 3, 4, 5, 6, 7] rfl ?_
              exact J59 v4_b9 v5_b9 H3 h0 h1 hs hm
            · have hm := (if_neg hc).symm.trans hm
              refine aw_lv (lv' := [(0, .ref a), (1, .ref b), (2, .int i0), (3, .int i1), (6, .int v6_b9), (7, .int r1)]) [1, 2, 3, 4, 7, 0] rfl ?_
              exact J51 H3 h0 h1 hs hm
  refine aw_lv (lv' := [(0, .ref a), (1, .ref b), (2, .int i0), (3, .int i1), (4, .int (-1 : Int32)), (5, .int (0 : Int32)), (6, .int (0 : Int32))]) [3, 4, 5, 6, 2, 1, 0] rfl ?_
  exact L9 FU_ (-1 : Int32) (0 : Int32) (0 : Int32) H h0 h1 hs hx9
def mX6_plan : mt_ := (yX6_plan, cX6_plan, 8, none, [], { frames := 3, locals := 73, cells := 0, slots := 0 })
theorem ckX6_plan : cokV_ mX6_plan := ⟨⟨(uw_mem 1440 (by decide +kernel) (by decide +kernel)), (uw_mem 36 (by decide +kernel) (by decide +kernel)), by decide +kernel, by decide +kernel⟩, (uw_mem 1438 (by decide +kernel) (by decide +kernel)), (uw_mem 1439 (by decide +kernel) (by decide +kernel))⟩
theorem nkX6_plan : nok_ mX6_plan 3 := by decide +kernel
theorem fgX6_18 : fok_ RX6 18 0 2 := ⟨_, _, _, rfl, by decide, (uw_mem 227 (by decide +kernel) (by decide +kernel)), wkX0⟩
theorem mtX6_24 : ml_ RX6 24 Lib.Math.min.name Lib.Math.min.code 2 .int := ⟨(uw_mem 1441 (by decide +kernel) (by decide +kernel)), (uw_mem 632 (by decide +kernel) (by decide +kernel)), (uw_mem 38 (by decide +kernel) (by decide +kernel)), (uw_mem 633 (by decide +kernel) (by decide +kernel))⟩
theorem mtX6_30 : ml_ RX6 30 Lib.Math.max.name Lib.Math.max.code 2 .int := ⟨(uw_mem 1442 (by decide +kernel) (by decide +kernel)), (uw_mem 768 (by decide +kernel) (by decide +kernel)), (uw_mem 38 (by decide +kernel) (by decide +kernel)), (uw_mem 769 (by decide +kernel) (by decide +kernel))⟩
theorem fpX6_33 : fpk_ RX6 33 6 0 .int := ⟨_, _, _, tyX6, rfl, by decide, (uw_mem 414 (by decide +kernel) (by decide +kernel)), wkX6, tyX6_ok, nmX6, rfl, by decide +kernel⟩
theorem fsq_6_0 : fsp_ fsX6 0 := ⟨fun _ _ => rfl, fun _ _ _ => rfl⟩
theorem fgX6_39 : fok_ RX6 39 0 0 := ⟨_, _, _, rfl, by decide, (uw_mem 222 (by decide +kernel) (by decide +kernel)), wkX0⟩
theorem lkX6_42 : Cond.methodLink RX6 42 yX6_nextOf ∈ uw_ := (uw_mem 1443 (by decide +kernel) (by decide +kernel))
theorem fgX6_36 : fok_ RX6 36 0 3 := ⟨_, _, _, rfl, by decide, (uw_mem 232 (by decide +kernel) (by decide +kernel)), wkX0⟩
theorem kX6_plan {E : ev_} {H : Heap} {a b c : Nat} {s : st_} {t : st_} {u : st_} {i0 : Int32} {r : st_} (hm : fX6_plan s t u i0 = some r) (h0 : has_ E H a ly_T s) (h1 : has_ E H b ly_S t) (h2 : has_ E H c ly_A u) (hf : ev_fr E a) (d1 : a + 3 ≤ b ∨ b + 4 ≤ a) (d2 : a + 3 ≤ c ∨ c + 3 ≤ a) : sp_ E mX6_plan [.ref a, .ref b, .ref c, .int i0] H (po1 (.inl (none)) (fun Hn => sm_ H Hn a 3 ∧ has_ E Hn a ly_T r)) := by
  refine sp_of (by decide +kernel) rfl rfl ?_
  generalize hQ : po1 _ _ = Q
  have hs : sm_ H H a 3 := sm_.rfl'
  unfold fX6_plan at hm
  refine aw_lv (lv' := [(0, .ref a), (1, .ref b), (2, .ref c), (3, .int i0)]) [0, 1, 2, 3] rfl ?_
  refine aw_b (pc' := 4) (lv' := [(0, .ref a), (1, .ref b), (2, .ref c), (3, .int i0)]) (st' := [.ref c, .int i0, .int (0 : Int32), .ref a]) [(0, .aload_n 0, 1, .null), (1, .iconst 0, 1, .int (0 : Int32)), (2, .iload_n 3, 1, .null), (3, .aload_n 2, 1, .null)] (by decide +kernel) rfl ?_
  refine aw_gl (v := .int (u 0 2)) c 0 h2 eo_A_0 fgX6_18 rfl (by decide +kernel) ?_
  refine aw_b (pc' := 9) (lv' := [(0, .ref a), (1, .ref b), (2, .ref c), (3, .int i0)]) (st' := [.int (8 : Int32), .int (u 0 2), .int i0, .int (0 : Int32), .ref a]) [(7, .bipush 8, 2, .int (8 : Int32))] (by decide +kernel) rfl ?_
  refine aw_mn (rest := [.int i0, .int (0 : Int32), .ref a]) mtX6_24 rfl (Nat.le_of_ble_eq_true rfl) (Nat.zero_le _) (Nat.zero_le _) (by decide +kernel) ?_
  refine aw_mn (rest := [.int (0 : Int32), .ref a]) mtX6_24 rfl (Nat.le_of_ble_eq_true rfl) (Nat.zero_le _) (Nat.zero_le _) (by decide +kernel) ?_
  refine aw_mx (rest := [.ref a]) mtX6_30 rfl (Nat.le_of_ble_eq_true rfl) (Nat.zero_le _) (Nat.zero_le _) (by decide +kernel) ?_
  obtain ⟨s1, e2, hm⟩ := bd_x hm
  refine aw_pl a 0 h0 eo_T_0 fsq_6_0 fpX6_33 hf rfl rfl e2 (by decide +kernel) (fun H3 h0 z4 => ?_)
  have h1 := h1.kept (n := 4) z4 rfl (by omega)
  have h2 := h2.kept (n := 3) z4 rfl (by omega)
  have hs := hs.step z4 (by omega) (by omega)
  refine aw_b (pc' := 24) (lv' := [(4, .int (0 : Int32)), (0, .ref a), (1, .ref b), (2, .ref c), (3, .int i0)]) (st' := []) [(21, .iconst 0, 1, .int (0 : Int32)), (22, .istore 4, 2, .null)] (by decide +kernel) rfl ?_
  obtain ⟨x24, hx24, hr24⟩ := bn_x hm
  have X24_53 : ∀ (s_x24_53 : st_) (H_x24_53 : Heap), has_ E H_x24_53 a ly_T s_x24_53 → has_ E H_x24_53 b ly_S t → has_ E H_x24_53 c ly_A u → sm_ H H_x24_53 a 3 → fX6_plan_x24_53 t u s_x24_53 = some r → aw E mX6_plan Q 53 [(0, .ref a), (1, .ref b), (2, .ref c)] [] H_x24_53 0 0 := by
    intro s_x24_53 H_x24_53 h0 h1 h2 hs hm
    unfold fX6_plan_x24_53 at hm
    refine aw_b (pc' := 54) (lv' := [(0, .ref a), (1, .ref b), (2, .ref c)]) (st' := [.ref a]) [(53, .aload_n 0, 1, .null)] (by decide +kernel) rfl ?_
    refine aw_gl (v := .ref (a + 1)) a 0 h0 eo_T_0 fgX6_11 rfl (by decide +kernel) ?_
    refine aw_b (pc' := 58) (lv' := [(0, .ref a), (1, .ref b), (2, .ref c)]) (st' := [.ref a, .ref (a + 1)]) [(57, .aload_n 0, 1, .null)] (by decide +kernel) rfl ?_
    refine aw_gl (v := .int (s_x24_53 0 0)) a 0 h0 eo_T_0 fgX6_33 rfl (by decide +kernel) ?_
    refine aw_b (pc' := 62) (lv' := [(0, .ref a), (1, .ref b), (2, .ref c)]) (st' := [.ref c, .int (s_x24_53 0 0), .ref (a + 1)]) [(61, .aload_n 2, 1, .null)] (by decide +kernel) rfl ?_
    refine aw_gl (v := .int (u 0 0)) c 0 h2 eo_A_0 fgX6_39 rfl (by decide +kernel) ?_
    obtain ⟨g5, hm⟩ := gd_x hm
    obtain ⟨s6, e7, hm⟩ := bd_x hm
    refine aw_isl a 1 h0 rfl hf g5 e7 (by decide +kernel) (fun H8 h0 z9 => ?_)
    have h1 := h1.kept (n := 4) z9 rfl (by omega)
    have h2 := h2.kept (n := 3) z9 rfl (by omega)
    have hs := hs.step z9 (by omega) (by omega)
    refine aw_b (pc' := 68) (lv' := [(0, .ref a), (1, .ref b), (2, .ref c)]) (st' := [.ref a, .int (1 : Int32)]) [(66, .iconst 1, 1, .int (1 : Int32)), (67, .aload_n 0, 1, .null)] (by decide +kernel) rfl ?_
    refine aw_gl (v := .int (s6 0 0)) a 0 h0 eo_T_0 fgX6_33 rfl (by decide +kernel) ?_
    refine aw_b (pc' := 80) (lv' := [(5, .int (((1 : Int32) <<< ((s6 0 0) &&& 31)) - (1 : Int32))), (4, .int (((1 : Int32) <<< ((s6 0 0) &&& 31)) - (1 : Int32))), (0, .ref a), (1, .ref b), (2, .ref c)]) (st' := []) [(71, .ishl, 1, .null), (72, .iconst 1, 1, .int (1 : Int32)), (73, .isub, 1, .null), (74, .istore 4, 2, .null), (76, .iload 4, 2, .null), (78, .istore 5, 2, .null)] (by decide +kernel) rfl ?_
    obtain ⟨x80, hx80, hr80⟩ := bn_x hm
    have X80_154 : ∀ (s_x80_154 : st_) (H_x80_154 : Heap), has_ E H_x80_154 a ly_T s_x80_154 → has_ E H_x80_154 b ly_S t → has_ E H_x80_154 c ly_A u → sm_ H H_x80_154 a 3 → fX6_plan_x80_154 s_x80_154 = some r → aw E mX6_plan Q 154 [] [] H_x80_154 0 0 := by
      intro s_x80_154 H_x80_154 h0 h1 h2 hs hm
      unfold fX6_plan_x80_154 at hm
      obtain rfl := Option.some.inj hm
      subst hQ
      exact aw_vret rfl (Nat.zero_le _) (Nat.zero_le _) (by decide +kernel) ⟨rfl, hs, h0⟩
    have L80 : ∀ (fu : Nat) (v5_b80 : Int32) (s_b80 : st_) (H_b80 : Heap), has_ E H_b80 a ly_T s_b80 → has_ E H_b80 b ly_S t → has_ E H_b80 c ly_A u → sm_ H H_b80 a 3 → fX6_plan_l80 t fu (v5_b80, s_b80) = some x80 → aw E mX6_plan Q 80 [(0, .ref a), (1, .ref b), (5, .int v5_b80)] [] H_b80 0 0 := by
      intro fu
      induction fu with
      | zero =>
        intro v5_b80 s_b80 H_b80 h0 h1 h2 hs hm
        exact (it_0 hm).elim
      | succ fu ih80 =>
        intro v5_b80 s_b80 H_b80 h0 h1 h2 hs hm
        obtain ⟨y80, hm, hk80⟩ := it_s hm
        have hm : fX6_plan_b80 t v5_b80 s_b80 = some y80 := hm
        unfold fX6_plan_b80 at hm
        refine aw_b (pc' := 82) (lv' := [(0, .ref a), (1, .ref b), (5, .int v5_b80)]) (st' := [.int v5_b80]) [(80, .iload 5, 2, .null)] (by decide +kernel) rfl ?_
        refine aw_if_lt (off := 72) 154 (by decide) (by decide +kernel) (fun hc => ?_) (fun hc => ?_)
        · have hm := (if_pos hc).symm.trans hm
          cases hm
          refine aw_lv (lv' := []) [] rfl ?_
          exact X80_154 s_b80 H_b80 h0 h1 h2 hs ((congrArg fX6_plan_k80 (show (s_b80) = x80 from hk80)).trans hr80)
        · have hm := (if_neg hc).symm.trans hm
          refine aw_b (pc' := 88) (lv' := [(6, .int (0 : Int32)), (0, .ref a), (1, .ref b), (5, .int v5_b80)]) (st' := []) [(85, .iconst 0, 1, .int (0 : Int32)), (86, .istore 6, 2, .null)] (by decide +kernel) rfl ?_
          obtain ⟨x88, hx88, hr88⟩ := bn_x hm
          have X88_148 : ∀ (s_x88_148 : st_) (H_x88_148 : Heap), has_ E H_x88_148 a ly_T s_x88_148 → has_ E H_x88_148 b ly_S t → has_ E H_x88_148 c ly_A u → sm_ H H_x88_148 a 3 → fX6_plan_x88_148 v5_b80 s_x88_148 = some y80 → aw E mX6_plan Q 148 [(0, .ref a), (1, .ref b), (5, .int v5_b80)] [] H_x88_148 0 0 := by
            intro s_x88_148 H_x88_148 h0 h1 h2 hs hm
            unfold fX6_plan_x88_148 at hm
            refine aw_b (pc' := 80) (lv' := [(5, .int (v5_b80 + (-1 : Int32))), (0, .ref a), (1, .ref b)]) (st' := []) [(148, .iinc 5 (-1), 3, .int (-1 : Int32)), (151, .goto (-71), 3, .null)] (by decide +kernel) rfl ?_
            cases hm
            refine aw_lv (lv' := [(0, .ref a), (1, .ref b), (5, .int (v5_b80 + (-1 : Int32)))]) [1, 2, 0] rfl ?_
            exact ih80 (v5_b80 + (-1 : Int32)) s_x88_148 H_x88_148 h0 h1 h2 hs hk80
          have L88 : ∀ (fu : Nat) (v6_b88 : Int32) (s_b88 : st_) (H_b88 : Heap), has_ E H_b88 a ly_T s_b88 → has_ E H_b88 b ly_S t → has_ E H_b88 c ly_A u → sm_ H H_b88 a 3 → fX6_plan_l88 t v5_b80 fu (v6_b88, s_b88) = some x88 → aw E mX6_plan Q 88 [(0, .ref a), (1, .ref b), (5, .int v5_b80), (6, .int v6_b88)] [] H_b88 0 0 := by
            intro fu
            induction fu with
            | zero =>
              intro v6_b88 s_b88 H_b88 h0 h1 h2 hs hm
              exact (it_0 hm).elim
            | succ fu ih88 =>
              intro v6_b88 s_b88 H_b88 h0 h1 h2 hs hm
              obtain ⟨y88, hm, hk88⟩ := it_s hm
              have hm : fX6_plan_b88 t v5_b80 v6_b88 s_b88 = some y88 := hm
              unfold fX6_plan_b88 at hm
              refine aw_b (pc' := 91) (lv' := [(0, .ref a), (1, .ref b), (5, .int v5_b80), (6, .int v6_b88)]) (st' := [.ref a, .int v6_b88]) [(88, .iload 6, 2, .null), (90, .aload_n 0, 1, .null)] (by decide +kernel) rfl ?_
              refine aw_gl (v := .int (s_b88 0 0)) a 0 h0 eo_T_0 fgX6_33 rfl (by decide +kernel) ?_
              refine aw_ic_gt (off := 54) 148 (by decide) (by decide +kernel) (fun hc => ?_) (fun hc => ?_)
              · have hm := (if_pos hc).symm.trans hm
                cases hm
                refine aw_lv (lv' := [(0, .ref a), (1, .ref b), (5, .int v5_b80)]) [0, 1, 2] rfl ?_
                exact X88_148 s_b88 H_b88 h0 h1 h2 hs ((congrArg (fX6_plan_k88 v5_b80) (show (s_b88) = x88 from hk88)).trans hr88)
              · have hm := (if_neg hc).symm.trans hm
                refine aw_b (pc' := 103) (lv' := [(0, .ref a), (1, .ref b), (5, .int v5_b80), (6, .int v6_b88)]) (st' := [.int v6_b88, .int v5_b80, .ref b, .ref a]) [(97, .aload_n 0, 1, .null), (98, .aload_n 1, 1, .null), (99, .iload 5, 2, .null), (101, .iload 6, 2, .null)] (by decide +kernel) rfl ?_
                obtain ⟨r10, e11, hm⟩ := bn_x hm
                refine aw_cv (rest := []) (st1 := [.int r10]) a 0 (kX6_nextOf e11 h0 h1) rfl rfl ckX6_nextOf lkX6_42 h0 eo_T_0 ⟨_, _, rfl⟩ nkX6_nextOf rfl rfl rfl (Nat.le_of_ble_eq_true rfl) (Nat.zero_le _) (Nat.zero_le _) (by decide +kernel) (fun H12 z13 => ?_)
                have h0 := h0.kept0 z13
                have h1 := h1.kept0 z13
                have h2 := h2.kept0 z13
                have hs := hs.step0 z13
                refine aw_b (pc' := 109) (lv' := [(7, .int r10), (0, .ref a), (1, .ref b), (5, .int v5_b80), (6, .int v6_b88)]) (st' := [.ref a]) [(106, .istore 7, 2, .null), (108, .aload_n 0, 1, .null)] (by decide +kernel) rfl ?_
                refine aw_gl (v := .ref (a + 2)) a 0 h0 eo_T_0 fgX6_15 rfl (by decide +kernel) ?_
                refine aw_b (pc' := 123) (lv' := [(7, .int r10), (0, .ref a), (1, .ref b), (5, .int v5_b80), (6, .int v6_b88)]) (st' := [.int (-1 : Int32), .int r10, .int ((v5_b80 * (9 : Int32)) + v6_b88), .ref (a + 2)]) [(112, .iload 5, 2, .null), (114, .bipush 9, 2, .int (9 : Int32)), (116, .imul, 1, .null), (117, .iload 6, 2, .null), (119, .iadd, 1, .null), (120, .iload 7, 2, .null), (122, .iconst (-1), 1, .int (-1 : Int32))] (by decide +kernel) rfl ?_
                have J141 : ∀ (z2_j141 : Int32) (H_j141 : Heap), has_ E H_j141 a ly_T s_b88 → has_ E H_j141 b ly_S t → has_ E H_j141 c ly_A u → sm_ H H_j141 a 3 → fX6_plan_j141 v5_b80 v6_b88 s_b88 z2_j141 = some y88 → aw E mX6_plan Q 141 [(0, .ref a), (1, .ref b), (5, .int v5_b80), (6, .int v6_b88)] [.int z2_j141, .int ((v5_b80 * (9 : Int32)) + v6_b88), .ref (a + 2)] H_j141 0 0 := by
                  intro z2_j141 H_j141 h0 h1 h2 hs hm
                  unfold fX6_plan_j141 at hm
                  obtain ⟨g14, hm⟩ := gd_x hm
                  obtain ⟨s15, e16, hm⟩ := bd_x hm
                  refine aw_isl a 2 h0 rfl hf g14 e16 (by decide +kernel) (fun H17 h0 z18 => ?_)
                  have h1 := h1.kept (n := 4) z18 rfl (by omega)
                  have h2 := h2.kept (n := 3) z18 rfl (by omega)
                  have hs := hs.step z18 (by omega) (by omega)
                  refine aw_b (pc' := 88) (lv' := [(6, .int (v6_b88 + (1 : Int32))), (0, .ref a), (1, .ref b), (5, .int v5_b80)]) (st' := []) [(142, .iinc 6 1, 3, .int (1 : Int32)), (145, .goto (-57), 3, .null)] (by decide +kernel) rfl ?_
                  cases hm
                  refine aw_lv (lv' := [(0, .ref a), (1, .ref b), (5, .int v5_b80), (6, .int (v6_b88 + (1 : Int32)))]) [1, 2, 3, 0] rfl ?_
                  exact ih88 (v6_b88 + (1 : Int32)) s15 H17 h0 h1 h2 hs hk88
                refine aw_ic_ne (off := 7) 130 (by decide) (by decide +kernel) (fun hc => ?_) (fun hc => ?_)
                · have hm := (if_neg hc).symm.trans hm
                  refine aw_b (pc' := 138) (lv' := [(7, .int r10), (0, .ref a), (1, .ref b), (5, .int v5_b80), (6, .int v6_b88)]) (st' := [.int r10, .int v6_b88, .int v5_b80, .ref b, .ref a, .int ((v5_b80 * (9 : Int32)) + v6_b88), .ref (a + 2)]) [(130, .aload_n 0, 1, .null), (131, .aload_n 1, 1, .null), (132, .iload 5, 2, .null), (134, .iload 6, 2, .null), (136, .iload 7, 2, .null)] (by decide +kernel) rfl ?_
                  obtain ⟨r19, e20, hm⟩ := bn_x hm
                  refine aw_cv (rest := [.int ((v5_b80 * (9 : Int32)) + v6_b88), .ref (a + 2)]) (st1 := [.int r19, .int ((v5_b80 * (9 : Int32)) + v6_b88), .ref (a + 2)]) a 0 (kX6_costOver e20 h0 h1) rfl rfl ckX6_costOver lkX6_46 h0 eo_T_0 ⟨_, _, rfl⟩ nkX6_costOver rfl rfl rfl (Nat.le_of_ble_eq_true rfl) (Nat.zero_le _) (Nat.zero_le _) (by decide +kernel) (fun H21 z22 => ?_)
                  have h0 := h0.kept0 z22
                  have h1 := h1.kept0 z22
                  have h2 := h2.kept0 z22
                  have hs := hs.step0 z22
                  refine aw_lv (lv' := [(0, .ref a), (1, .ref b), (5, .int v5_b80), (6, .int v6_b88)]) [1, 2, 3, 4] rfl ?_
                  exact J141 r19 H21 h0 h1 h2 hs hm
                · have hm := (if_pos hc).symm.trans hm
                  refine aw_b (pc' := 141) (lv' := [(7, .int r10), (0, .ref a), (1, .ref b), (5, .int v5_b80), (6, .int v6_b88)]) (st' := [.int (0 : Int32), .int ((v5_b80 * (9 : Int32)) + v6_b88), .ref (a + 2)]) [(126, .iconst 0, 1, .int (0 : Int32)), (127, .goto 14, 3, .null)] (by decide +kernel) rfl ?_
                  refine aw_lv (lv' := [(0, .ref a), (1, .ref b), (5, .int v5_b80), (6, .int v6_b88)]) [1, 2, 3, 4] rfl ?_
                  exact J141 (0 : Int32) H12 h0 h1 h2 hs hm
          refine aw_lv (lv' := [(0, .ref a), (1, .ref b), (5, .int v5_b80), (6, .int (0 : Int32))]) [1, 2, 3, 0] rfl ?_
          exact L88 FU_ (0 : Int32) s_b80 H_b80 h0 h1 h2 hs hx88
    refine aw_lv (lv' := [(0, .ref a), (1, .ref b), (5, .int (((1 : Int32) <<< ((s6 0 0) &&& 31)) - (1 : Int32)))]) [2, 3, 0] rfl ?_
    exact L80 FU_ (((1 : Int32) <<< ((s6 0 0) &&& 31)) - (1 : Int32)) s6 H8 h0 h1 h2 hs hx80
  have L24 : ∀ (fu : Nat) (v4_b24 : Int32) (s_b24 : st_) (H_b24 : Heap), has_ E H_b24 a ly_T s_b24 → has_ E H_b24 b ly_S t → has_ E H_b24 c ly_A u → sm_ H H_b24 a 3 → fX6_plan_l24 u fu (v4_b24, s_b24) = some x24 → aw E mX6_plan Q 24 [(0, .ref a), (1, .ref b), (2, .ref c), (4, .int v4_b24)] [] H_b24 0 0 := by
    intro fu
    induction fu with
    | zero =>
      intro v4_b24 s_b24 H_b24 h0 h1 h2 hs hm
      exact (it_0 hm).elim
    | succ fu ih24 =>
      intro v4_b24 s_b24 H_b24 h0 h1 h2 hs hm
      obtain ⟨y24, hm, hk24⟩ := it_s hm
      have hm : fX6_plan_b24 u v4_b24 s_b24 = some y24 := hm
      unfold fX6_plan_b24 at hm
      refine aw_b (pc' := 27) (lv' := [(0, .ref a), (1, .ref b), (2, .ref c), (4, .int v4_b24)]) (st' := [.ref a, .int v4_b24]) [(24, .iload 4, 2, .null), (26, .aload_n 0, 1, .null)] (by decide +kernel) rfl ?_
      refine aw_gl (v := .int (s_b24 0 0)) a 0 h0 eo_T_0 fgX6_33 rfl (by decide +kernel) ?_
      refine aw_ic_ge (off := 23) 53 (by decide) (by decide +kernel) (fun hc => ?_) (fun hc => ?_)
      · have hm := (if_pos hc).symm.trans hm
        cases hm
        refine aw_lv (lv' := [(0, .ref a), (1, .ref b), (2, .ref c)]) [0, 1, 2] rfl ?_
        exact X24_53 s_b24 H_b24 h0 h1 h2 hs ((congrArg (fX6_plan_k24 t u) (show (s_b24) = x24 from hk24)).trans hr24)
      · have hm := (if_neg hc).symm.trans hm
        refine aw_b (pc' := 34) (lv' := [(0, .ref a), (1, .ref b), (2, .ref c), (4, .int v4_b24)]) (st' := [.ref a]) [(33, .aload_n 0, 1, .null)] (by decide +kernel) rfl ?_
        refine aw_gl (v := .ref (a + 1)) a 0 h0 eo_T_0 fgX6_11 rfl (by decide +kernel) ?_
        refine aw_b (pc' := 40) (lv' := [(0, .ref a), (1, .ref b), (2, .ref c), (4, .int v4_b24)]) (st' := [.ref c, .int v4_b24, .ref (a + 1)]) [(37, .iload 4, 2, .null), (39, .aload_n 2, 1, .null)] (by decide +kernel) rfl ?_
        refine aw_gl (v := .ref (c + 1)) c 0 h2 eo_A_0 fgX6_36 rfl (by decide +kernel) ?_
        refine aw_b (pc' := 45) (lv' := [(0, .ref a), (1, .ref b), (2, .ref c), (4, .int v4_b24)]) (st' := [.int v4_b24, .ref (c + 1), .int v4_b24, .ref (a + 1)]) [(43, .iload 4, 2, .null)] (by decide +kernel) rfl ?_
        obtain ⟨g23, hm⟩ := gd_x hm
        refine aw_ial c 1 h2 rfl g23 (by decide +kernel) ?_
        obtain ⟨g24, hm⟩ := gd_x hm
        obtain ⟨s25, e26, hm⟩ := bd_x hm
        refine aw_isl a 1 h0 rfl hf g24 e26 (by decide +kernel) (fun H27 h0 z28 => ?_)
        have h1 := h1.kept (n := 4) z28 rfl (by omega)
        have h2 := h2.kept (n := 3) z28 rfl (by omega)
        have hs := hs.step z28 (by omega) (by omega)
        refine aw_b (pc' := 24) (lv' := [(4, .int (v4_b24 + (1 : Int32))), (0, .ref a), (1, .ref b), (2, .ref c)]) (st' := []) [(47, .iinc 4 1, 3, .int (1 : Int32)), (50, .goto (-26), 3, .null)] (by decide +kernel) rfl ?_
        cases hm
        refine aw_lv (lv' := [(0, .ref a), (1, .ref b), (2, .ref c), (4, .int (v4_b24 + (1 : Int32)))]) [1, 2, 3, 0] rfl ?_
        exact ih24 (v4_b24 + (1 : Int32)) s25 H27 h0 h1 h2 hs hk24
  refine aw_lv (lv' := [(0, .ref a), (1, .ref b), (2, .ref c), (4, .int (0 : Int32))]) [1, 2, 3, 0] rfl ?_
  exact L24 FU_ (0 : Int32) s1 H3 h0 h1 h2 hs hx24
def mX6_leastCost : mt_ := (yX6_leastCost, cX6_leastCost, 1, some .int, [], { frames := 0, locals := 0, cells := 0, slots := 0 })
theorem ckX6_leastCost : cokV_ mX6_leastCost := ⟨⟨(uw_mem 1455 (by decide +kernel) (by decide +kernel)), (uw_mem 36 (by decide +kernel) (by decide +kernel)), by decide +kernel, by decide +kernel⟩, (uw_mem 1453 (by decide +kernel) (by decide +kernel)), (uw_mem 1454 (by decide +kernel) (by decide +kernel))⟩
theorem nkX6_leastCost : nok_ mX6_leastCost 0 := by decide +kernel
theorem kX6_leastCost {E : ev_} {H : Heap} {a : Nat} {s : st_} {r : Int32} (hm : fX6_leastCost s = some r) (h0 : has_ E H a ly_T s) : sp_ E mX6_leastCost [.ref a] H (po1 (.inl (some (.int r))) (fun Hn => sm_ H Hn 0 0)) := by
  refine sp_of (by decide +kernel) rfl rfl ?_
  generalize hQ : po1 _ _ = Q
  have hs : sm_ H H 0 0 := sm_.rfl'
  unfold fX6_leastCost at hm
  refine aw_lv (lv' := [(0, .ref a)]) [0] rfl ?_
  refine aw_b (pc' := 1) (lv' := [(0, .ref a)]) (st' := [.ref a]) [(0, .aload_n 0, 1, .null)] (by decide +kernel) rfl ?_
  refine aw_gl (v := .ref (a + 2)) a 0 h0 eo_T_0 fgX6_15 rfl (by decide +kernel) ?_
  refine aw_b (pc' := 5) (lv' := [(0, .ref a)]) (st' := [.ref a, .ref (a + 2)]) [(4, .aload_n 0, 1, .null)] (by decide +kernel) rfl ?_
  refine aw_gl (v := .int (s 0 0)) a 0 h0 eo_T_0 fgX6_33 rfl (by decide +kernel) ?_
  obtain ⟨g1, hm⟩ := gd_x hm
  refine aw_ial a 2 h0 rfl g1 (by decide +kernel) ?_
  obtain rfl := Option.some.inj hm
  subst hQ
  exact aw_iret rfl (Nat.zero_le _) (Nat.zero_le _) (by decide +kernel) ⟨rfl, hs⟩
