/-! mirrors of methods, and that the methods do as they say: printed by wip/whole/gen_parts.py out of the listing -/
def mX3_skipSpaces : mt_ := (yX3_skipSpaces, cX3_skipSpaces, 1, none, [], { frames := 0, locals := 0, cells := 0, slots := 0 })
theorem ckX3_skipSpaces : cokV_ mX3_skipSpaces := ⟨⟨(uw_mem 647 (by decide +kernel) (by decide +kernel)), (uw_mem 30 (by decide +kernel) (by decide +kernel)), by decide +kernel, by decide +kernel⟩, (uw_mem 646 (by decide +kernel) (by decide +kernel)), (uw_mem 3 (by decide +kernel) (by decide +kernel))⟩
theorem nkX3_skipSpaces : nok_ mX3_skipSpaces 0 := by decide +kernel
theorem fgX3_32 : fok_ RX3 32 3 3 := ⟨_, _, _, rfl, by decide, (uw_mem 180 (by decide +kernel) (by decide +kernel)), wkX3⟩
theorem eo_B_1 : eo_ ly_B 1 3 fsX3 := rfl
theorem fgX3_28 : fok_ RX3 28 3 2 := ⟨_, _, _, rfl, by decide, (uw_mem 179 (by decide +kernel) (by decide +kernel)), wkX3⟩
theorem fgX3_18 : fok_ RX3 18 3 1 := ⟨_, _, _, rfl, by decide, (uw_mem 178 (by decide +kernel) (by decide +kernel)), wkX3⟩
theorem fpX3_32 : fpk_ RX3 32 3 3 .int := ⟨_, _, _, tyX3, rfl, by decide, (uw_mem 180 (by decide +kernel) (by decide +kernel)), wkX3, tyX3_ok, nmX3, rfl, by decide +kernel⟩
theorem fsq_3_3 : fsp_ fsX3 3 := ⟨fun _ _ => rfl, fun _ _ _ => rfl⟩
theorem kX3_skipSpaces {E : ev_} {H : Heap} {a : Nat} {s : st_} {r : st_} (hm : fX3_skipSpaces s = some r) (h0 : has_ E H a ly_B s) (hf : ev_fr E a) : sp_ E mX3_skipSpaces [.ref (a + 1)] H (po1 (.inl (none)) (fun Hn => sm_ H Hn a 7 ∧ has_ E Hn a ly_B r)) := by
  refine sp_of (by decide +kernel) rfl rfl ?_
  generalize hQ : po1 _ _ = Q
  have hs : sm_ H H a 7 := sm_.rfl'
  unfold fX3_skipSpaces at hm
  refine aw_lv (lv' := [(0, .ref (a + 1))]) [0] rfl ?_
  obtain ⟨x0, hx0, hr0⟩ := bn_x hm
  have X0_38 : ∀ (s_x0_38 : st_) (H_x0_38 : Heap), has_ E H_x0_38 a ly_B s_x0_38 → sm_ H H_x0_38 a 7 → fX3_skipSpaces_x0_38 s_x0_38 = some r → aw E mX3_skipSpaces Q 38 [] [] H_x0_38 0 0 := by
    intro s_x0_38 H_x0_38 h0 hs hm
    unfold fX3_skipSpaces_x0_38 at hm
    obtain rfl := Option.some.inj hm
    subst hQ
    exact aw_vret rfl (Nat.zero_le _) (Nat.zero_le _) (by decide +kernel) ⟨rfl, hs, h0⟩
  have L0 : ∀ (fu : Nat) (s_b0 : st_) (H_b0 : Heap), has_ E H_b0 a ly_B s_b0 → sm_ H H_b0 a 7 → fX3_skipSpaces_l0 fu s_b0 = some x0 → aw E mX3_skipSpaces Q 0 [(0, .ref (a + 1))] [] H_b0 0 0 := by
    intro fu
    induction fu with
    | zero =>
      intro s_b0 H_b0 h0 hs hm
      exact (it_0 hm).elim
    | succ fu ih0 =>
      intro s_b0 H_b0 h0 hs hm
      obtain ⟨y0, hm, hk0⟩ := it_s hm
      have hm : fX3_skipSpaces_b0 s_b0 = some y0 := hm
      unfold fX3_skipSpaces_b0 at hm
      refine aw_b (pc' := 1) (lv' := [(0, .ref (a + 1))]) (st' := [.ref (a + 1)]) [(0, .aload_n 0, 1, .null)] (by decide +kernel) rfl ?_
      refine aw_gl (v := .int (s_b0 1 3)) a 1 h0 eo_B_1 fgX3_32 rfl (by decide +kernel) ?_
      refine aw_b (pc' := 5) (lv' := [(0, .ref (a + 1))]) (st' := [.ref (a + 1), .int (s_b0 1 3)]) [(4, .aload_n 0, 1, .null)] (by decide +kernel) rfl ?_
      refine aw_gl (v := .int (s_b0 1 2)) a 1 h0 eo_B_1 fgX3_28 rfl (by decide +kernel) ?_
      refine aw_ic_ge (off := 30) 38 (by decide) (by decide +kernel) (fun hc => ?_) (fun hc => ?_)
      · have hm := (if_pos hc).symm.trans hm
        cases hm
        refine aw_lv (lv' := []) [] rfl ?_
        exact X0_38 s_b0 H_b0 h0 hs ((congrArg fX3_skipSpaces_k0 (show (s_b0) = x0 from hk0)).trans hr0)
      · have hm := (if_neg hc).symm.trans hm
        refine aw_b (pc' := 12) (lv' := [(0, .ref (a + 1))]) (st' := [.ref (a + 1)]) [(11, .aload_n 0, 1, .null)] (by decide +kernel) rfl ?_
        obtain ⟨g1, hm⟩ := gd_x hm
        refine aw_gl (v := .ref a) a 1 h0 eo_B_1 fgX3_18 (tx_ok g1) (by decide +kernel) ?_
        refine aw_b (pc' := 16) (lv' := [(0, .ref (a + 1))]) (st' := [.ref (a + 1), .ref a]) [(15, .aload_n 0, 1, .null)] (by decide +kernel) rfl ?_
        refine aw_gl (v := .int (s_b0 1 3)) a 1 h0 eo_B_1 fgX3_32 rfl (by decide +kernel) ?_
        obtain ⟨g2, hm⟩ := gd_x hm
        refine aw_bal a 0 h0 rfl g2 (by decide +kernel) ?_
        refine aw_b (pc' := 22) (lv' := [(0, .ref (a + 1))]) (st' := [.int (32 : Int32), .int (s_b0 0 (ix_ (s_b0 1 3)))]) [(20, .bipush 32, 2, .int (32 : Int32))] (by decide +kernel) rfl ?_
        refine aw_ic_ne (off := 16) 38 (by decide) (by decide +kernel) (fun hc => ?_) (fun hc => ?_)
        · have hm := (if_neg hc).symm.trans hm
          cases hm
          refine aw_lv (lv' := []) [] rfl ?_
          exact X0_38 s_b0 H_b0 h0 hs ((congrArg fX3_skipSpaces_k0 (show (s_b0) = x0 from hk0)).trans hr0)
        · have hm := (if_pos hc).symm.trans hm
          refine aw_b (pc' := 27) (lv' := [(0, .ref (a + 1))]) (st' := [.ref (a + 1), .ref (a + 1)]) [(25, .aload_n 0, 1, .null), (26, .dup, 1, .null)] (by decide +kernel) rfl ?_
          refine aw_gl (v := .int (s_b0 1 3)) a 1 h0 eo_B_1 fgX3_32 rfl (by decide +kernel) ?_
          refine aw_b (pc' := 32) (lv' := [(0, .ref (a + 1))]) (st' := [.int ((s_b0 1 3) + (1 : Int32)), .ref (a + 1)]) [(30, .iconst 1, 1, .int (1 : Int32)), (31, .iadd, 1, .null)] (by decide +kernel) rfl ?_
          obtain ⟨s3, e4, hm⟩ := bd_x hm
          refine aw_pl a 1 h0 eo_B_1 fsq_3_3 fpX3_32 hf rfl rfl e4 (by decide +kernel) (fun H5 h0 z6 => ?_)
          have hs := hs.step z6 (by omega) (by omega)
          refine aw_b (pc' := 0) (lv' := [(0, .ref (a + 1))]) (st' := []) [(35, .goto (-35), 3, .null)] (by decide +kernel) rfl ?_
          cases hm
          exact ih0 s3 H5 h0 hs hk0
  exact L0 FU_ s H h0 hs hx0
def mX3_isToken : mt_ := (yX3_isToken, cX3_isToken, 5, some .boolean, [], { frames := 6, locals := 160, cells := 0, slots := 0 })
theorem ckX3_isToken : cokV_ mX3_isToken := ⟨⟨(uw_mem 657 (by decide +kernel) (by decide +kernel)), (uw_mem 30 (by decide +kernel) (by decide +kernel)), by decide +kernel, by decide +kernel⟩, (uw_mem 656 (by decide +kernel) (by decide +kernel)), (uw_mem 5 (by decide +kernel) (by decide +kernel))⟩
theorem nkX3_isToken : nok_ mX3_isToken 3 := by decide +kernel
theorem lkX3_150 : Cond.methodLink RX3 150 yJ0_length_8abf5 ∈ uw_ := (uw_mem 652 (by decide +kernel) (by decide +kernel))
theorem fgX3_35 : fok_ RX3 35 3 4 := ⟨_, _, _, rfl, by decide, (uw_mem 181 (by decide +kernel) (by decide +kernel)), wkX3⟩
theorem lkX3_155 : Cond.methodLink RX3 155 yJ0_charAt_5068e ∈ uw_ := (uw_mem 653 (by decide +kernel) (by decide +kernel))
theorem kX3_isToken {E : ev_} {H : Heap} {a : Nat} {s : st_} {w0 : Nat} {i1 : Int32} {i2 : Int32} {r : Int32} (hm : fX3_isToken s w0 i1 i2 = some r) (h0 : has_ E H a ly_B s) (hx_w0 : sxb_ w0 = true) : sp_ E mX3_isToken [.ref (a + 1), .ref (sa_ E w0), .int i1, .int i2] H (po1 (.inl (some (.int r))) (fun Hn => sm_ H Hn 0 0)) := by
  refine sp_of (by decide +kernel) rfl rfl ?_
  generalize hQ : po1 _ _ = Q
  have hs : sm_ H H 0 0 := sm_.rfl'
  unfold fX3_isToken at hm
  refine aw_lv (lv' := [(0, .ref (a + 1)), (1, .ref (sa_ E w0)), (2, .int i1), (3, .int i2)]) [0, 1, 2, 3] rfl ?_
  refine aw_b (pc' := 1) (lv' := [(0, .ref (a + 1)), (1, .ref (sa_ E w0)), (2, .int i1), (3, .int i2)]) (st' := [.int i1]) [(0, .iload_n 2, 1, .null)] (by decide +kernel) rfl ?_
  refine aw_if_lt (off := 26) 27 (by decide) (by decide +kernel) (fun hc => ?_) (fun hc => ?_)
  · have hm := (if_pos hc).symm.trans hm
    refine aw_b (pc' := 28) (lv' := [(0, .ref (a + 1)), (1, .ref (sa_ E w0)), (2, .int i1), (3, .int i2)]) (st' := [.int (0 : Int32)]) [(27, .iconst 0, 1, .int (0 : Int32))] (by decide +kernel) rfl ?_
    obtain rfl := Option.some.inj hm
    subst hQ
    exact aw_zret rfl (by decide +kernel) (Nat.zero_le _) (Nat.zero_le _) (by decide +kernel) ⟨rfl, hs⟩
  · have hm := (if_neg hc).symm.trans hm
    refine aw_b (pc' := 6) (lv' := [(0, .ref (a + 1)), (1, .ref (sa_ E w0)), (2, .int i1), (3, .int i2)]) (st' := [.ref (sa_ E w0), .int i2]) [(4, .iload_n 3, 1, .null), (5, .aload_n 1, 1, .null)] (by decide +kernel) rfl ?_
    obtain ⟨g3, hm⟩ := gd_x hm
    refine aw_sln (rest := [.int i2]) w0 hx_w0 lkX3_150 rfl rfl (Nat.le_of_ble_eq_true rfl) (Nat.zero_le _) (Nat.zero_le _) (by decide +kernel) (fun H1 z2 => ?_)
    have h0 := h0.kept0 z2
    have hs := hs.step0 z2
    refine aw_ic_gt (off := 18) 27 (by decide) (by decide +kernel) (fun hc => ?_) (fun hc => ?_)
    · have hm := (if_pos hc).symm.trans hm
      refine aw_b (pc' := 28) (lv' := [(0, .ref (a + 1)), (1, .ref (sa_ E w0)), (2, .int i1), (3, .int i2)]) (st' := [.int (0 : Int32)]) [(27, .iconst 0, 1, .int (0 : Int32))] (by decide +kernel) rfl ?_
      obtain rfl := Option.some.inj hm
      subst hQ
      exact aw_zret rfl (by decide +kernel) (Nat.zero_le _) (Nat.zero_le _) (by decide +kernel) ⟨rfl, hs⟩
    · have hm := (if_neg hc).symm.trans hm
      refine aw_b (pc' := 16) (lv' := [(0, .ref (a + 1)), (1, .ref (sa_ E w0)), (2, .int i1), (3, .int i2)]) (st' := [.ref (a + 1), .int (i2 - i1)]) [(12, .iload_n 3, 1, .null), (13, .iload_n 2, 1, .null), (14, .isub, 1, .null), (15, .aload_n 0, 1, .null)] (by decide +kernel) rfl ?_
      refine aw_gl (v := .int (s 1 3)) a 1 h0 eo_B_1 fgX3_32 rfl (by decide +kernel) ?_
      refine aw_b (pc' := 20) (lv' := [(0, .ref (a + 1)), (1, .ref (sa_ E w0)), (2, .int i1), (3, .int i2)]) (st' := [.ref (a + 1), .int (s 1 3), .int (i2 - i1)]) [(19, .aload_n 0, 1, .null)] (by decide +kernel) rfl ?_
      refine aw_gl (v := .int (s 1 4)) a 1 h0 eo_B_1 fgX3_35 rfl (by decide +kernel) ?_
      refine aw_b (pc' := 24) (lv' := [(0, .ref (a + 1)), (1, .ref (sa_ E w0)), (2, .int i1), (3, .int i2)]) (st' := [.int ((s 1 3) - (s 1 4)), .int (i2 - i1)]) [(23, .isub, 1, .null)] (by decide +kernel) rfl ?_
      refine aw_ic_eq (off := 5) 29 (by decide) (by decide +kernel) (fun hc => ?_) (fun hc => ?_)
      · have hm := (if_pos hc).symm.trans hm
        refine aw_b (pc' := 32) (lv' := [(4, .int (0 : Int32)), (0, .ref (a + 1)), (1, .ref (sa_ E w0)), (2, .int i1), (3, .int i2)]) (st' := []) [(29, .iconst 0, 1, .int (0 : Int32)), (30, .istore 4, 2, .null)] (by decide +kernel) rfl ?_
        obtain ⟨x32, hx32, hr32⟩ := bn_x hm
        have X32_71 : ∀ (H_x32_71 : Heap), has_ E H_x32_71 a ly_B s → sm_ H H_x32_71 0 0 → fX3_isToken_x32_71 = some r → aw E mX3_isToken Q 71 [] [] H_x32_71 0 0 := by
          intro H_x32_71 h0 hs hm
          unfold fX3_isToken_x32_71 at hm
          refine aw_b (pc' := 72) (lv' := []) (st' := [.int (1 : Int32)]) [(71, .iconst 1, 1, .int (1 : Int32))] (by decide +kernel) rfl ?_
          obtain rfl := Option.some.inj hm
          subst hQ
          exact aw_zret rfl (by decide +kernel) (Nat.zero_le _) (Nat.zero_le _) (by decide +kernel) ⟨rfl, hs⟩
        have X32_63 : ∀ (H_x32_63 : Heap), has_ E H_x32_63 a ly_B s → sm_ H H_x32_63 0 0 → fX3_isToken_x32_63 = some r → aw E mX3_isToken Q 63 [] [] H_x32_63 0 0 := by
          intro H_x32_63 h0 hs hm
          unfold fX3_isToken_x32_63 at hm
          refine aw_b (pc' := 64) (lv' := []) (st' := [.int (0 : Int32)]) [(63, .iconst 0, 1, .int (0 : Int32))] (by decide +kernel) rfl ?_
          obtain rfl := Option.some.inj hm
          subst hQ
          exact aw_zret rfl (by decide +kernel) (Nat.zero_le _) (Nat.zero_le _) (by decide +kernel) ⟨rfl, hs⟩
        have L32 : ∀ (fu : Nat) (v4_b32 : Int32) (H_b32 : Heap), has_ E H_b32 a ly_B s → sm_ H H_b32 0 0 → fX3_isToken_l32 s w0 i1 i2 fu v4_b32 = some x32 → aw E mX3_isToken Q 32 [(0, .ref (a + 1)), (1, .ref (sa_ E w0)), (2, .int i1), (3, .int i2), (4, .int v4_b32)] [] H_b32 0 0 := by
          intro fu
          induction fu with
          | zero =>
            intro v4_b32 H_b32 h0 hs hm
            exact (it_0 hm).elim
          | succ fu ih32 =>
            intro v4_b32 H_b32 h0 hs hm
            obtain ⟨y32, hm, hk32⟩ := it_s hm
            have hm : fX3_isToken_b32 s w0 i1 i2 v4_b32 = some y32 := hm
            unfold fX3_isToken_b32 at hm
            refine aw_b (pc' := 37) (lv' := [(0, .ref (a + 1)), (1, .ref (sa_ E w0)), (2, .int i1), (3, .int i2), (4, .int v4_b32)]) (st' := [.int (i2 - i1), .int v4_b32]) [(32, .iload 4, 2, .null), (34, .iload_n 3, 1, .null), (35, .iload_n 2, 1, .null), (36, .isub, 1, .null)] (by decide +kernel) rfl ?_
            refine aw_ic_ge (off := 34) 71 (by decide) (by decide +kernel) (fun hc => ?_) (fun hc => ?_)
            · have hm := (if_pos hc).symm.trans hm
              cases hm
              refine aw_lv (lv' := []) [] rfl ?_
              exact X32_71 H_b32 h0 hs ((congrArg fX3_isToken_k32 (show (.inr ()) = x32 from hk32)).trans hr32)
            · have hm := (if_neg hc).symm.trans hm
              refine aw_b (pc' := 45) (lv' := [(0, .ref (a + 1)), (1, .ref (sa_ E w0)), (2, .int i1), (3, .int i2), (4, .int v4_b32)]) (st' := [.int (i1 + v4_b32), .ref (sa_ E w0)]) [(40, .aload_n 1, 1, .null), (41, .iload_n 2, 1, .null), (42, .iload 4, 2, .null), (44, .iadd, 1, .null)] (by decide +kernel) rfl ?_
              obtain ⟨g6, hm⟩ := gd_x hm
              obtain ⟨g7, hm⟩ := gd_x hm
              refine aw_sch (rest := []) w0 hx_w0 g7 lkX3_155 rfl rfl (Nat.le_of_ble_eq_true rfl) (Nat.zero_le _) (Nat.zero_le _) (by decide +kernel) (fun H4 z5 => ?_)
              have h0 := h0.kept0 z5
              have hs := hs.step0 z5
              refine aw_b (pc' := 49) (lv' := [(0, .ref (a + 1)), (1, .ref (sa_ E w0)), (2, .int i1), (3, .int i2), (4, .int v4_b32)]) (st' := [.ref (a + 1), .int (sch_ w0 (i1 + v4_b32))]) [(48, .aload_n 0, 1, .null)] (by decide +kernel) rfl ?_
              obtain ⟨g8, hm⟩ := gd_x hm
              refine aw_gl (v := .ref a) a 1 h0 eo_B_1 fgX3_18 (tx_ok g8) (by decide +kernel) ?_
              refine aw_b (pc' := 53) (lv' := [(0, .ref (a + 1)), (1, .ref (sa_ E w0)), (2, .int i1), (3, .int i2), (4, .int v4_b32)]) (st' := [.ref (a + 1), .ref a, .int (sch_ w0 (i1 + v4_b32))]) [(52, .aload_n 0, 1, .null)] (by decide +kernel) rfl ?_
              refine aw_gl (v := .int (s 1 4)) a 1 h0 eo_B_1 fgX3_35 rfl (by decide +kernel) ?_
              refine aw_b (pc' := 59) (lv' := [(0, .ref (a + 1)), (1, .ref (sa_ E w0)), (2, .int i1), (3, .int i2), (4, .int v4_b32)]) (st' := [.int ((s 1 4) + v4_b32), .ref a, .int (sch_ w0 (i1 + v4_b32))]) [(56, .iload 4, 2, .null), (58, .iadd, 1, .null)] (by decide +kernel) rfl ?_
              obtain ⟨g9, hm⟩ := gd_x hm
              refine aw_bal a 0 h0 rfl g9 (by decide +kernel) ?_
              refine aw_ic_eq (off := 5) 65 (by decide) (by decide +kernel) (fun hc => ?_) (fun hc => ?_)
              · have hm := (if_pos hc).symm.trans hm
                refine aw_b (pc' := 32) (lv' := [(4, .int (v4_b32 + (1 : Int32))), (0, .ref (a + 1)), (1, .ref (sa_ E w0)), (2, .int i1), (3, .int i2)]) (st' := []) [(65, .iinc 4 1, 3, .int (1 : Int32)), (68, .goto (-36), 3, .null)] (by decide +kernel) rfl ?_
                cases hm
                refine aw_lv (lv' := [(0, .ref (a + 1)), (1, .ref (sa_ E w0)), (2, .int i1), (3, .int i2), (4, .int (v4_b32 + (1 : Int32)))]) [1, 2, 3, 4, 0] rfl ?_
                exact ih32 (v4_b32 + (1 : Int32)) H4 h0 hs hk32
              · have hm := (if_neg hc).symm.trans hm
                cases hm
                refine aw_lv (lv' := []) [] rfl ?_
                exact X32_63 H4 h0 hs ((congrArg fX3_isToken_k32 (show (.inl ()) = x32 from hk32)).trans hr32)
        refine aw_lv (lv' := [(0, .ref (a + 1)), (1, .ref (sa_ E w0)), (2, .int i1), (3, .int i2), (4, .int (0 : Int32))]) [1, 2, 3, 4, 0] rfl ?_
        exact L32 FU_ (0 : Int32) H1 h0 hs hx32
      · have hm := (if_neg hc).symm.trans hm
        refine aw_b (pc' := 28) (lv' := [(0, .ref (a + 1)), (1, .ref (sa_ E w0)), (2, .int i1), (3, .int i2)]) (st' := [.int (0 : Int32)]) [(27, .iconst 0, 1, .int (0 : Int32))] (by decide +kernel) rfl ?_
        obtain rfl := Option.some.inj hm
        subst hQ
        exact aw_zret rfl (by decide +kernel) (Nat.zero_le _) (Nat.zero_le _) (by decide +kernel) ⟨rfl, hs⟩
def mX3_placeIn : mt_ := (yX3_placeIn, cX3_placeIn, 5, some .int, [], { frames := 7, locals := 184, cells := 0, slots := 0 })
theorem ckX3_placeIn : cokV_ mX3_placeIn := ⟨⟨(uw_mem 651 (by decide +kernel) (by decide +kernel)), (uw_mem 30 (by decide +kernel) (by decide +kernel)), by decide +kernel, by decide +kernel⟩, (uw_mem 650 (by decide +kernel) (by decide +kernel)), (uw_mem 4 (by decide +kernel) (by decide +kernel))⟩
theorem nkX3_placeIn : nok_ mX3_placeIn 1 := by decide +kernel
theorem lkX3_159 : Cond.methodLink RX3 159 yX3_isToken ∈ uw_ := (uw_mem 654 (by decide +kernel) (by decide +kernel))
theorem kX3_placeIn {E : ev_} {H : Heap} {a : Nat} {s : st_} {w0 : Nat} {r : Int32} (hm : fX3_placeIn s w0 = some r) (h0 : has_ E H a ly_B s) (hx_w0 : sxb_ w0 = true) : sp_ E mX3_placeIn [.ref (a + 1), .ref (sa_ E w0)] H (po1 (.inl (some (.int r))) (fun Hn => sm_ H Hn 0 0)) := by
  refine sp_of (by decide +kernel) rfl rfl ?_
  generalize hQ : po1 _ _ = Q
  have hs : sm_ H H 0 0 := sm_.rfl'
  unfold fX3_placeIn at hm
  refine aw_lv (lv' := [(0, .ref (a + 1)), (1, .ref (sa_ E w0))]) [0, 1] rfl ?_
  refine aw_b (pc' := 7) (lv' := [(4, .int (0 : Int32)), (3, .int (0 : Int32)), (2, .int (0 : Int32)), (0, .ref (a + 1)), (1, .ref (sa_ E w0))]) (st' := []) [(0, .iconst 0, 1, .int (0 : Int32)), (1, .istore_n 2, 1, .null), (2, .iconst 0, 1, .int (0 : Int32)), (3, .istore_n 3, 1, .null), (4, .iconst 0, 1, .int (0 : Int32)), (5, .istore 4, 2, .null)] (by decide +kernel) rfl ?_
  obtain ⟨x7, hx7, hr7⟩ := bn_x hm
  have X7_63 : ∀ (H_x7_63 : Heap), has_ E H_x7_63 a ly_B s → sm_ H H_x7_63 0 0 → fX3_placeIn_x7_63 = some r → aw E mX3_placeIn Q 63 [] [] H_x7_63 0 0 := by
    intro H_x7_63 h0 hs hm
    unfold fX3_placeIn_x7_63 at hm
    refine aw_b (pc' := 64) (lv' := []) (st' := [.int (-1 : Int32)]) [(63, .iconst (-1), 1, .int (-1 : Int32))] (by decide +kernel) rfl ?_
    obtain rfl := Option.some.inj hm
    subst hQ
    exact aw_iret rfl (Nat.zero_le _) (Nat.zero_le _) (by decide +kernel) ⟨rfl, hs⟩
  have X7_47 : ∀ (v2_x7_47 : Int32) (H_x7_47 : Heap), has_ E H_x7_47 a ly_B s → sm_ H H_x7_47 0 0 → fX3_placeIn_x7_47 v2_x7_47 = some r → aw E mX3_placeIn Q 47 [(2, .int v2_x7_47)] [] H_x7_47 0 0 := by
    intro v2_x7_47 H_x7_47 h0 hs hm
    unfold fX3_placeIn_x7_47 at hm
    refine aw_b (pc' := 48) (lv' := [(2, .int v2_x7_47)]) (st' := [.int v2_x7_47]) [(47, .iload_n 2, 1, .null)] (by decide +kernel) rfl ?_
    obtain rfl := Option.some.inj hm
    subst hQ
    exact aw_iret rfl (Nat.zero_le _) (Nat.zero_le _) (by decide +kernel) ⟨rfl, hs⟩
  have L7 : ∀ (fu : Nat) (v2_b7 : Int32) (v3_b7 : Int32) (v4_b7 : Int32) (H_b7 : Heap), has_ E H_b7 a ly_B s → sm_ H H_b7 0 0 → fX3_placeIn_l7 s w0 fu (v2_b7, v3_b7, v4_b7) = some x7 → aw E mX3_placeIn Q 7 [(0, .ref (a + 1)), (1, .ref (sa_ E w0)), (2, .int v2_b7), (3, .int v3_b7), (4, .int v4_b7)] [] H_b7 0 0 := by
    intro fu
    induction fu with
    | zero =>
      intro v2_b7 v3_b7 v4_b7 H_b7 h0 hs hm
      exact (it_0 hm).elim
    | succ fu ih7 =>
      intro v2_b7 v3_b7 v4_b7 H_b7 h0 hs hm
      obtain ⟨y7, hm, hk7⟩ := it_s hm
      have hm : fX3_placeIn_b7 s w0 v2_b7 v3_b7 v4_b7 = some y7 := hm
      unfold fX3_placeIn_b7 at hm
      refine aw_b (pc' := 10) (lv' := [(0, .ref (a + 1)), (1, .ref (sa_ E w0)), (2, .int v2_b7), (3, .int v3_b7), (4, .int v4_b7)]) (st' := [.ref (sa_ E w0), .int v4_b7]) [(7, .iload 4, 2, .null), (9, .aload_n 1, 1, .null)] (by decide +kernel) rfl ?_
      obtain ⟨g3, hm⟩ := gd_x hm
      refine aw_sln (rest := [.int v4_b7]) w0 hx_w0 lkX3_150 rfl rfl (Nat.le_of_ble_eq_true rfl) (Nat.zero_le _) (Nat.zero_le _) (by decide +kernel) (fun H1 z2 => ?_)
      have h0 := h0.kept0 z2
      have hs := hs.step0 z2
      refine aw_ic_gt (off := 50) 63 (by decide) (by decide +kernel) (fun hc => ?_) (fun hc => ?_)
      · have hm := (if_pos hc).symm.trans hm
        cases hm
        refine aw_lv (lv' := []) [] rfl ?_
        exact X7_63 H1 h0 hs ((congrArg fX3_placeIn_k7 (show (.inr ()) = x7 from hk7)).trans hr7)
      · have hm := (if_neg hc).symm.trans hm
        refine aw_b (pc' := 19) (lv' := [(0, .ref (a + 1)), (1, .ref (sa_ E w0)), (2, .int v2_b7), (3, .int v3_b7), (4, .int v4_b7)]) (st' := [.ref (sa_ E w0), .int v4_b7]) [(16, .iload 4, 2, .null), (18, .aload_n 1, 1, .null)] (by decide +kernel) rfl ?_
        obtain ⟨g6, hm⟩ := gd_x hm
        refine aw_sln (rest := [.int v4_b7]) w0 hx_w0 lkX3_150 rfl rfl (Nat.le_of_ble_eq_true rfl) (Nat.zero_le _) (Nat.zero_le _) (by decide +kernel) (fun H4 z5 => ?_)
        have h0 := h0.kept0 z5
        have hs := hs.step0 z5
        have J57 : ∀ (v2_j57 : Int32) (v3_j57 : Int32) (H_j57 : Heap), has_ E H_j57 a ly_B s → sm_ H H_j57 0 0 → fX3_placeIn_j57 v4_b7 v2_j57 v3_j57 = some y7 → aw E mX3_placeIn Q 57 [(0, .ref (a + 1)), (1, .ref (sa_ E w0)), (2, .int v2_j57), (3, .int v3_j57), (4, .int v4_b7)] [] H_j57 0 0 := by
          intro v2_j57 v3_j57 H_j57 h0 hs hm
          unfold fX3_placeIn_j57 at hm
          refine aw_b (pc' := 7) (lv' := [(4, .int (v4_b7 + (1 : Int32))), (0, .ref (a + 1)), (1, .ref (sa_ E w0)), (2, .int v2_j57), (3, .int v3_j57)]) (st' := []) [(57, .iinc 4 1, 3, .int (1 : Int32)), (60, .goto (-53), 3, .null)] (by decide +kernel) rfl ?_
          cases hm
          refine aw_lv (lv' := [(0, .ref (a + 1)), (1, .ref (sa_ E w0)), (2, .int v2_j57), (3, .int v3_j57), (4, .int (v4_b7 + (1 : Int32)))]) [1, 2, 3, 4, 0] rfl ?_
          exact ih7 v2_j57 v3_j57 (v4_b7 + (1 : Int32)) H_j57 h0 hs hk7
        have J36 : ∀ (H_j36 : Heap), has_ E H_j36 a ly_B s → sm_ H H_j36 0 0 → fX3_placeIn_j36 s w0 v2_b7 v3_b7 v4_b7 = some y7 → aw E mX3_placeIn Q 36 [(0, .ref (a + 1)), (1, .ref (sa_ E w0)), (2, .int v2_b7), (3, .int v3_b7), (4, .int v4_b7)] [] H_j36 0 0 := by
          intro H_j36 h0 hs hm
          unfold fX3_placeIn_j36 at hm
          refine aw_b (pc' := 41) (lv' := [(0, .ref (a + 1)), (1, .ref (sa_ E w0)), (2, .int v2_b7), (3, .int v3_b7), (4, .int v4_b7)]) (st' := [.int v4_b7, .int v3_b7, .ref (sa_ E w0), .ref (a + 1)]) [(36, .aload_n 0, 1, .null), (37, .aload_n 1, 1, .null), (38, .iload_n 3, 1, .null), (39, .iload 4, 2, .null)] (by decide +kernel) rfl ?_
          obtain ⟨r7, e8, hm⟩ := bn_x hm
          refine aw_cv (rest := []) (st1 := [.int r7]) a 1 (kX3_isToken e8 h0 hx_w0) rfl rfl ckX3_isToken lkX3_159 h0 eo_B_1 ⟨_, _, rfl⟩ nkX3_isToken rfl rfl rfl (Nat.le_of_ble_eq_true rfl) (Nat.zero_le _) (Nat.zero_le _) (by decide +kernel) (fun H9 z10 => ?_)
          have h0 := h0.kept0 z10
          have hs := hs.step0 z10
          refine aw_if_eq (off := 5) 49 (by decide) (by decide +kernel) (fun hc => ?_) (fun hc => ?_)
          · have hm := (if_pos hc).symm.trans hm
            refine aw_b (pc' := 57) (lv' := [(3, .int (v4_b7 + (1 : Int32))), (2, .int (v2_b7 + (1 : Int32))), (0, .ref (a + 1)), (1, .ref (sa_ E w0)), (4, .int v4_b7)]) (st' := []) [(49, .iinc 2 1, 3, .int (1 : Int32)), (52, .iload 4, 2, .null), (54, .iconst 1, 1, .int (1 : Int32)), (55, .iadd, 1, .null), (56, .istore_n 3, 1, .null)] (by decide +kernel) rfl ?_
            refine aw_lv (lv' := [(0, .ref (a + 1)), (1, .ref (sa_ E w0)), (2, .int (v2_b7 + (1 : Int32))), (3, .int (v4_b7 + (1 : Int32))), (4, .int v4_b7)]) [2, 3, 1, 0, 4] rfl ?_
            exact J57 (v2_b7 + (1 : Int32)) (v4_b7 + (1 : Int32)) H9 h0 hs hm
          · have hm := (if_neg hc).symm.trans hm
            cases hm
            refine aw_lv (lv' := [(2, .int v2_b7)]) [2] rfl ?_
            exact X7_47 v2_b7 H9 h0 hs ((congrArg fX3_placeIn_k7 (show (.inl v2_b7) = x7 from hk7)).trans hr7)
        refine aw_ic_eq (off := 14) 36 (by decide) (by decide +kernel) (fun hc => ?_) (fun hc => ?_)
        · have hm := (if_pos hc).symm.trans hm
          exact J36 H4 h0 hs hm
        · have hm := (if_neg hc).symm.trans hm
          refine aw_b (pc' := 28) (lv' := [(0, .ref (a + 1)), (1, .ref (sa_ E w0)), (2, .int v2_b7), (3, .int v3_b7), (4, .int v4_b7)]) (st' := [.int v4_b7, .ref (sa_ E w0)]) [(25, .aload_n 1, 1, .null), (26, .iload 4, 2, .null)] (by decide +kernel) rfl ?_
          obtain ⟨g13, hm⟩ := gd_x hm
          obtain ⟨g14, hm⟩ := gd_x hm
          refine aw_sch (rest := []) w0 hx_w0 g14 lkX3_155 rfl rfl (Nat.le_of_ble_eq_true rfl) (Nat.zero_le _) (Nat.zero_le _) (by decide +kernel) (fun H11 z12 => ?_)
          have h0 := h0.kept0 z12
          have hs := hs.step0 z12
          refine aw_b (pc' := 33) (lv' := [(0, .ref (a + 1)), (1, .ref (sa_ E w0)), (2, .int v2_b7), (3, .int v3_b7), (4, .int v4_b7)]) (st' := [.int (32 : Int32), .int (sch_ w0 v4_b7)]) [(31, .bipush 32, 2, .int (32 : Int32))] (by decide +kernel) rfl ?_
          refine aw_ic_ne (off := 24) 57 (by decide) (by decide +kernel) (fun hc => ?_) (fun hc => ?_)
          · have hm := (if_neg hc).symm.trans hm
            exact J57 v2_b7 v3_b7 H11 h0 hs hm
          · have hm := (if_pos hc).symm.trans hm
            exact J36 H11 h0 hs hm
  refine aw_lv (lv' := [(0, .ref (a + 1)), (1, .ref (sa_ E w0)), (2, .int (0 : Int32)), (3, .int (0 : Int32)), (4, .int (0 : Int32))]) [3, 4, 2, 1, 0] rfl ?_
  exact L7 FU_ (0 : Int32) (0 : Int32) (0 : Int32) H h0 hs hx7
def mX3_fail : mt_ := (yX3_fail, cX3_fail, 3, none, [], { frames := 0, locals := 0, cells := 0, slots := 0 })
theorem ckX3_fail : cokV_ mX3_fail := ⟨⟨(uw_mem 661 (by decide +kernel) (by decide +kernel)), (uw_mem 30 (by decide +kernel) (by decide +kernel)), by decide +kernel, by decide +kernel⟩, (uw_mem 660 (by decide +kernel) (by decide +kernel)), (uw_mem 6 (by decide +kernel) (by decide +kernel))⟩
theorem nkX3_fail : nok_ mX3_fail 2 := by decide +kernel
theorem fgX3_38 : fok_ RX3 38 3 5 := ⟨_, _, _, rfl, by decide, (uw_mem 182 (by decide +kernel) (by decide +kernel)), wkX3⟩
theorem fpX3_38 : fpk_ RX3 38 3 5 .int := ⟨_, _, _, tyX3, rfl, by decide, (uw_mem 182 (by decide +kernel) (by decide +kernel)), wkX3, tyX3_ok, nmX3, rfl, by decide +kernel⟩
theorem fsq_3_5 : fsp_ fsX3 5 := ⟨fun _ _ => rfl, fun _ _ _ => rfl⟩
theorem fpX3_41 : fpk_ RX3 41 3 6 .int := ⟨_, _, _, tyX3, rfl, by decide, (uw_mem 184 (by decide +kernel) (by decide +kernel)), wkX3, tyX3_ok, nmX3, rfl, by decide +kernel⟩
theorem fsq_3_6 : fsp_ fsX3 6 := ⟨fun _ _ => rfl, fun _ _ _ => rfl⟩
theorem kX3_fail {E : ev_} {H : Heap} {a : Nat} {s : st_} {i0 : Int32} {i1 : Int32} {r : st_} (hm : fX3_fail s i0 i1 = some r) (h0 : has_ E H a ly_B s) (hf : ev_fr E a) : sp_ E mX3_fail [.ref (a + 1), .int i0, .int i1] H (po1 (.inl (none)) (fun Hn => sm_ H Hn a 7 ∧ has_ E Hn a ly_B r)) := by
  refine sp_of (by decide +kernel) rfl rfl ?_
  generalize hQ : po1 _ _ = Q
  have hs : sm_ H H a 7 := sm_.rfl'
  unfold fX3_fail at hm
  refine aw_lv (lv' := [(0, .ref (a + 1)), (1, .int i0), (2, .int i1)]) [0, 1, 2] rfl ?_
  refine aw_b (pc' := 1) (lv' := [(0, .ref (a + 1)), (1, .int i0), (2, .int i1)]) (st' := [.ref (a + 1)]) [(0, .aload_n 0, 1, .null)] (by decide +kernel) rfl ?_
  refine aw_gl (v := .int (s 1 5)) a 1 h0 eo_B_1 fgX3_38 rfl (by decide +kernel) ?_
  refine aw_if_ne (off := 13) 17 (by decide) (by decide +kernel) (fun hc => ?_) (fun hc => ?_)
  · have hm := (if_neg hc).symm.trans hm
    obtain rfl := Option.some.inj hm
    subst hQ
    exact aw_vret rfl (Nat.zero_le _) (Nat.zero_le _) (by decide +kernel) ⟨rfl, hs, h0⟩
  · have hm := (if_pos hc).symm.trans hm
    refine aw_b (pc' := 9) (lv' := [(0, .ref (a + 1)), (1, .int i0), (2, .int i1)]) (st' := [.int i0, .ref (a + 1)]) [(7, .aload_n 0, 1, .null), (8, .iload_n 1, 1, .null)] (by decide +kernel) rfl ?_
    obtain ⟨s1, e2, hm⟩ := bd_x hm
    refine aw_pl a 1 h0 eo_B_1 fsq_3_5 fpX3_38 hf rfl rfl e2 (by decide +kernel) (fun H3 h0 z4 => ?_)
    have hs := hs.step z4 (by omega) (by omega)
    refine aw_b (pc' := 14) (lv' := [(0, .ref (a + 1)), (1, .int i0), (2, .int i1)]) (st' := [.int i1, .ref (a + 1)]) [(12, .aload_n 0, 1, .null), (13, .iload_n 2, 1, .null)] (by decide +kernel) rfl ?_
    obtain ⟨s5, e6, hm⟩ := bd_x hm
    refine aw_pl a 1 h0 eo_B_1 fsq_3_6 fpX3_41 hf rfl rfl e6 (by decide +kernel) (fun H7 h0 z8 => ?_)
    have hs := hs.step z8 (by omega) (by omega)
    obtain rfl := Option.some.inj hm
    subst hQ
    exact aw_vret rfl (Nat.zero_le _) (Nat.zero_le _) (by decide +kernel) ⟨rfl, hs, h0⟩
def mX3_readWord : mt_ := (yX3_readWord, cX3_readWord, 3, some .int, [], { frames := 8, locals := 208, cells := 0, slots := 0 })
theorem ckX3_readWord : cokV_ mX3_readWord := ⟨⟨(uw_mem 643 (by decide +kernel) (by decide +kernel)), (uw_mem 30 (by decide +kernel) (by decide +kernel)), by decide +kernel, by decide +kernel⟩, (uw_mem 642 (by decide +kernel) (by decide +kernel)), (uw_mem 2 (by decide +kernel) (by decide +kernel))⟩
theorem nkX3_readWord : nok_ mX3_readWord 1 := by decide +kernel
theorem lkX3_60 : Cond.methodLink RX3 60 yX3_skipSpaces ∈ uw_ := (uw_mem 644 (by decide +kernel) (by decide +kernel))
theorem fpX3_35 : fpk_ RX3 35 3 4 .int := ⟨_, _, _, tyX3, rfl, by decide, (uw_mem 181 (by decide +kernel) (by decide +kernel)), wkX3, tyX3_ok, nmX3, rfl, by decide +kernel⟩
theorem fsq_3_4 : fsp_ fsX3 4 := ⟨fun _ _ => rfl, fun _ _ _ => rfl⟩
theorem lkX3_147 : Cond.methodLink RX3 147 yX3_placeIn ∈ uw_ := (uw_mem 648 (by decide +kernel) (by decide +kernel))
theorem lkX3_63 : Cond.methodLink RX3 63 yX3_fail ∈ uw_ := (uw_mem 658 (by decide +kernel) (by decide +kernel))
theorem kX3_readWord {E : ev_} {H : Heap} {a : Nat} {s : st_} {w0 : Nat} {r : st_ × Int32} (hm : fX3_readWord s w0 = some r) (h0 : has_ E H a ly_B s) (hx_w0 : sxb_ w0 = true) (hf : ev_fr E a) : sp_ E mX3_readWord [.ref (a + 1), .ref (sa_ E w0)] H (po1 (.inl (some (.int r.2))) (fun Hn => sm_ H Hn a 7 ∧ has_ E Hn a ly_B r.1)) := by
  refine sp_of (by decide +kernel) rfl rfl ?_
  generalize hQ : po1 _ _ = Q
  have hs : sm_ H H a 7 := sm_.rfl'
  unfold fX3_readWord at hm
  refine aw_lv (lv' := [(0, .ref (a + 1)), (1, .ref (sa_ E w0))]) [0, 1] rfl ?_
  refine aw_b (pc' := 1) (lv' := [(0, .ref (a + 1)), (1, .ref (sa_ E w0))]) (st' := [.ref (a + 1)]) [(0, .aload_n 0, 1, .null)] (by decide +kernel) rfl ?_
  refine aw_gl (v := .int (s 1 5)) a 1 h0 eo_B_1 fgX3_38 rfl (by decide +kernel) ?_
  refine aw_if_eq (off := 5) 9 (by decide) (by decide +kernel) (fun hc => ?_) (fun hc => ?_)
  · have hm := (if_pos hc).symm.trans hm
    refine aw_b (pc' := 10) (lv' := [(0, .ref (a + 1)), (1, .ref (sa_ E w0))]) (st' := [.ref (a + 1)]) [(9, .aload_n 0, 1, .null)] (by decide +kernel) rfl ?_
    obtain ⟨r1, e2, hm⟩ := bn_x hm
    refine aw_cv (rest := []) (st1 := []) a 1 (kX3_skipSpaces e2 h0 hf) rfl rfl ckX3_skipSpaces lkX3_60 h0 eo_B_1 ⟨_, _, rfl⟩ nkX3_skipSpaces rfl rfl rfl (Nat.le_of_ble_eq_true rfl) (Nat.zero_le _) (Nat.zero_le _) (by decide +kernel) (fun H3 z4 => ?_)
    obtain ⟨z4, hn⟩ := z4
    have h0 := hn
    have hs := hs.step z4 (by omega) (by omega)
    refine aw_b (pc' := 15) (lv' := [(0, .ref (a + 1)), (1, .ref (sa_ E w0))]) (st' := [.ref (a + 1), .ref (a + 1)]) [(13, .aload_n 0, 1, .null), (14, .aload_n 0, 1, .null)] (by decide +kernel) rfl ?_
    refine aw_gl (v := .int (r1 1 3)) a 1 h0 eo_B_1 fgX3_32 rfl (by decide +kernel) ?_
    obtain ⟨s5, e6, hm⟩ := bd_x hm
    refine aw_pl a 1 h0 eo_B_1 fsq_3_4 fpX3_35 hf rfl rfl e6 (by decide +kernel) (fun H7 h0 z8 => ?_)
    have hs := hs.step z8 (by omega) (by omega)
    obtain ⟨x21, hx21, hr21⟩ := bn_x hm
    have X21_73 : ∀ (s_x21_73 : st_) (H_x21_73 : Heap), has_ E H_x21_73 a ly_B s_x21_73 → sm_ H H_x21_73 a 7 → fX3_readWord_x21_73 w0 s_x21_73 = some r → aw E mX3_readWord Q 73 [(0, .ref (a + 1)), (1, .ref (sa_ E w0))] [] H_x21_73 0 0 := by
      intro s_x21_73 H_x21_73 h0 hs hm
      unfold fX3_readWord_x21_73 at hm
      refine aw_b (pc' := 75) (lv' := [(0, .ref (a + 1)), (1, .ref (sa_ E w0))]) (st' := [.ref (sa_ E w0), .ref (a + 1)]) [(73, .aload_n 0, 1, .null), (74, .aload_n 1, 1, .null)] (by decide +kernel) rfl ?_
      obtain ⟨r9, e10, hm⟩ := bn_x hm
      refine aw_cv (rest := []) (st1 := [.int r9]) a 1 (kX3_placeIn e10 h0 hx_w0) rfl rfl ckX3_placeIn lkX3_147 h0 eo_B_1 ⟨_, _, rfl⟩ nkX3_placeIn rfl rfl rfl (Nat.le_of_ble_eq_true rfl) (Nat.zero_le _) (Nat.zero_le _) (by decide +kernel) (fun H11 z12 => ?_)
      have h0 := h0.kept0 z12
      have hs := hs.step0 z12
      refine aw_b (pc' := 81) (lv' := [(2, .int r9), (0, .ref (a + 1)), (1, .ref (sa_ E w0))]) (st' := [.int (-1 : Int32), .int r9]) [(78, .istore_n 2, 1, .null), (79, .iload_n 2, 1, .null), (80, .iconst (-1), 1, .int (-1 : Int32))] (by decide +kernel) rfl ?_
      refine aw_ic_ne (off := 12) 93 (by decide) (by decide +kernel) (fun hc => ?_) (fun hc => ?_)
      · have hm := (if_neg hc).symm.trans hm
        refine aw_b (pc' := 94) (lv' := [(2, .int r9), (0, .ref (a + 1)), (1, .ref (sa_ E w0))]) (st' := [.int r9]) [(93, .iload_n 2, 1, .null)] (by decide +kernel) rfl ?_
        obtain rfl := Option.some.inj hm
        subst hQ
        exact aw_iret rfl (Nat.zero_le _) (Nat.zero_le _) (by decide +kernel) ⟨rfl, hs, h0⟩
      · have hm := (if_pos hc).symm.trans hm
        refine aw_b (pc' := 87) (lv' := [(2, .int r9), (0, .ref (a + 1)), (1, .ref (sa_ E w0))]) (st' := [.ref (a + 1), .int (1 : Int32), .ref (a + 1)]) [(84, .aload_n 0, 1, .null), (85, .iconst 1, 1, .int (1 : Int32)), (86, .aload_n 0, 1, .null)] (by decide +kernel) rfl ?_
        refine aw_gl (v := .int (s_x21_73 1 4)) a 1 h0 eo_B_1 fgX3_35 rfl (by decide +kernel) ?_
        obtain ⟨r13, e14, hm⟩ := bn_x hm
        refine aw_cv (rest := []) (st1 := []) a 1 (kX3_fail e14 h0 hf) rfl rfl ckX3_fail lkX3_63 h0 eo_B_1 ⟨_, _, rfl⟩ nkX3_fail rfl rfl rfl (Nat.le_of_ble_eq_true rfl) (Nat.zero_le _) (Nat.zero_le _) (by decide +kernel) (fun H15 z16 => ?_)
        obtain ⟨z16, hn⟩ := z16
        have h0 := hn
        have hs := hs.step z16 (by omega) (by omega)
        refine aw_b (pc' := 94) (lv' := [(2, .int r9), (0, .ref (a + 1)), (1, .ref (sa_ E w0))]) (st' := [.int r9]) [(93, .iload_n 2, 1, .null)] (by decide +kernel) rfl ?_
        obtain rfl := Option.some.inj hm
        subst hQ
        exact aw_iret rfl (Nat.zero_le _) (Nat.zero_le _) (by decide +kernel) ⟨rfl, hs, h0⟩
    have L21 : ∀ (fu : Nat) (s_b21 : st_) (H_b21 : Heap), has_ E H_b21 a ly_B s_b21 → sm_ H H_b21 a 7 → fX3_readWord_l21 fu s_b21 = some x21 → aw E mX3_readWord Q 21 [(0, .ref (a + 1)), (1, .ref (sa_ E w0))] [] H_b21 0 0 := by
      intro fu
      induction fu with
      | zero =>
        intro s_b21 H_b21 h0 hs hm
        exact (it_0 hm).elim
      | succ fu ih21 =>
        intro s_b21 H_b21 h0 hs hm
        obtain ⟨y21, hm, hk21⟩ := it_s hm
        have hm : fX3_readWord_b21 s_b21 = some y21 := hm
        unfold fX3_readWord_b21 at hm
        refine aw_b (pc' := 22) (lv' := [(0, .ref (a + 1)), (1, .ref (sa_ E w0))]) (st' := [.ref (a + 1)]) [(21, .aload_n 0, 1, .null)] (by decide +kernel) rfl ?_
        refine aw_gl (v := .int (s_b21 1 3)) a 1 h0 eo_B_1 fgX3_32 rfl (by decide +kernel) ?_
        refine aw_b (pc' := 26) (lv' := [(0, .ref (a + 1)), (1, .ref (sa_ E w0))]) (st' := [.ref (a + 1), .int (s_b21 1 3)]) [(25, .aload_n 0, 1, .null)] (by decide +kernel) rfl ?_
        refine aw_gl (v := .int (s_b21 1 2)) a 1 h0 eo_B_1 fgX3_28 rfl (by decide +kernel) ?_
        refine aw_ic_ge (off := 44) 73 (by decide) (by decide +kernel) (fun hc => ?_) (fun hc => ?_)
        · have hm := (if_pos hc).symm.trans hm
          cases hm
          exact X21_73 s_b21 H_b21 h0 hs ((congrArg (fX3_readWord_k21 w0) (show (s_b21) = x21 from hk21)).trans hr21)
        · have hm := (if_neg hc).symm.trans hm
          refine aw_b (pc' := 33) (lv' := [(0, .ref (a + 1)), (1, .ref (sa_ E w0))]) (st' := [.ref (a + 1)]) [(32, .aload_n 0, 1, .null)] (by decide +kernel) rfl ?_
          obtain ⟨g17, hm⟩ := gd_x hm
          refine aw_gl (v := .ref a) a 1 h0 eo_B_1 fgX3_18 (tx_ok g17) (by decide +kernel) ?_
          refine aw_b (pc' := 37) (lv' := [(0, .ref (a + 1)), (1, .ref (sa_ E w0))]) (st' := [.ref (a + 1), .ref a]) [(36, .aload_n 0, 1, .null)] (by decide +kernel) rfl ?_
          refine aw_gl (v := .int (s_b21 1 3)) a 1 h0 eo_B_1 fgX3_32 rfl (by decide +kernel) ?_
          obtain ⟨g18, hm⟩ := gd_x hm
          refine aw_bal a 0 h0 rfl g18 (by decide +kernel) ?_
          refine aw_b (pc' := 43) (lv' := [(0, .ref (a + 1)), (1, .ref (sa_ E w0))]) (st' := [.int (97 : Int32), .int (s_b21 0 (ix_ (s_b21 1 3)))]) [(41, .bipush 97, 2, .int (97 : Int32))] (by decide +kernel) rfl ?_
          refine aw_ic_lt (off := 30) 73 (by decide) (by decide +kernel) (fun hc => ?_) (fun hc => ?_)
          · have hm := (if_pos hc).symm.trans hm
            cases hm
            exact X21_73 s_b21 H_b21 h0 hs ((congrArg (fX3_readWord_k21 w0) (show (s_b21) = x21 from hk21)).trans hr21)
          · have hm := (if_neg hc).symm.trans hm
            refine aw_b (pc' := 47) (lv' := [(0, .ref (a + 1)), (1, .ref (sa_ E w0))]) (st' := [.ref (a + 1)]) [(46, .aload_n 0, 1, .null)] (by decide +kernel) rfl ?_
            obtain ⟨g19, hm⟩ := gd_x hm
            refine aw_gl (v := .ref a) a 1 h0 eo_B_1 fgX3_18 (tx_ok g19) (by decide +kernel) ?_
            refine aw_b (pc' := 51) (lv' := [(0, .ref (a + 1)), (1, .ref (sa_ E w0))]) (st' := [.ref (a + 1), .ref a]) [(50, .aload_n 0, 1, .null)] (by decide +kernel) rfl ?_
            refine aw_gl (v := .int (s_b21 1 3)) a 1 h0 eo_B_1 fgX3_32 rfl (by decide +kernel) ?_
            obtain ⟨g20, hm⟩ := gd_x hm
            refine aw_bal a 0 h0 rfl g20 (by decide +kernel) ?_
            refine aw_b (pc' := 57) (lv' := [(0, .ref (a + 1)), (1, .ref (sa_ E w0))]) (st' := [.int (122 : Int32), .int (s_b21 0 (ix_ (s_b21 1 3)))]) [(55, .bipush 122, 2, .int (122 : Int32))] (by decide +kernel) rfl ?_
            refine aw_ic_gt (off := 16) 73 (by decide) (by decide +kernel) (fun hc => ?_) (fun hc => ?_)
            · have hm := (if_pos hc).symm.trans hm
              cases hm
              exact X21_73 s_b21 H_b21 h0 hs ((congrArg (fX3_readWord_k21 w0) (show (s_b21) = x21 from hk21)).trans hr21)
            · have hm := (if_neg hc).symm.trans hm
              refine aw_b (pc' := 62) (lv' := [(0, .ref (a + 1)), (1, .ref (sa_ E w0))]) (st' := [.ref (a + 1), .ref (a + 1)]) [(60, .aload_n 0, 1, .null), (61, .dup, 1, .null)] (by decide +kernel) rfl ?_
              refine aw_gl (v := .int (s_b21 1 3)) a 1 h0 eo_B_1 fgX3_32 rfl (by decide +kernel) ?_
              refine aw_b (pc' := 67) (lv' := [(0, .ref (a + 1)), (1, .ref (sa_ E w0))]) (st' := [.int ((s_b21 1 3) + (1 : Int32)), .ref (a + 1)]) [(65, .iconst 1, 1, .int (1 : Int32)), (66, .iadd, 1, .null)] (by decide +kernel) rfl ?_
              obtain ⟨s21, e22, hm⟩ := bd_x hm
              refine aw_pl a 1 h0 eo_B_1 fsq_3_3 fpX3_32 hf rfl rfl e22 (by decide +kernel) (fun H23 h0 z24 => ?_)
              have hs := hs.step z24 (by omega) (by omega)
              refine aw_b (pc' := 21) (lv' := [(0, .ref (a + 1)), (1, .ref (sa_ E w0))]) (st' := []) [(70, .goto (-49), 3, .null)] (by decide +kernel) rfl ?_
              cases hm
              exact ih21 s21 H23 h0 hs hk21
    exact L21 FU_ s5 H7 h0 hs hx21
  · have hm := (if_neg hc).symm.trans hm
    refine aw_b (pc' := 8) (lv' := [(0, .ref (a + 1)), (1, .ref (sa_ E w0))]) (st' := [.int (-1 : Int32)]) [(7, .iconst (-1), 1, .int (-1 : Int32))] (by decide +kernel) rfl ?_
    obtain rfl := Option.some.inj hm
    subst hQ
    exact aw_iret rfl (Nat.zero_le _) (Nat.zero_le _) (by decide +kernel) ⟨rfl, hs, h0⟩
def mX3_readNumber : mt_ := (yX3_readNumber, cX3_readNumber, 4, some .int, [], { frames := 1, locals := 24, cells := 0, slots := 0 })
theorem ckX3_readNumber : cokV_ mX3_readNumber := ⟨⟨(uw_mem 665 (by decide +kernel) (by decide +kernel)), (uw_mem 30 (by decide +kernel) (by decide +kernel)), by decide +kernel, by decide +kernel⟩, (uw_mem 664 (by decide +kernel) (by decide +kernel)), (uw_mem 7 (by decide +kernel) (by decide +kernel))⟩
theorem nkX3_readNumber : nok_ mX3_readNumber 2 := by decide +kernel
theorem kwX3_163 : Cond.constant RX3 163 (1000000 : Int32) ∈ uw_ := (uw_mem 666 (by decide +kernel) (by decide +kernel))
theorem mtX3_22 : ml_ RX3 22 Lib.Math.min.name Lib.Math.min.code 2 .int := ⟨(uw_mem 631 (by decide +kernel) (by decide +kernel)), (uw_mem 632 (by decide +kernel) (by decide +kernel)), (uw_mem 38 (by decide +kernel) (by decide +kernel)), (uw_mem 633 (by decide +kernel) (by decide +kernel))⟩
theorem kX3_readNumber {E : ev_} {H : Heap} {a : Nat} {s : st_} {i0 : Int32} {i1 : Int32} {r : st_ × Int32} (hm : fX3_readNumber s i0 i1 = some r) (h0 : has_ E H a ly_B s) (hf : ev_fr E a) : sp_ E mX3_readNumber [.ref (a + 1), .int i0, .int i1] H (po1 (.inl (some (.int r.2))) (fun Hn => sm_ H Hn a 7 ∧ has_ E Hn a ly_B r.1)) := by
  refine sp_of (by decide +kernel) rfl rfl ?_
  generalize hQ : po1 _ _ = Q
  have hs : sm_ H H a 7 := sm_.rfl'
  unfold fX3_readNumber at hm
  refine aw_lv (lv' := [(0, .ref (a + 1)), (1, .int i0), (2, .int i1)]) [0, 1, 2] rfl ?_
  refine aw_b (pc' := 1) (lv' := [(0, .ref (a + 1)), (1, .int i0), (2, .int i1)]) (st' := [.ref (a + 1)]) [(0, .aload_n 0, 1, .null)] (by decide +kernel) rfl ?_
  refine aw_gl (v := .int (s 1 5)) a 1 h0 eo_B_1 fgX3_38 rfl (by decide +kernel) ?_
  refine aw_if_eq (off := 5) 9 (by decide) (by decide +kernel) (fun hc => ?_) (fun hc => ?_)
  · have hm := (if_pos hc).symm.trans hm
    refine aw_b (pc' := 10) (lv' := [(0, .ref (a + 1)), (1, .int i0), (2, .int i1)]) (st' := [.ref (a + 1)]) [(9, .aload_n 0, 1, .null)] (by decide +kernel) rfl ?_
    obtain ⟨r1, e2, hm⟩ := bn_x hm
    refine aw_cv (rest := []) (st1 := []) a 1 (kX3_skipSpaces e2 h0 hf) rfl rfl ckX3_skipSpaces lkX3_60 h0 eo_B_1 ⟨_, _, rfl⟩ nkX3_skipSpaces rfl rfl rfl (Nat.le_of_ble_eq_true rfl) (Nat.zero_le _) (Nat.zero_le _) (by decide +kernel) (fun H3 z4 => ?_)
    obtain ⟨z4, hn⟩ := z4
    have h0 := hn
    have hs := hs.step z4 (by omega) (by omega)
    refine aw_b (pc' := 15) (lv' := [(0, .ref (a + 1)), (1, .int i0), (2, .int i1)]) (st' := [.ref (a + 1), .ref (a + 1)]) [(13, .aload_n 0, 1, .null), (14, .aload_n 0, 1, .null)] (by decide +kernel) rfl ?_
    refine aw_gl (v := .int (r1 1 3)) a 1 h0 eo_B_1 fgX3_32 rfl (by decide +kernel) ?_
    obtain ⟨s5, e6, hm⟩ := bd_x hm
    refine aw_pl a 1 h0 eo_B_1 fsq_3_4 fpX3_35 hf rfl rfl e6 (by decide +kernel) (fun H7 h0 z8 => ?_)
    have hs := hs.step z8 (by omega) (by omega)
    refine aw_b (pc' := 23) (lv' := [(3, .int (0 : Int32)), (0, .ref (a + 1)), (1, .int i0), (2, .int i1)]) (st' := []) [(21, .iconst 0, 1, .int (0 : Int32)), (22, .istore_n 3, 1, .null)] (by decide +kernel) rfl ?_
    obtain ⟨x23, hx23, hr23⟩ := bn_x hm
    have X23_98 : ∀ (v3_x23_98 : Int32) (s_x23_98 : st_) (H_x23_98 : Heap), has_ E H_x23_98 a ly_B s_x23_98 → sm_ H H_x23_98 a 7 → fX3_readNumber_x23_98 i0 i1 v3_x23_98 s_x23_98 = some r → aw E mX3_readNumber Q 98 [(0, .ref (a + 1)), (1, .int i0), (2, .int i1), (3, .int v3_x23_98)] [] H_x23_98 0 0 := by
      intro v3_x23_98 s_x23_98 H_x23_98 h0 hs hm
      unfold fX3_readNumber_x23_98 at hm
      refine aw_b (pc' := 99) (lv' := [(0, .ref (a + 1)), (1, .int i0), (2, .int i1), (3, .int v3_x23_98)]) (st' := [.ref (a + 1)]) [(98, .aload_n 0, 1, .null)] (by decide +kernel) rfl ?_
      refine aw_gl (v := .int (s_x23_98 1 3)) a 1 h0 eo_B_1 fgX3_32 rfl (by decide +kernel) ?_
      refine aw_b (pc' := 103) (lv' := [(0, .ref (a + 1)), (1, .int i0), (2, .int i1), (3, .int v3_x23_98)]) (st' := [.ref (a + 1), .int (s_x23_98 1 3)]) [(102, .aload_n 0, 1, .null)] (by decide +kernel) rfl ?_
      refine aw_gl (v := .int (s_x23_98 1 4)) a 1 h0 eo_B_1 fgX3_35 rfl (by decide +kernel) ?_
      refine aw_ic_ne (off := 15) 121 (by decide) (by decide +kernel) (fun hc => ?_) (fun hc => ?_)
      · have hm := (if_neg hc).symm.trans hm
        refine aw_b (pc' := 123) (lv' := [(0, .ref (a + 1)), (1, .int i0), (2, .int i1), (3, .int v3_x23_98)]) (st' := [.int i0, .int v3_x23_98]) [(121, .iload_n 3, 1, .null), (122, .iload_n 1, 1, .null)] (by decide +kernel) rfl ?_
        have J131 : ∀ (H_j131 : Heap), has_ E H_j131 a ly_B s_x23_98 → sm_ H H_j131 a 7 → fX3_readNumber_j131 v3_x23_98 s_x23_98 = some r → aw E mX3_readNumber Q 131 [(0, .ref (a + 1)), (3, .int v3_x23_98)] [] H_j131 0 0 := by
          intro H_j131 h0 hs hm
          unfold fX3_readNumber_j131 at hm
          refine aw_b (pc' := 134) (lv' := [(0, .ref (a + 1)), (3, .int v3_x23_98)]) (st' := [.ref (a + 1), .int (2 : Int32), .ref (a + 1)]) [(131, .aload_n 0, 1, .null), (132, .iconst 2, 1, .int (2 : Int32)), (133, .aload_n 0, 1, .null)] (by decide +kernel) rfl ?_
          refine aw_gl (v := .int (s_x23_98 1 4)) a 1 h0 eo_B_1 fgX3_35 rfl (by decide +kernel) ?_
          obtain ⟨r9, e10, hm⟩ := bn_x hm
          refine aw_cv (rest := []) (st1 := []) a 1 (kX3_fail e10 h0 hf) rfl rfl ckX3_fail lkX3_63 h0 eo_B_1 ⟨_, _, rfl⟩ nkX3_fail rfl rfl rfl (Nat.le_of_ble_eq_true rfl) (Nat.zero_le _) (Nat.zero_le _) (by decide +kernel) (fun H11 z12 => ?_)
          obtain ⟨z12, hn⟩ := z12
          have h0 := hn
          have hs := hs.step z12 (by omega) (by omega)
          refine aw_b (pc' := 141) (lv' := [(0, .ref (a + 1)), (3, .int v3_x23_98)]) (st' := [.int v3_x23_98]) [(140, .iload_n 3, 1, .null)] (by decide +kernel) rfl ?_
          obtain rfl := Option.some.inj hm
          subst hQ
          exact aw_iret rfl (Nat.zero_le _) (Nat.zero_le _) (by decide +kernel) ⟨rfl, hs, h0⟩
        refine aw_ic_lt (off := 8) 131 (by decide) (by decide +kernel) (fun hc => ?_) (fun hc => ?_)
        · have hm := (if_pos hc).symm.trans hm
          refine aw_lv (lv' := [(0, .ref (a + 1)), (3, .int v3_x23_98)]) [0, 3] rfl ?_
          exact J131 H_x23_98 h0 hs hm
        · have hm := (if_neg hc).symm.trans hm
          refine aw_b (pc' := 128) (lv' := [(0, .ref (a + 1)), (1, .int i0), (2, .int i1), (3, .int v3_x23_98)]) (st' := [.int i1, .int v3_x23_98]) [(126, .iload_n 3, 1, .null), (127, .iload_n 2, 1, .null)] (by decide +kernel) rfl ?_
          refine aw_ic_le (off := 12) 140 (by decide) (by decide +kernel) (fun hc => ?_) (fun hc => ?_)
          · have hm := (if_pos hc).symm.trans hm
            refine aw_b (pc' := 141) (lv' := [(0, .ref (a + 1)), (1, .int i0), (2, .int i1), (3, .int v3_x23_98)]) (st' := [.int v3_x23_98]) [(140, .iload_n 3, 1, .null)] (by decide +kernel) rfl ?_
            obtain rfl := Option.some.inj hm
            subst hQ
            exact aw_iret rfl (Nat.zero_le _) (Nat.zero_le _) (by decide +kernel) ⟨rfl, hs, h0⟩
          · have hm := (if_neg hc).symm.trans hm
            refine aw_lv (lv' := [(0, .ref (a + 1)), (3, .int v3_x23_98)]) [0, 3] rfl ?_
            exact J131 H_x23_98 h0 hs hm
      · have hm := (if_pos hc).symm.trans hm
        refine aw_b (pc' := 112) (lv' := [(0, .ref (a + 1)), (1, .int i0), (2, .int i1), (3, .int v3_x23_98)]) (st' := [.ref (a + 1), .int (1 : Int32), .ref (a + 1)]) [(109, .aload_n 0, 1, .null), (110, .iconst 1, 1, .int (1 : Int32)), (111, .aload_n 0, 1, .null)] (by decide +kernel) rfl ?_
        refine aw_gl (v := .int (s_x23_98 1 3)) a 1 h0 eo_B_1 fgX3_32 rfl (by decide +kernel) ?_
        obtain ⟨r13, e14, hm⟩ := bn_x hm
        refine aw_cv (rest := []) (st1 := []) a 1 (kX3_fail e14 h0 hf) rfl rfl ckX3_fail lkX3_63 h0 eo_B_1 ⟨_, _, rfl⟩ nkX3_fail rfl rfl rfl (Nat.le_of_ble_eq_true rfl) (Nat.zero_le _) (Nat.zero_le _) (by decide +kernel) (fun H15 z16 => ?_)
        obtain ⟨z16, hn⟩ := z16
        have h0 := hn
        have hs := hs.step z16 (by omega) (by omega)
        refine aw_b (pc' := 140) (lv' := [(0, .ref (a + 1)), (1, .int i0), (2, .int i1), (3, .int v3_x23_98)]) (st' := []) [(118, .goto 22, 3, .null)] (by decide +kernel) rfl ?_
        refine aw_b (pc' := 141) (lv' := [(0, .ref (a + 1)), (1, .int i0), (2, .int i1), (3, .int v3_x23_98)]) (st' := [.int v3_x23_98]) [(140, .iload_n 3, 1, .null)] (by decide +kernel) rfl ?_
        obtain rfl := Option.some.inj hm
        subst hQ
        exact aw_iret rfl (Nat.zero_le _) (Nat.zero_le _) (by decide +kernel) ⟨rfl, hs, h0⟩
    have L23 : ∀ (fu : Nat) (v3_b23 : Int32) (s_b23 : st_) (H_b23 : Heap), has_ E H_b23 a ly_B s_b23 → sm_ H H_b23 a 7 → fX3_readNumber_l23 fu (v3_b23, s_b23) = some x23 → aw E mX3_readNumber Q 23 [(0, .ref (a + 1)), (1, .int i0), (2, .int i1), (3, .int v3_b23)] [] H_b23 0 0 := by
      intro fu
      induction fu with
      | zero =>
        intro v3_b23 s_b23 H_b23 h0 hs hm
        exact (it_0 hm).elim
      | succ fu ih23 =>
        intro v3_b23 s_b23 H_b23 h0 hs hm
        obtain ⟨y23, hm, hk23⟩ := it_s hm
        have hm : fX3_readNumber_b23 v3_b23 s_b23 = some y23 := hm
        unfold fX3_readNumber_b23 at hm
        refine aw_b (pc' := 24) (lv' := [(0, .ref (a + 1)), (1, .int i0), (2, .int i1), (3, .int v3_b23)]) (st' := [.ref (a + 1)]) [(23, .aload_n 0, 1, .null)] (by decide +kernel) rfl ?_
        refine aw_gl (v := .int (s_b23 1 3)) a 1 h0 eo_B_1 fgX3_32 rfl (by decide +kernel) ?_
        refine aw_b (pc' := 28) (lv' := [(0, .ref (a + 1)), (1, .int i0), (2, .int i1), (3, .int v3_b23)]) (st' := [.ref (a + 1), .int (s_b23 1 3)]) [(27, .aload_n 0, 1, .null)] (by decide +kernel) rfl ?_
        refine aw_gl (v := .int (s_b23 1 2)) a 1 h0 eo_B_1 fgX3_28 rfl (by decide +kernel) ?_
        refine aw_ic_ge (off := 67) 98 (by decide) (by decide +kernel) (fun hc => ?_) (fun hc => ?_)
        · have hm := (if_pos hc).symm.trans hm
          cases hm
          exact X23_98 v3_b23 s_b23 H_b23 h0 hs ((congrArg (fX3_readNumber_k23 i0 i1) (show ((v3_b23, s_b23)) = x23 from hk23)).trans hr23)
        · have hm := (if_neg hc).symm.trans hm
          refine aw_b (pc' := 35) (lv' := [(0, .ref (a + 1)), (1, .int i0), (2, .int i1), (3, .int v3_b23)]) (st' := [.ref (a + 1)]) [(34, .aload_n 0, 1, .null)] (by decide +kernel) rfl ?_
          obtain ⟨g17, hm⟩ := gd_x hm
          refine aw_gl (v := .ref a) a 1 h0 eo_B_1 fgX3_18 (tx_ok g17) (by decide +kernel) ?_
          refine aw_b (pc' := 39) (lv' := [(0, .ref (a + 1)), (1, .int i0), (2, .int i1), (3, .int v3_b23)]) (st' := [.ref (a + 1), .ref a]) [(38, .aload_n 0, 1, .null)] (by decide +kernel) rfl ?_
          refine aw_gl (v := .int (s_b23 1 3)) a 1 h0 eo_B_1 fgX3_32 rfl (by decide +kernel) ?_
          obtain ⟨g18, hm⟩ := gd_x hm
          refine aw_bal a 0 h0 rfl g18 (by decide +kernel) ?_
          refine aw_b (pc' := 45) (lv' := [(0, .ref (a + 1)), (1, .int i0), (2, .int i1), (3, .int v3_b23)]) (st' := [.int (48 : Int32), .int (s_b23 0 (ix_ (s_b23 1 3)))]) [(43, .bipush 48, 2, .int (48 : Int32))] (by decide +kernel) rfl ?_
          refine aw_ic_lt (off := 53) 98 (by decide) (by decide +kernel) (fun hc => ?_) (fun hc => ?_)
          · have hm := (if_pos hc).symm.trans hm
            cases hm
            exact X23_98 v3_b23 s_b23 H_b23 h0 hs ((congrArg (fX3_readNumber_k23 i0 i1) (show ((v3_b23, s_b23)) = x23 from hk23)).trans hr23)
          · have hm := (if_neg hc).symm.trans hm
            refine aw_b (pc' := 49) (lv' := [(0, .ref (a + 1)), (1, .int i0), (2, .int i1), (3, .int v3_b23)]) (st' := [.ref (a + 1)]) [(48, .aload_n 0, 1, .null)] (by decide +kernel) rfl ?_
            obtain ⟨g19, hm⟩ := gd_x hm
            refine aw_gl (v := .ref a) a 1 h0 eo_B_1 fgX3_18 (tx_ok g19) (by decide +kernel) ?_
            refine aw_b (pc' := 53) (lv' := [(0, .ref (a + 1)), (1, .int i0), (2, .int i1), (3, .int v3_b23)]) (st' := [.ref (a + 1), .ref a]) [(52, .aload_n 0, 1, .null)] (by decide +kernel) rfl ?_
            refine aw_gl (v := .int (s_b23 1 3)) a 1 h0 eo_B_1 fgX3_32 rfl (by decide +kernel) ?_
            obtain ⟨g20, hm⟩ := gd_x hm
            refine aw_bal a 0 h0 rfl g20 (by decide +kernel) ?_
            refine aw_b (pc' := 59) (lv' := [(0, .ref (a + 1)), (1, .int i0), (2, .int i1), (3, .int v3_b23)]) (st' := [.int (57 : Int32), .int (s_b23 0 (ix_ (s_b23 1 3)))]) [(57, .bipush 57, 2, .int (57 : Int32))] (by decide +kernel) rfl ?_
            refine aw_ic_gt (off := 39) 98 (by decide) (by decide +kernel) (fun hc => ?_) (fun hc => ?_)
            · have hm := (if_pos hc).symm.trans hm
              cases hm
              exact X23_98 v3_b23 s_b23 H_b23 h0 hs ((congrArg (fX3_readNumber_k23 i0 i1) (show ((v3_b23, s_b23)) = x23 from hk23)).trans hr23)
            · have hm := (if_neg hc).symm.trans hm
              refine aw_b (pc' := 67) (lv' := [(0, .ref (a + 1)), (1, .int i0), (2, .int i1), (3, .int v3_b23)]) (st' := [.ref (a + 1), .int ((10 : Int32) * v3_b23)]) [(62, .bipush 10, 2, .int (10 : Int32)), (64, .iload_n 3, 1, .null), (65, .imul, 1, .null), (66, .aload_n 0, 1, .null)] (by decide +kernel) rfl ?_
              obtain ⟨g21, hm⟩ := gd_x hm
              refine aw_gl (v := .ref a) a 1 h0 eo_B_1 fgX3_18 (tx_ok g21) (by decide +kernel) ?_
              refine aw_b (pc' := 71) (lv' := [(0, .ref (a + 1)), (1, .int i0), (2, .int i1), (3, .int v3_b23)]) (st' := [.ref (a + 1), .ref a, .int ((10 : Int32) * v3_b23)]) [(70, .aload_n 0, 1, .null)] (by decide +kernel) rfl ?_
              refine aw_gl (v := .int (s_b23 1 3)) a 1 h0 eo_B_1 fgX3_32 rfl (by decide +kernel) ?_
              obtain ⟨g22, hm⟩ := gd_x hm
              refine aw_bal a 0 h0 rfl g22 (by decide +kernel) ?_
              refine aw_b (pc' := 79) (lv' := [(0, .ref (a + 1)), (1, .int i0), (2, .int i1), (3, .int v3_b23)]) (st' := [.int (((10 : Int32) * v3_b23) + ((s_b23 0 (ix_ (s_b23 1 3))) - (48 : Int32)))]) [(75, .bipush 48, 2, .int (48 : Int32)), (77, .isub, 1, .null), (78, .iadd, 1, .null)] (by decide +kernel) rfl ?_
              refine aw_ldc (v := (1000000 : Int32)) kwX3_163 (by decide +kernel) ?_
              refine aw_mn (rest := []) mtX3_22 rfl (Nat.le_of_ble_eq_true rfl) (Nat.zero_le _) (Nat.zero_le _) (by decide +kernel) ?_
              refine aw_b (pc' := 87) (lv' := [(3, .int (if (1000000 : Int32) < (((10 : Int32) * v3_b23) + ((s_b23 0 (ix_ (s_b23 1 3))) - (48 : Int32))) then (1000000 : Int32) else (((10 : Int32) * v3_b23) + ((s_b23 0 (ix_ (s_b23 1 3))) - (48 : Int32))))), (0, .ref (a + 1)), (1, .int i0), (2, .int i1)]) (st' := [.ref (a + 1), .ref (a + 1)]) [(84, .istore_n 3, 1, .null), (85, .aload_n 0, 1, .null), (86, .dup, 1, .null)] (by decide +kernel) rfl ?_
              refine aw_gl (v := .int (s_b23 1 3)) a 1 h0 eo_B_1 fgX3_32 rfl (by decide +kernel) ?_
              refine aw_b (pc' := 92) (lv' := [(3, .int (if (1000000 : Int32) < (((10 : Int32) * v3_b23) + ((s_b23 0 (ix_ (s_b23 1 3))) - (48 : Int32))) then (1000000 : Int32) else (((10 : Int32) * v3_b23) + ((s_b23 0 (ix_ (s_b23 1 3))) - (48 : Int32))))), (0, .ref (a + 1)), (1, .int i0), (2, .int i1)]) (st' := [.int ((s_b23 1 3) + (1 : Int32)), .ref (a + 1)]) [(90, .iconst 1, 1, .int (1 : Int32)), (91, .iadd, 1, .null)] (by decide +kernel) rfl ?_
              obtain ⟨s23, e24, hm⟩ := bd_x hm
              refine aw_pl a 1 h0 eo_B_1 fsq_3_3 fpX3_32 hf rfl rfl e24 (by decide +kernel) (fun H25 h0 z26 => ?_)
              have hs := hs.step z26 (by omega) (by omega)
              refine aw_b (pc' := 23) (lv' := [(3, .int (if (1000000 : Int32) < (((10 : Int32) * v3_b23) + ((s_b23 0 (ix_ (s_b23 1 3))) - (48 : Int32))) then (1000000 : Int32) else (((10 : Int32) * v3_b23) + ((s_b23 0 (ix_ (s_b23 1 3))) - (48 : Int32))))), (0, .ref (a + 1)), (1, .int i0), (2, .int i1)]) (st' := []) [(95, .goto (-72), 3, .null)] (by decide +kernel) rfl ?_
              cases hm
              refine aw_lv (lv' := [(0, .ref (a + 1)), (1, .int i0), (2, .int i1), (3, .int (if (1000000 : Int32) < (((10 : Int32) * v3_b23) + ((s_b23 0 (ix_ (s_b23 1 3))) - (48 : Int32))) then (1000000 : Int32) else (((10 : Int32) * v3_b23) + ((s_b23 0 (ix_ (s_b23 1 3))) - (48 : Int32)))))]) [1, 2, 3, 0] rfl ?_
              exact ih23 (if (1000000 : Int32) < (((10 : Int32) * v3_b23) + ((s_b23 0 (ix_ (s_b23 1 3))) - (48 : Int32))) then (1000000 : Int32) else (((10 : Int32) * v3_b23) + ((s_b23 0 (ix_ (s_b23 1 3))) - (48 : Int32)))) s23 H25 h0 hs hk23
    refine aw_lv (lv' := [(0, .ref (a + 1)), (1, .int i0), (2, .int i1), (3, .int (0 : Int32))]) [1, 2, 3, 0] rfl ?_
    exact L23 FU_ (0 : Int32) s5 H7 h0 hs hx23
  · have hm := (if_neg hc).symm.trans hm
    refine aw_b (pc' := 8) (lv' := [(0, .ref (a + 1)), (1, .int i0), (2, .int i1)]) (st' := [.int (0 : Int32)]) [(7, .iconst 0, 1, .int (0 : Int32))] (by decide +kernel) rfl ?_
    obtain rfl := Option.some.inj hm
    subst hQ
    exact aw_iret rfl (Nat.zero_le _) (Nat.zero_le _) (by decide +kernel) ⟨rfl, hs, h0⟩
def mX3_readDrive : mt_ := (yX3_readDrive, cX3_readDrive, 1, none, [], { frames := 9, locals := 230, cells := 0, slots := 0 })
theorem ckX3_readDrive : cokV_ mX3_readDrive := ⟨⟨(uw_mem 638 (by decide +kernel) (by decide +kernel)), (uw_mem 30 (by decide +kernel) (by decide +kernel)), by decide +kernel, by decide +kernel⟩, (uw_mem 637 (by decide +kernel) (by decide +kernel)), (uw_mem 1 (by decide +kernel) (by decide +kernel))⟩
theorem nkX3_readDrive : nok_ mX3_readDrive 0 := by decide +kernel
theorem lkX3_69 : Cond.methodLink RX3 69 yX3_readWord ∈ uw_ := (uw_mem 640 (by decide +kernel) (by decide +kernel))
theorem fgX3_12 : fok_ RX3 12 3 0 := ⟨_, _, _, rfl, by decide, (uw_mem 176 (by decide +kernel) (by decide +kernel)), wkX3⟩
theorem lkX3_73 : Cond.methodLink RX3 73 yX3_readNumber ∈ uw_ := (uw_mem 662 (by decide +kernel) (by decide +kernel))
theorem fpX3_76 : fpk_ RX3 76 5 0 .int := ⟨_, _, _, tyX5, rfl, by decide, (uw_mem 74 (by decide +kernel) (by decide +kernel)), wkX5, tyX5_ok, nmX5, rfl, by decide +kernel⟩
theorem eo_B_2 : eo_ ly_B 2 5 fsX5 := rfl
theorem fgX3_76 : fok_ RX3 76 5 0 := ⟨_, _, _, rfl, by decide, (uw_mem 74 (by decide +kernel) (by decide +kernel)), wkX5⟩
theorem fpX3_79 : fpk_ RX3 79 5 1 .int := ⟨_, _, _, tyX5, rfl, by decide, (uw_mem 80 (by decide +kernel) (by decide +kernel)), wkX5, tyX5_ok, nmX5, rfl, by decide +kernel⟩
theorem kX3_readDrive {E : ev_} {H : Heap} {a : Nat} {s : st_} {r : st_} (hm : fX3_readDrive s = some r) (h0 : has_ E H a ly_B s) (hf : ev_fr E a) : sp_ E mX3_readDrive [.ref (a + 1)] H (po1 (.inl (none)) (fun Hn => sm_ H Hn a 7 ∧ has_ E Hn a ly_B r)) := by
  refine sp_of (by decide +kernel) rfl rfl ?_
  generalize hQ : po1 _ _ = Q
  have hs : sm_ H H a 7 := sm_.rfl'
  unfold fX3_readDrive at hm
  refine aw_lv (lv' := [(0, .ref (a + 1))]) [0] rfl ?_
  refine aw_b (pc' := 1) (lv' := [(0, .ref (a + 1))]) (st' := [.ref (a + 1)]) [(0, .aload_n 0, 1, .null)] (by decide +kernel) rfl ?_
  refine aw_lds 0 (by decide) rfl rfl (by decide +kernel) ?_
  obtain ⟨r1, e2, hm⟩ := bn_x hm
  refine aw_cv (rest := []) (st1 := [.int r1.2]) a 1 (kX3_readWord e2 h0 (by decide) hf) rfl rfl ckX3_readWord lkX3_69 h0 eo_B_1 ⟨_, _, rfl⟩ nkX3_readWord rfl rfl rfl (Nat.le_of_ble_eq_true rfl) (Nat.zero_le _) (Nat.zero_le _) (by decide +kernel) (fun H3 z4 => ?_)
  obtain ⟨z4, hn⟩ := z4
  have h0 := hn
  have hs := hs.step z4 (by omega) (by omega)
  have J18 : ∀ (s_j18 : st_) (H_j18 : Heap), has_ E H_j18 a ly_B s_j18 → sm_ H H_j18 a 7 → fX3_readDrive_j18 s_j18 = some r → aw E mX3_readDrive Q 18 [(0, .ref (a + 1))] [] H_j18 0 0 := by
    intro s_j18 H_j18 h0 hs hm
    unfold fX3_readDrive_j18 at hm
    refine aw_b (pc' := 19) (lv' := [(0, .ref (a + 1))]) (st' := [.ref (a + 1)]) [(18, .aload_n 0, 1, .null)] (by decide +kernel) rfl ?_
    refine aw_gl (v := .ref (a + 2)) a 1 h0 eo_B_1 fgX3_12 rfl (by decide +kernel) ?_
    refine aw_b (pc' := 26) (lv' := [(0, .ref (a + 1))]) (st' := [.int (100 : Int32), .int (2 : Int32), .ref (a + 1), .ref (a + 2)]) [(22, .aload_n 0, 1, .null), (23, .iconst 2, 1, .int (2 : Int32)), (24, .bipush 100, 2, .int (100 : Int32))] (by decide +kernel) rfl ?_
    obtain ⟨r5, e6, hm⟩ := bn_x hm
    refine aw_cv (rest := [.ref (a + 2)]) (st1 := [.int r5.2, .ref (a + 2)]) a 1 (kX3_readNumber e6 h0 hf) rfl rfl ckX3_readNumber lkX3_73 h0 eo_B_1 ⟨_, _, rfl⟩ nkX3_readNumber rfl rfl rfl (Nat.le_of_ble_eq_true rfl) (Nat.zero_le _) (Nat.zero_le _) (by decide +kernel) (fun H7 z8 => ?_)
    obtain ⟨z8, hn⟩ := z8
    have h0 := hn
    have hs := hs.step z8 (by omega) (by omega)
    obtain ⟨s9, e10, hm⟩ := bd_x hm
    refine aw_pl a 2 h0 eo_B_2 fsq_5_0 fpX3_76 hf rfl rfl e10 (by decide +kernel) (fun H11 h0 z12 => ?_)
    have hs := hs.step z12 (by omega) (by omega)
    refine aw_b (pc' := 33) (lv' := [(0, .ref (a + 1))]) (st' := [.ref (a + 1)]) [(32, .aload_n 0, 1, .null)] (by decide +kernel) rfl ?_
    refine aw_gl (v := .ref (a + 2)) a 1 h0 eo_B_1 fgX3_12 rfl (by decide +kernel) ?_
    refine aw_b (pc' := 39) (lv' := [(0, .ref (a + 1))]) (st' := [.ref (a + 1), .int (0 : Int32), .ref (a + 1), .ref (a + 2)]) [(36, .aload_n 0, 1, .null), (37, .iconst 0, 1, .int (0 : Int32)), (38, .aload_n 0, 1, .null)] (by decide +kernel) rfl ?_
    refine aw_gl (v := .ref (a + 2)) a 1 h0 eo_B_1 fgX3_12 rfl (by decide +kernel) ?_
    refine aw_gl (v := .int (s9 2 0)) a 2 h0 eo_B_2 fgX3_76 rfl (by decide +kernel) ?_
    refine aw_b (pc' := 47) (lv' := [(0, .ref (a + 1))]) (st' := [.int ((s9 2 0) - (1 : Int32)), .int (0 : Int32), .ref (a + 1), .ref (a + 2)]) [(45, .iconst 1, 1, .int (1 : Int32)), (46, .isub, 1, .null)] (by decide +kernel) rfl ?_
    obtain ⟨r13, e14, hm⟩ := bn_x hm
    refine aw_cv (rest := [.ref (a + 2)]) (st1 := [.int r13.2, .ref (a + 2)]) a 1 (kX3_readNumber e14 h0 hf) rfl rfl ckX3_readNumber lkX3_73 h0 eo_B_1 ⟨_, _, rfl⟩ nkX3_readNumber rfl rfl rfl (Nat.le_of_ble_eq_true rfl) (Nat.zero_le _) (Nat.zero_le _) (by decide +kernel) (fun H15 z16 => ?_)
    obtain ⟨z16, hn⟩ := z16
    have h0 := hn
    have hs := hs.step z16 (by omega) (by omega)
    obtain ⟨s17, e18, hm⟩ := bd_x hm
    refine aw_pl a 2 h0 eo_B_2 fsq_5_1 fpX3_79 hf rfl rfl e18 (by decide +kernel) (fun H19 h0 z20 => ?_)
    have hs := hs.step z20 (by omega) (by omega)
    obtain rfl := Option.some.inj hm
    subst hQ
    exact aw_vret rfl (Nat.zero_le _) (Nat.zero_le _) (by decide +kernel) ⟨rfl, hs, h0⟩
  refine aw_if_eq (off := 12) 18 (by decide) (by decide +kernel) (fun hc => ?_) (fun hc => ?_)
  · have hm := (if_pos hc).symm.trans hm
    exact J18 r1.1 H3 h0 hs hm
  · have hm := (if_neg hc).symm.trans hm
    refine aw_b (pc' := 12) (lv' := [(0, .ref (a + 1))]) (st' := [.ref (a + 1), .int (1 : Int32), .ref (a + 1)]) [(9, .aload_n 0, 1, .null), (10, .iconst 1, 1, .int (1 : Int32)), (11, .aload_n 0, 1, .null)] (by decide +kernel) rfl ?_
    refine aw_gl (v := .int (r1.1 1 4)) a 1 h0 eo_B_1 fgX3_35 rfl (by decide +kernel) ?_
    obtain ⟨r21, e22, hm⟩ := bn_x hm
    refine aw_cv (rest := []) (st1 := []) a 1 (kX3_fail e22 h0 hf) rfl rfl ckX3_fail lkX3_63 h0 eo_B_1 ⟨_, _, rfl⟩ nkX3_fail rfl rfl rfl (Nat.le_of_ble_eq_true rfl) (Nat.zero_le _) (Nat.zero_le _) (by decide +kernel) (fun H23 z24 => ?_)
    obtain ⟨z24, hn⟩ := z24
    have h0 := hn
    have hs := hs.step z24 (by omega) (by omega)
    exact J18 r21 H23 h0 hs hm
def mX3_hasMore : mt_ := (yX3_hasMore, cX3_hasMore, 1, some .boolean, [], { frames := 1, locals := 22, cells := 0, slots := 0 })
theorem ckX3_hasMore : cokV_ mX3_hasMore := ⟨⟨(uw_mem 670 (by decide +kernel) (by decide +kernel)), (uw_mem 30 (by decide +kernel) (by decide +kernel)), by decide +kernel, by decide +kernel⟩, (uw_mem 669 (by decide +kernel) (by decide +kernel)), (uw_mem 8 (by decide +kernel) (by decide +kernel))⟩
theorem nkX3_hasMore : nok_ mX3_hasMore 0 := by decide +kernel
theorem kX3_hasMore {E : ev_} {H : Heap} {a : Nat} {s : st_} {r : st_ × Int32} (hm : fX3_hasMore s = some r) (h0 : has_ E H a ly_B s) (hf : ev_fr E a) : sp_ E mX3_hasMore [.ref (a + 1)] H (po1 (.inl (some (.int r.2))) (fun Hn => sm_ H Hn a 7 ∧ has_ E Hn a ly_B r.1)) := by
  refine sp_of (by decide +kernel) rfl rfl ?_
  generalize hQ : po1 _ _ = Q
  have hs : sm_ H H a 7 := sm_.rfl'
  unfold fX3_hasMore at hm
  refine aw_lv (lv' := [(0, .ref (a + 1))]) [0] rfl ?_
  refine aw_b (pc' := 1) (lv' := [(0, .ref (a + 1))]) (st' := [.ref (a + 1)]) [(0, .aload_n 0, 1, .null)] (by decide +kernel) rfl ?_
  obtain ⟨r1, e2, hm⟩ := bn_x hm
  refine aw_cv (rest := []) (st1 := []) a 1 (kX3_skipSpaces e2 h0 hf) rfl rfl ckX3_skipSpaces lkX3_60 h0 eo_B_1 ⟨_, _, rfl⟩ nkX3_skipSpaces rfl rfl rfl (Nat.le_of_ble_eq_true rfl) (Nat.zero_le _) (Nat.zero_le _) (by decide +kernel) (fun H3 z4 => ?_)
  obtain ⟨z4, hn⟩ := z4
  have h0 := hn
  have hs := hs.step z4 (by omega) (by omega)
  refine aw_b (pc' := 5) (lv' := [(0, .ref (a + 1))]) (st' := [.ref (a + 1)]) [(4, .aload_n 0, 1, .null)] (by decide +kernel) rfl ?_
  refine aw_gl (v := .int (r1 1 5)) a 1 h0 eo_B_1 fgX3_38 rfl (by decide +kernel) ?_
  refine aw_if_ne (off := 14) 22 (by decide) (by decide +kernel) (fun hc => ?_) (fun hc => ?_)
  · have hm := (if_neg hc).symm.trans hm
    refine aw_b (pc' := 23) (lv' := [(0, .ref (a + 1))]) (st' := [.int (0 : Int32)]) [(22, .iconst 0, 1, .int (0 : Int32))] (by decide +kernel) rfl ?_
    obtain rfl := Option.some.inj hm
    subst hQ
    exact aw_zret rfl (by decide +kernel) (Nat.zero_le _) (Nat.zero_le _) (by decide +kernel) ⟨rfl, hs, h0⟩
  · have hm := (if_pos hc).symm.trans hm
    refine aw_b (pc' := 12) (lv' := [(0, .ref (a + 1))]) (st' := [.ref (a + 1)]) [(11, .aload_n 0, 1, .null)] (by decide +kernel) rfl ?_
    refine aw_gl (v := .int (r1 1 3)) a 1 h0 eo_B_1 fgX3_32 rfl (by decide +kernel) ?_
    refine aw_b (pc' := 16) (lv' := [(0, .ref (a + 1))]) (st' := [.ref (a + 1), .int (r1 1 3)]) [(15, .aload_n 0, 1, .null)] (by decide +kernel) rfl ?_
    refine aw_gl (v := .int (r1 1 2)) a 1 h0 eo_B_1 fgX3_28 rfl (by decide +kernel) ?_
    refine aw_ic_lt (off := 5) 24 (by decide) (by decide +kernel) (fun hc => ?_) (fun hc => ?_)
    · have hm := (if_pos hc).symm.trans hm
      refine aw_b (pc' := 25) (lv' := [(0, .ref (a + 1))]) (st' := [.ref (a + 1)]) [(24, .aload_n 0, 1, .null)] (by decide +kernel) rfl ?_
      obtain ⟨g5, hm⟩ := gd_x hm
      refine aw_gl (v := .ref a) a 1 h0 eo_B_1 fgX3_18 (tx_ok g5) (by decide +kernel) ?_
      refine aw_b (pc' := 29) (lv' := [(0, .ref (a + 1))]) (st' := [.ref (a + 1), .ref a]) [(28, .aload_n 0, 1, .null)] (by decide +kernel) rfl ?_
      refine aw_gl (v := .int (r1 1 3)) a 1 h0 eo_B_1 fgX3_32 rfl (by decide +kernel) ?_
      obtain ⟨g6, hm⟩ := gd_x hm
      refine aw_bal a 0 h0 rfl g6 (by decide +kernel) ?_
      refine aw_b (pc' := 35) (lv' := [(0, .ref (a + 1))]) (st' := [.int (59 : Int32), .int (r1 0 (ix_ (r1 1 3)))]) [(33, .bipush 59, 2, .int (59 : Int32))] (by decide +kernel) rfl ?_
      refine aw_ic_eq (off := 14) 49 (by decide) (by decide +kernel) (fun hc => ?_) (fun hc => ?_)
      · have hm := (if_pos hc).symm.trans hm
        refine aw_b (pc' := 51) (lv' := [(0, .ref (a + 1))]) (st' := [.ref (a + 1), .ref (a + 1)]) [(49, .aload_n 0, 1, .null), (50, .dup, 1, .null)] (by decide +kernel) rfl ?_
        refine aw_gl (v := .int (r1 1 3)) a 1 h0 eo_B_1 fgX3_32 rfl (by decide +kernel) ?_
        refine aw_b (pc' := 56) (lv' := [(0, .ref (a + 1))]) (st' := [.int ((r1 1 3) + (1 : Int32)), .ref (a + 1)]) [(54, .iconst 1, 1, .int (1 : Int32)), (55, .iadd, 1, .null)] (by decide +kernel) rfl ?_
        obtain ⟨s7, e8, hm⟩ := bd_x hm
        refine aw_pl a 1 h0 eo_B_1 fsq_3_3 fpX3_32 hf rfl rfl e8 (by decide +kernel) (fun H9 h0 z10 => ?_)
        have hs := hs.step z10 (by omega) (by omega)
        refine aw_b (pc' := 60) (lv' := [(0, .ref (a + 1))]) (st' := [.int (1 : Int32)]) [(59, .iconst 1, 1, .int (1 : Int32))] (by decide +kernel) rfl ?_
        obtain rfl := Option.some.inj hm
        subst hQ
        exact aw_zret rfl (by decide +kernel) (Nat.zero_le _) (Nat.zero_le _) (by decide +kernel) ⟨rfl, hs, h0⟩
      · have hm := (if_neg hc).symm.trans hm
        refine aw_b (pc' := 41) (lv' := [(0, .ref (a + 1))]) (st' := [.ref (a + 1), .int (1 : Int32), .ref (a + 1)]) [(38, .aload_n 0, 1, .null), (39, .iconst 1, 1, .int (1 : Int32)), (40, .aload_n 0, 1, .null)] (by decide +kernel) rfl ?_
        refine aw_gl (v := .int (r1 1 3)) a 1 h0 eo_B_1 fgX3_32 rfl (by decide +kernel) ?_
        obtain ⟨r11, e12, hm⟩ := bn_x hm
        refine aw_cv (rest := []) (st1 := []) a 1 (kX3_fail e12 h0 hf) rfl rfl ckX3_fail lkX3_63 h0 eo_B_1 ⟨_, _, rfl⟩ nkX3_fail rfl rfl rfl (Nat.le_of_ble_eq_true rfl) (Nat.zero_le _) (Nat.zero_le _) (by decide +kernel) (fun H13 z14 => ?_)
        obtain ⟨z14, hn⟩ := z14
        have h0 := hn
        have hs := hs.step z14 (by omega) (by omega)
        refine aw_b (pc' := 48) (lv' := [(0, .ref (a + 1))]) (st' := [.int (0 : Int32)]) [(47, .iconst 0, 1, .int (0 : Int32))] (by decide +kernel) rfl ?_
        obtain rfl := Option.some.inj hm
        subst hQ
        exact aw_zret rfl (by decide +kernel) (Nat.zero_le _) (Nat.zero_le _) (by decide +kernel) ⟨rfl, hs, h0⟩
    · have hm := (if_neg hc).symm.trans hm
      refine aw_b (pc' := 23) (lv' := [(0, .ref (a + 1))]) (st' := [.int (0 : Int32)]) [(22, .iconst 0, 1, .int (0 : Int32))] (by decide +kernel) rfl ?_
      obtain rfl := Option.some.inj hm
      subst hQ
      exact aw_zret rfl (by decide +kernel) (Nat.zero_le _) (Nat.zero_le _) (by decide +kernel) ⟨rfl, hs, h0⟩
def mX3_readRule : mt_ := (yX3_readRule, cX3_readRule, 3, none, [], { frames := 9, locals := 230, cells := 0, slots := 0 })
theorem ckX3_readRule : cokV_ mX3_readRule := ⟨⟨(uw_mem 678 (by decide +kernel) (by decide +kernel)), (uw_mem 30 (by decide +kernel) (by decide +kernel)), by decide +kernel, by decide +kernel⟩, (uw_mem 677 (by decide +kernel) (by decide +kernel)), (uw_mem 10 (by decide +kernel) (by decide +kernel))⟩
theorem nkX3_readRule : nok_ mX3_readRule 0 := by decide +kernel
theorem fgX3_121 : fok_ RX3 121 5 4 := ⟨_, _, _, rfl, by decide, (uw_mem 91 (by decide +kernel) (by decide +kernel)), wkX5⟩
theorem lkX3_126 : Cond.methodLink RX3 126 yX5_putRule ∈ uw_ := (uw_mem 680 (by decide +kernel) (by decide +kernel))
theorem su_B_2_S : sub_ ly_B 2 ly_S := sub_of rfl
theorem kX3_readRule {E : ev_} {H : Heap} {a : Nat} {s : st_} {r : st_} (hm : fX3_readRule s = some r) (h0 : has_ E H a ly_B s) (hf : ev_fr E a) : sp_ E mX3_readRule [.ref (a + 1)] H (po1 (.inl (none)) (fun Hn => sm_ H Hn a 7 ∧ has_ E Hn a ly_B r)) := by
  refine sp_of (by decide +kernel) rfl rfl ?_
  generalize hQ : po1 _ _ = Q
  have hs : sm_ H H a 7 := sm_.rfl'
  unfold fX3_readRule at hm
  refine aw_lv (lv' := [(0, .ref (a + 1))]) [0] rfl ?_
  refine aw_b (pc' := 1) (lv' := [(0, .ref (a + 1))]) (st' := [.ref (a + 1)]) [(0, .aload_n 0, 1, .null)] (by decide +kernel) rfl ?_
  refine aw_gl (v := .ref (a + 2)) a 1 h0 eo_B_1 fgX3_12 rfl (by decide +kernel) ?_
  refine aw_gl (v := .int (s 2 4)) a 2 h0 eo_B_2 fgX3_121 rfl (by decide +kernel) ?_
  refine aw_b (pc' := 9) (lv' := [(0, .ref (a + 1))]) (st' := [.int (6 : Int32), .int (s 2 4)]) [(7, .bipush 6, 2, .int (6 : Int32))] (by decide +kernel) rfl ?_
  have J21 : ∀ (s_j21 : st_) (H_j21 : Heap), has_ E H_j21 a ly_B s_j21 → sm_ H H_j21 a 7 → fX3_readRule_j21 s_j21 = some r → aw E mX3_readRule Q 21 [(0, .ref (a + 1))] [] H_j21 0 0 := by
    intro s_j21 H_j21 h0 hs hm
    unfold fX3_readRule_j21 at hm
    refine aw_b (pc' := 22) (lv' := [(0, .ref (a + 1))]) (st' := [.ref (a + 1)]) [(21, .aload_n 0, 1, .null)] (by decide +kernel) rfl ?_
    refine aw_lds 1 (by decide) rfl rfl (by decide +kernel) ?_
    obtain ⟨r1, e2, hm⟩ := bn_x hm
    refine aw_cv (rest := []) (st1 := [.int r1.2]) a 1 (kX3_readWord e2 h0 (by decide) hf) rfl rfl ckX3_readWord lkX3_69 h0 eo_B_1 ⟨_, _, rfl⟩ nkX3_readWord rfl rfl rfl (Nat.le_of_ble_eq_true rfl) (Nat.zero_le _) (Nat.zero_le _) (by decide +kernel) (fun H3 z4 => ?_)
    obtain ⟨z4, hn⟩ := z4
    have h0 := hn
    have hs := hs.step z4 (by omega) (by omega)
    refine aw_b (pc' := 30) (lv' := [(1, .int r1.2), (0, .ref (a + 1))]) (st' := [.int (4 : Int32), .int r1.2]) [(27, .istore_n 1, 1, .null), (28, .iload_n 1, 1, .null), (29, .iconst 4, 1, .int (4 : Int32))] (by decide +kernel) rfl ?_
    have J44 : ∀ (z0_j44 : Int32) (s_j44 : st_) (H_j44 : Heap), has_ E H_j44 a ly_B s_j44 → sm_ H H_j44 a 7 → fX3_readRule_j44 r1 z0_j44 s_j44 = some r → aw E mX3_readRule Q 44 [(0, .ref (a + 1)), (1, .int r1.2)] [.int z0_j44] H_j44 0 0 := by
      intro z0_j44 s_j44 H_j44 h0 hs hm
      unfold fX3_readRule_j44 at hm
      refine aw_b (pc' := 46) (lv' := [(2, .int z0_j44), (0, .ref (a + 1)), (1, .int r1.2)]) (st' := [.ref (a + 1)]) [(44, .istore_n 2, 1, .null), (45, .aload_n 0, 1, .null)] (by decide +kernel) rfl ?_
      refine aw_gl (v := .int (s_j44 1 5)) a 1 h0 eo_B_1 fgX3_38 rfl (by decide +kernel) ?_
      refine aw_if_ne (off := 12) 61 (by decide) (by decide +kernel) (fun hc => ?_) (fun hc => ?_)
      · have hm := (if_neg hc).symm.trans hm
        obtain rfl := Option.some.inj hm
        subst hQ
        exact aw_vret rfl (Nat.zero_le _) (Nat.zero_le _) (by decide +kernel) ⟨rfl, hs, h0⟩
      · have hm := (if_pos hc).symm.trans hm
        refine aw_b (pc' := 53) (lv' := [(2, .int z0_j44), (0, .ref (a + 1)), (1, .int r1.2)]) (st' := [.ref (a + 1)]) [(52, .aload_n 0, 1, .null)] (by decide +kernel) rfl ?_
        refine aw_gl (v := .ref (a + 2)) a 1 h0 eo_B_1 fgX3_12 rfl (by decide +kernel) ?_
        refine aw_b (pc' := 58) (lv' := [(2, .int z0_j44), (0, .ref (a + 1)), (1, .int r1.2)]) (st' := [.int z0_j44, .int r1.2, .ref (a + 2)]) [(56, .iload_n 1, 1, .null), (57, .iload_n 2, 1, .null)] (by decide +kernel) rfl ?_
        obtain ⟨r5, e6, hm⟩ := bn_x hm
        refine aw_cv (rest := []) (st1 := []) a 2 (kX5_putRule e6 (h0.sub su_B_2_S) (Nat.le_trans hf (Nat.le_add_right _ _))) rfl rfl ckX5_putRule lkX3_126 h0 eo_B_2 ⟨_, _, rfl⟩ nkX5_putRule rfl rfl rfl (Nat.le_of_ble_eq_true rfl) (Nat.zero_le _) (Nat.zero_le _) (by decide +kernel) (fun H7 z8 => ?_)
        obtain ⟨z8, hn⟩ := z8
        obtain ⟨s9, e10, hm⟩ := bd_x hm
        have h0 := h0.mg su_B_2_S hn z8 rfl e10
        have hs := hs.step z8 (by omega) (by omega)
        obtain rfl := Option.some.inj hm
        subst hQ
        exact aw_vret rfl (Nat.zero_le _) (Nat.zero_le _) (by decide +kernel) ⟨rfl, hs, h0⟩
    refine aw_ic_ne (off := 13) 43 (by decide) (by decide +kernel) (fun hc => ?_) (fun hc => ?_)
    · have hm := (if_neg hc).symm.trans hm
      refine aw_b (pc' := 44) (lv' := [(1, .int r1.2), (0, .ref (a + 1))]) (st' := [.int (-1 : Int32)]) [(43, .iconst (-1), 1, .int (-1 : Int32))] (by decide +kernel) rfl ?_
      refine aw_lv (lv' := [(0, .ref (a + 1)), (1, .int r1.2)]) [1, 0] rfl ?_
      exact J44 (-1 : Int32) r1.1 H3 h0 hs hm
    · have hm := (if_pos hc).symm.trans hm
      refine aw_b (pc' := 37) (lv' := [(1, .int r1.2), (0, .ref (a + 1))]) (st' := [.int (99 : Int32), .int (0 : Int32), .ref (a + 1)]) [(33, .aload_n 0, 1, .null), (34, .iconst 0, 1, .int (0 : Int32)), (35, .bipush 99, 2, .int (99 : Int32))] (by decide +kernel) rfl ?_
      obtain ⟨r11, e12, hm⟩ := bn_x hm
      refine aw_cv (rest := []) (st1 := [.int r11.2]) a 1 (kX3_readNumber e12 h0 hf) rfl rfl ckX3_readNumber lkX3_73 h0 eo_B_1 ⟨_, _, rfl⟩ nkX3_readNumber rfl rfl rfl (Nat.le_of_ble_eq_true rfl) (Nat.zero_le _) (Nat.zero_le _) (by decide +kernel) (fun H13 z14 => ?_)
      obtain ⟨z14, hn⟩ := z14
      have h0 := hn
      have hs := hs.step z14 (by omega) (by omega)
      refine aw_b (pc' := 44) (lv' := [(1, .int r1.2), (0, .ref (a + 1))]) (st' := [.int r11.2]) [(40, .goto 4, 3, .null)] (by decide +kernel) rfl ?_
      refine aw_lv (lv' := [(0, .ref (a + 1)), (1, .int r1.2)]) [1, 0] rfl ?_
      exact J44 r11.2 r11.1 H13 h0 hs hm
  refine aw_ic_lt (off := 12) 21 (by decide) (by decide +kernel) (fun hc => ?_) (fun hc => ?_)
  · have hm := (if_pos hc).symm.trans hm
    exact J21 s H h0 hs hm
  · have hm := (if_neg hc).symm.trans hm
    refine aw_b (pc' := 15) (lv' := [(0, .ref (a + 1))]) (st' := [.ref (a + 1), .int (3 : Int32), .ref (a + 1)]) [(12, .aload_n 0, 1, .null), (13, .iconst 3, 1, .int (3 : Int32)), (14, .aload_n 0, 1, .null)] (by decide +kernel) rfl ?_
    refine aw_gl (v := .int (s 1 4)) a 1 h0 eo_B_1 fgX3_35 rfl (by decide +kernel) ?_
    obtain ⟨r15, e16, hm⟩ := bn_x hm
    refine aw_cv (rest := []) (st1 := []) a 1 (kX3_fail e16 h0 hf) rfl rfl ckX3_fail lkX3_63 h0 eo_B_1 ⟨_, _, rfl⟩ nkX3_fail rfl rfl rfl (Nat.le_of_ble_eq_true rfl) (Nat.zero_le _) (Nat.zero_le _) (by decide +kernel) (fun H17 z18 => ?_)
    obtain ⟨z18, hn⟩ := z18
    have h0 := hn
    have hs := hs.step z18 (by omega) (by omega)
    exact J21 r15 H17 h0 hs hm
def mX3_readMaster : mt_ := (yX3_readMaster, cX3_readMaster, 3, none, [], { frames := 9, locals := 230, cells := 0, slots := 0 })
theorem ckX3_readMaster : cokV_ mX3_readMaster := ⟨⟨(uw_mem 684 (by decide +kernel) (by decide +kernel)), (uw_mem 30 (by decide +kernel) (by decide +kernel)), by decide +kernel, by decide +kernel⟩, (uw_mem 683 (by decide +kernel) (by decide +kernel)), (uw_mem 11 (by decide +kernel) (by decide +kernel))⟩
theorem nkX3_readMaster : nok_ mX3_readMaster 0 := by decide +kernel
theorem lkX3_138 : Cond.methodLink RX3 138 yX5_takeMaster ∈ uw_ := (uw_mem 686 (by decide +kernel) (by decide +kernel))
theorem kX3_readMaster {E : ev_} {H : Heap} {a : Nat} {s : st_} {r : st_} (hm : fX3_readMaster s = some r) (h0 : has_ E H a ly_B s) (hf : ev_fr E a) : sp_ E mX3_readMaster [.ref (a + 1)] H (po1 (.inl (none)) (fun Hn => sm_ H Hn a 7 ∧ has_ E Hn a ly_B r)) := by
  refine sp_of (by decide +kernel) rfl rfl ?_
  generalize hQ : po1 _ _ = Q
  have hs : sm_ H H a 7 := sm_.rfl'
  unfold fX3_readMaster at hm
  refine aw_lv (lv' := [(0, .ref (a + 1))]) [0] rfl ?_
  refine aw_b (pc' := 1) (lv' := [(0, .ref (a + 1))]) (st' := [.ref (a + 1)]) [(0, .aload_n 0, 1, .null)] (by decide +kernel) rfl ?_
  refine aw_lds 2 (by decide) rfl rfl (by decide +kernel) ?_
  obtain ⟨r1, e2, hm⟩ := bn_x hm
  refine aw_cv (rest := []) (st1 := [.int r1.2]) a 1 (kX3_readWord e2 h0 (by decide) hf) rfl rfl ckX3_readWord lkX3_69 h0 eo_B_1 ⟨_, _, rfl⟩ nkX3_readWord rfl rfl rfl (Nat.le_of_ble_eq_true rfl) (Nat.zero_le _) (Nat.zero_le _) (by decide +kernel) (fun H3 z4 => ?_)
  obtain ⟨z4, hn⟩ := z4
  have h0 := hn
  have hs := hs.step z4 (by omega) (by omega)
  refine aw_b (pc' := 9) (lv' := [(1, .int r1.2), (0, .ref (a + 1))]) (st' := [.int (2 : Int32), .int r1.2]) [(6, .istore_n 1, 1, .null), (7, .iload_n 1, 1, .null), (8, .iconst 2, 1, .int (2 : Int32))] (by decide +kernel) rfl ?_
  have J30 : ∀ (z0_j30 : Int32) (s_j30 : st_) (H_j30 : Heap), has_ E H_j30 a ly_B s_j30 → sm_ H H_j30 a 7 → fX3_readMaster_j30 r1 z0_j30 s_j30 = some r → aw E mX3_readMaster Q 30 [(0, .ref (a + 1)), (1, .int r1.2)] [.int z0_j30] H_j30 0 0 := by
    intro z0_j30 s_j30 H_j30 h0 hs hm
    unfold fX3_readMaster_j30 at hm
    refine aw_b (pc' := 32) (lv' := [(2, .int z0_j30), (0, .ref (a + 1)), (1, .int r1.2)]) (st' := [.ref (a + 1)]) [(30, .istore_n 2, 1, .null), (31, .aload_n 0, 1, .null)] (by decide +kernel) rfl ?_
    refine aw_gl (v := .ref (a + 2)) a 1 h0 eo_B_1 fgX3_12 rfl (by decide +kernel) ?_
    refine aw_b (pc' := 37) (lv' := [(2, .int z0_j30), (0, .ref (a + 1)), (1, .int r1.2)]) (st' := [.int z0_j30, .int r1.2, .ref (a + 2)]) [(35, .iload_n 1, 1, .null), (36, .iload_n 2, 1, .null)] (by decide +kernel) rfl ?_
    obtain ⟨r5, e6, hm⟩ := bn_x hm
    refine aw_cv (rest := []) (st1 := []) a 2 (kX5_takeMaster e6 (h0.sub su_B_2_S) (Nat.le_trans hf (Nat.le_add_right _ _))) rfl rfl ckX5_takeMaster lkX3_138 h0 eo_B_2 ⟨_, _, rfl⟩ nkX5_takeMaster rfl rfl rfl (Nat.le_of_ble_eq_true rfl) (Nat.zero_le _) (Nat.zero_le _) (by decide +kernel) (fun H7 z8 => ?_)
    obtain ⟨z8, hn⟩ := z8
    obtain ⟨s9, e10, hm⟩ := bd_x hm
    have h0 := h0.mg su_B_2_S hn z8 rfl e10
    have hs := hs.step z8 (by omega) (by omega)
    obtain rfl := Option.some.inj hm
    subst hQ
    exact aw_vret rfl (Nat.zero_le _) (Nat.zero_le _) (by decide +kernel) ⟨rfl, hs, h0⟩
  refine aw_ic_ne (off := 20) 29 (by decide) (by decide +kernel) (fun hc => ?_) (fun hc => ?_)
  · have hm := (if_neg hc).symm.trans hm
    refine aw_b (pc' := 30) (lv' := [(1, .int r1.2), (0, .ref (a + 1))]) (st' := [.int (-1 : Int32)]) [(29, .iconst (-1), 1, .int (-1 : Int32))] (by decide +kernel) rfl ?_
    refine aw_lv (lv' := [(0, .ref (a + 1)), (1, .int r1.2)]) [1, 0] rfl ?_
    exact J30 (-1 : Int32) r1.1 H3 h0 hs hm
  · have hm := (if_pos hc).symm.trans hm
    refine aw_b (pc' := 15) (lv' := [(1, .int r1.2), (0, .ref (a + 1))]) (st' := [.ref (a + 1), .int (0 : Int32), .ref (a + 1)]) [(12, .aload_n 0, 1, .null), (13, .iconst 0, 1, .int (0 : Int32)), (14, .aload_n 0, 1, .null)] (by decide +kernel) rfl ?_
    refine aw_gl (v := .ref (a + 2)) a 1 h0 eo_B_1 fgX3_12 rfl (by decide +kernel) ?_
    refine aw_gl (v := .int (r1.1 2 4)) a 2 h0 eo_B_2 fgX3_121 rfl (by decide +kernel) ?_
    refine aw_b (pc' := 23) (lv' := [(1, .int r1.2), (0, .ref (a + 1))]) (st' := [.int ((r1.1 2 4) - (1 : Int32)), .int (0 : Int32), .ref (a + 1)]) [(21, .iconst 1, 1, .int (1 : Int32)), (22, .isub, 1, .null)] (by decide +kernel) rfl ?_
    obtain ⟨r11, e12, hm⟩ := bn_x hm
    refine aw_cv (rest := []) (st1 := [.int r11.2]) a 1 (kX3_readNumber e12 h0 hf) rfl rfl ckX3_readNumber lkX3_73 h0 eo_B_1 ⟨_, _, rfl⟩ nkX3_readNumber rfl rfl rfl (Nat.le_of_ble_eq_true rfl) (Nat.zero_le _) (Nat.zero_le _) (by decide +kernel) (fun H13 z14 => ?_)
    obtain ⟨z14, hn⟩ := z14
    have h0 := hn
    have hs := hs.step z14 (by omega) (by omega)
    refine aw_b (pc' := 30) (lv' := [(1, .int r1.2), (0, .ref (a + 1))]) (st' := [.int r11.2]) [(26, .goto 4, 3, .null)] (by decide +kernel) rfl ?_
    refine aw_lv (lv' := [(0, .ref (a + 1)), (1, .int r1.2)]) [1, 0] rfl ?_
    exact J30 r11.2 r11.1 H13 h0 hs hm
def mX3_readAsk : mt_ := (yX3_readAsk, cX3_readAsk, 2, none, [], { frames := 2, locals := 47, cells := 0, slots := 0 })
theorem ckX3_readAsk : cokV_ mX3_readAsk := ⟨⟨(uw_mem 694 (by decide +kernel) (by decide +kernel)), (uw_mem 30 (by decide +kernel) (by decide +kernel)), by decide +kernel, by decide +kernel⟩, (uw_mem 693 (by decide +kernel) (by decide +kernel)), (uw_mem 12 (by decide +kernel) (by decide +kernel))⟩
theorem nkX3_readAsk : nok_ mX3_readAsk 0 := by decide +kernel
theorem fgX3_129 : fok_ RX3 129 5 12 := ⟨_, _, _, rfl, by decide, (uw_mem 114 (by decide +kernel) (by decide +kernel)), wkX5⟩
theorem lkX3_132 : Cond.methodLink RX3 132 yX5_putAsk ∈ uw_ := (uw_mem 695 (by decide +kernel) (by decide +kernel))
theorem kX3_readAsk {E : ev_} {H : Heap} {a : Nat} {s : st_} {r : st_} (hm : fX3_readAsk s = some r) (h0 : has_ E H a ly_B s) (hf : ev_fr E a) : sp_ E mX3_readAsk [.ref (a + 1)] H (po1 (.inl (none)) (fun Hn => sm_ H Hn a 7 ∧ has_ E Hn a ly_B r)) := by
  refine sp_of (by decide +kernel) rfl rfl ?_
  generalize hQ : po1 _ _ = Q
  have hs : sm_ H H a 7 := sm_.rfl'
  unfold fX3_readAsk at hm
  refine aw_lv (lv' := [(0, .ref (a + 1))]) [0] rfl ?_
  refine aw_b (pc' := 1) (lv' := [(0, .ref (a + 1))]) (st' := [.ref (a + 1)]) [(0, .aload_n 0, 1, .null)] (by decide +kernel) rfl ?_
  refine aw_gl (v := .ref (a + 2)) a 1 h0 eo_B_1 fgX3_12 rfl (by decide +kernel) ?_
  refine aw_gl (v := .int (s 2 12)) a 2 h0 eo_B_2 fgX3_129 rfl (by decide +kernel) ?_
  refine aw_b (pc' := 9) (lv' := [(0, .ref (a + 1))]) (st' := [.int (16 : Int32), .int (s 2 12)]) [(7, .bipush 16, 2, .int (16 : Int32))] (by decide +kernel) rfl ?_
  have J21 : ∀ (s_j21 : st_) (H_j21 : Heap), has_ E H_j21 a ly_B s_j21 → sm_ H H_j21 a 7 → fX3_readAsk_j21 s_j21 = some r → aw E mX3_readAsk Q 21 [(0, .ref (a + 1))] [] H_j21 0 0 := by
    intro s_j21 H_j21 h0 hs hm
    unfold fX3_readAsk_j21 at hm
    refine aw_b (pc' := 24) (lv' := [(0, .ref (a + 1))]) (st' := [.ref (a + 1), .int (0 : Int32), .ref (a + 1)]) [(21, .aload_n 0, 1, .null), (22, .iconst 0, 1, .int (0 : Int32)), (23, .aload_n 0, 1, .null)] (by decide +kernel) rfl ?_
    refine aw_gl (v := .ref (a + 2)) a 1 h0 eo_B_1 fgX3_12 rfl (by decide +kernel) ?_
    refine aw_gl (v := .int (s_j21 2 0)) a 2 h0 eo_B_2 fgX3_76 rfl (by decide +kernel) ?_
    refine aw_b (pc' := 32) (lv' := [(0, .ref (a + 1))]) (st' := [.int ((s_j21 2 0) - (1 : Int32)), .int (0 : Int32), .ref (a + 1)]) [(30, .iconst 1, 1, .int (1 : Int32)), (31, .isub, 1, .null)] (by decide +kernel) rfl ?_
    obtain ⟨r1, e2, hm⟩ := bn_x hm
    refine aw_cv (rest := []) (st1 := [.int r1.2]) a 1 (kX3_readNumber e2 h0 hf) rfl rfl ckX3_readNumber lkX3_73 h0 eo_B_1 ⟨_, _, rfl⟩ nkX3_readNumber rfl rfl rfl (Nat.le_of_ble_eq_true rfl) (Nat.zero_le _) (Nat.zero_le _) (by decide +kernel) (fun H3 z4 => ?_)
    obtain ⟨z4, hn⟩ := z4
    have h0 := hn
    have hs := hs.step z4 (by omega) (by omega)
    refine aw_b (pc' := 37) (lv' := [(1, .int r1.2), (0, .ref (a + 1))]) (st' := [.ref (a + 1)]) [(35, .istore_n 1, 1, .null), (36, .aload_n 0, 1, .null)] (by decide +kernel) rfl ?_
    refine aw_gl (v := .int (r1.1 1 5)) a 1 h0 eo_B_1 fgX3_38 rfl (by decide +kernel) ?_
    refine aw_if_ne (off := 11) 51 (by decide) (by decide +kernel) (fun hc => ?_) (fun hc => ?_)
    · have hm := (if_neg hc).symm.trans hm
      obtain rfl := Option.some.inj hm
      subst hQ
      exact aw_vret rfl (Nat.zero_le _) (Nat.zero_le _) (by decide +kernel) ⟨rfl, hs, h0⟩
    · have hm := (if_pos hc).symm.trans hm
      refine aw_b (pc' := 44) (lv' := [(1, .int r1.2), (0, .ref (a + 1))]) (st' := [.ref (a + 1)]) [(43, .aload_n 0, 1, .null)] (by decide +kernel) rfl ?_
      refine aw_gl (v := .ref (a + 2)) a 1 h0 eo_B_1 fgX3_12 rfl (by decide +kernel) ?_
      refine aw_b (pc' := 48) (lv' := [(1, .int r1.2), (0, .ref (a + 1))]) (st' := [.int r1.2, .ref (a + 2)]) [(47, .iload_n 1, 1, .null)] (by decide +kernel) rfl ?_
      obtain ⟨r5, e6, hm⟩ := bn_x hm
      refine aw_cv (rest := []) (st1 := []) a 2 (kX5_putAsk e6 (h0.sub su_B_2_S) (Nat.le_trans hf (Nat.le_add_right _ _))) rfl rfl ckX5_putAsk lkX3_132 h0 eo_B_2 ⟨_, _, rfl⟩ nkX5_putAsk rfl rfl rfl (Nat.le_of_ble_eq_true rfl) (Nat.zero_le _) (Nat.zero_le _) (by decide +kernel) (fun H7 z8 => ?_)
      obtain ⟨z8, hn⟩ := z8
      obtain ⟨s9, e10, hm⟩ := bd_x hm
      have h0 := h0.mg su_B_2_S hn z8 rfl e10
      have hs := hs.step z8 (by omega) (by omega)
      obtain rfl := Option.some.inj hm
      subst hQ
      exact aw_vret rfl (Nat.zero_le _) (Nat.zero_le _) (by decide +kernel) ⟨rfl, hs, h0⟩
  refine aw_ic_lt (off := 12) 21 (by decide) (by decide +kernel) (fun hc => ?_) (fun hc => ?_)
  · have hm := (if_pos hc).symm.trans hm
    exact J21 s H h0 hs hm
  · have hm := (if_neg hc).symm.trans hm
    refine aw_b (pc' := 15) (lv' := [(0, .ref (a + 1))]) (st' := [.ref (a + 1), .int (3 : Int32), .ref (a + 1)]) [(12, .aload_n 0, 1, .null), (13, .iconst 3, 1, .int (3 : Int32)), (14, .aload_n 0, 1, .null)] (by decide +kernel) rfl ?_
    refine aw_gl (v := .int (s 1 4)) a 1 h0 eo_B_1 fgX3_35 rfl (by decide +kernel) ?_
    obtain ⟨r11, e12, hm⟩ := bn_x hm
    refine aw_cv (rest := []) (st1 := []) a 1 (kX3_fail e12 h0 hf) rfl rfl ckX3_fail lkX3_63 h0 eo_B_1 ⟨_, _, rfl⟩ nkX3_fail rfl rfl rfl (Nat.le_of_ble_eq_true rfl) (Nat.zero_le _) (Nat.zero_le _) (by decide +kernel) (fun H13 z14 => ?_)
    obtain ⟨z14, hn⟩ := z14
    have h0 := hn
    have hs := hs.step z14 (by omega) (by omega)
    exact J21 r11 H13 h0 hs hm
def mX3_readRival : mt_ := (yX3_readRival, cX3_readRival, 2, none, [], { frames := 9, locals := 230, cells := 0, slots := 0 })
theorem ckX3_readRival : cokV_ mX3_readRival := ⟨⟨(uw_mem 702 (by decide +kernel) (by decide +kernel)), (uw_mem 30 (by decide +kernel) (by decide +kernel)), by decide +kernel, by decide +kernel⟩, (uw_mem 701 (by decide +kernel) (by decide +kernel)), (uw_mem 13 (by decide +kernel) (by decide +kernel))⟩
theorem nkX3_readRival : nok_ mX3_readRival 0 := by decide +kernel
theorem fpX3_141 : fpk_ RX3 141 5 15 .int := ⟨_, _, _, tyX5, rfl, by decide, (uw_mem 122 (by decide +kernel) (by decide +kernel)), wkX5, tyX5_ok, nmX5, rfl, by decide +kernel⟩
theorem fpX3_144 : fpk_ RX3 144 5 14 .int := ⟨_, _, _, tyX5, rfl, by decide, (uw_mem 118 (by decide +kernel) (by decide +kernel)), wkX5, tyX5_ok, nmX5, rfl, by decide +kernel⟩
theorem kX3_readRival {E : ev_} {H : Heap} {a : Nat} {s : st_} {r : st_} (hm : fX3_readRival s = some r) (h0 : has_ E H a ly_B s) (hf : ev_fr E a) : sp_ E mX3_readRival [.ref (a + 1)] H (po1 (.inl (none)) (fun Hn => sm_ H Hn a 7 ∧ has_ E Hn a ly_B r)) := by
  refine sp_of (by decide +kernel) rfl rfl ?_
  generalize hQ : po1 _ _ = Q
  have hs : sm_ H H a 7 := sm_.rfl'
  unfold fX3_readRival at hm
  refine aw_lv (lv' := [(0, .ref (a + 1))]) [0] rfl ?_
  refine aw_b (pc' := 1) (lv' := [(0, .ref (a + 1))]) (st' := [.ref (a + 1)]) [(0, .aload_n 0, 1, .null)] (by decide +kernel) rfl ?_
  refine aw_lds 2 (by decide) rfl rfl (by decide +kernel) ?_
  obtain ⟨r1, e2, hm⟩ := bn_x hm
  refine aw_cv (rest := []) (st1 := [.int r1.2]) a 1 (kX3_readWord e2 h0 (by decide) hf) rfl rfl ckX3_readWord lkX3_69 h0 eo_B_1 ⟨_, _, rfl⟩ nkX3_readWord rfl rfl rfl (Nat.le_of_ble_eq_true rfl) (Nat.zero_le _) (Nat.zero_le _) (by decide +kernel) (fun H3 z4 => ?_)
  obtain ⟨z4, hn⟩ := z4
  have h0 := hn
  have hs := hs.step z4 (by omega) (by omega)
  refine aw_b (pc' := 8) (lv' := [(1, .int r1.2), (0, .ref (a + 1))]) (st' := [.ref (a + 1)]) [(6, .istore_n 1, 1, .null), (7, .aload_n 0, 1, .null)] (by decide +kernel) rfl ?_
  refine aw_gl (v := .ref (a + 2)) a 1 h0 eo_B_1 fgX3_12 rfl (by decide +kernel) ?_
  refine aw_b (pc' := 13) (lv' := [(1, .int r1.2), (0, .ref (a + 1))]) (st' := [.int (2 : Int32), .int r1.2, .ref (a + 2)]) [(11, .iload_n 1, 1, .null), (12, .iconst 2, 1, .int (2 : Int32))] (by decide +kernel) rfl ?_
  have J34 : ∀ (z1_j34 : Int32) (s_j34 : st_) (H_j34 : Heap), has_ E H_j34 a ly_B s_j34 → sm_ H H_j34 a 7 → fX3_readRival_j34 r1 z1_j34 s_j34 = some r → aw E mX3_readRival Q 34 [(0, .ref (a + 1)), (1, .int r1.2)] [.int z1_j34, .ref (a + 2)] H_j34 0 0 := by
    intro z1_j34 s_j34 H_j34 h0 hs hm
    unfold fX3_readRival_j34 at hm
    obtain ⟨s5, e6, hm⟩ := bd_x hm
    refine aw_pl a 2 h0 eo_B_2 fsq_5_15 fpX3_141 hf rfl rfl e6 (by decide +kernel) (fun H7 h0 z8 => ?_)
    have hs := hs.step z8 (by omega) (by omega)
    refine aw_b (pc' := 38) (lv' := [(0, .ref (a + 1)), (1, .int r1.2)]) (st' := [.ref (a + 1)]) [(37, .aload_n 0, 1, .null)] (by decide +kernel) rfl ?_
    refine aw_gl (v := .ref (a + 2)) a 1 h0 eo_B_1 fgX3_12 rfl (by decide +kernel) ?_
    refine aw_b (pc' := 42) (lv' := [(0, .ref (a + 1)), (1, .int r1.2)]) (st' := [.int r1.2, .ref (a + 2)]) [(41, .iload_n 1, 1, .null)] (by decide +kernel) rfl ?_
    obtain ⟨s9, e10, hm⟩ := bd_x hm
    refine aw_pl a 2 h0 eo_B_2 fsq_5_14 fpX3_144 hf rfl rfl e10 (by decide +kernel) (fun H11 h0 z12 => ?_)
    have hs := hs.step z12 (by omega) (by omega)
    obtain rfl := Option.some.inj hm
    subst hQ
    exact aw_vret rfl (Nat.zero_le _) (Nat.zero_le _) (by decide +kernel) ⟨rfl, hs, h0⟩
  refine aw_ic_ne (off := 20) 33 (by decide) (by decide +kernel) (fun hc => ?_) (fun hc => ?_)
  · have hm := (if_neg hc).symm.trans hm
    refine aw_b (pc' := 34) (lv' := [(1, .int r1.2), (0, .ref (a + 1))]) (st' := [.int (-1 : Int32), .ref (a + 2)]) [(33, .iconst (-1), 1, .int (-1 : Int32))] (by decide +kernel) rfl ?_
    refine aw_lv (lv' := [(0, .ref (a + 1)), (1, .int r1.2)]) [1, 0] rfl ?_
    exact J34 (-1 : Int32) r1.1 H3 h0 hs hm
  · have hm := (if_pos hc).symm.trans hm
    refine aw_b (pc' := 19) (lv' := [(1, .int r1.2), (0, .ref (a + 1))]) (st' := [.ref (a + 1), .int (0 : Int32), .ref (a + 1), .ref (a + 2)]) [(16, .aload_n 0, 1, .null), (17, .iconst 0, 1, .int (0 : Int32)), (18, .aload_n 0, 1, .null)] (by decide +kernel) rfl ?_
    refine aw_gl (v := .ref (a + 2)) a 1 h0 eo_B_1 fgX3_12 rfl (by decide +kernel) ?_
    refine aw_gl (v := .int (r1.1 2 4)) a 2 h0 eo_B_2 fgX3_121 rfl (by decide +kernel) ?_
    refine aw_b (pc' := 27) (lv' := [(1, .int r1.2), (0, .ref (a + 1))]) (st' := [.int ((r1.1 2 4) - (1 : Int32)), .int (0 : Int32), .ref (a + 1), .ref (a + 2)]) [(25, .iconst 1, 1, .int (1 : Int32)), (26, .isub, 1, .null)] (by decide +kernel) rfl ?_
    obtain ⟨r13, e14, hm⟩ := bn_x hm
    refine aw_cv (rest := [.ref (a + 2)]) (st1 := [.int r13.2, .ref (a + 2)]) a 1 (kX3_readNumber e14 h0 hf) rfl rfl ckX3_readNumber lkX3_73 h0 eo_B_1 ⟨_, _, rfl⟩ nkX3_readNumber rfl rfl rfl (Nat.le_of_ble_eq_true rfl) (Nat.zero_le _) (Nat.zero_le _) (by decide +kernel) (fun H15 z16 => ?_)
    obtain ⟨z16, hn⟩ := z16
    have h0 := hn
    have hs := hs.step z16 (by omega) (by omega)
    refine aw_b (pc' := 34) (lv' := [(1, .int r1.2), (0, .ref (a + 1))]) (st' := [.int r13.2, .ref (a + 2)]) [(30, .goto 4, 3, .null)] (by decide +kernel) rfl ?_
    refine aw_lv (lv' := [(0, .ref (a + 1)), (1, .int r1.2)]) [1, 0] rfl ?_
    exact J34 r13.2 r13.1 H15 h0 hs hm
def mX3_readStatement : mt_ := (yX3_readStatement, cX3_readStatement, 2, none, [], { frames := 10, locals := 252, cells := 0, slots := 0 })
theorem ckX3_readStatement : cokV_ mX3_readStatement := ⟨⟨(uw_mem 674 (by decide +kernel) (by decide +kernel)), (uw_mem 30 (by decide +kernel) (by decide +kernel)), by decide +kernel, by decide +kernel⟩, (uw_mem 673 (by decide +kernel) (by decide +kernel)), (uw_mem 9 (by decide +kernel) (by decide +kernel))⟩
theorem nkX3_readStatement : nok_ mX3_readStatement 0 := by decide +kernel
theorem fpX3_82 : fpk_ RX3 82 5 2 .int := ⟨_, _, _, tyX5, rfl, by decide, (uw_mem 83 (by decide +kernel) (by decide +kernel)), wkX5, tyX5_ok, nmX5, rfl, by decide +kernel⟩
theorem fpX3_85 : fpk_ RX3 85 5 3 .int := ⟨_, _, _, tyX5, rfl, by decide, (uw_mem 86 (by decide +kernel) (by decide +kernel)), wkX5, tyX5_ok, nmX5, rfl, by decide +kernel⟩
theorem lkX3_88 : Cond.methodLink RX3 88 yX3_readRule ∈ uw_ := (uw_mem 675 (by decide +kernel) (by decide +kernel))
theorem lkX3_91 : Cond.methodLink RX3 91 yX3_readMaster ∈ uw_ := (uw_mem 681 (by decide +kernel) (by decide +kernel))
theorem fpX3_94 : fpk_ RX3 94 5 9 .int := ⟨_, _, _, tyX5, rfl, by decide, (uw_mem 102 (by decide +kernel) (by decide +kernel)), wkX5, tyX5_ok, nmX5, rfl, by decide +kernel⟩
theorem fpX3_97 : fpk_ RX3 97 5 10 .int := ⟨_, _, _, tyX5, rfl, by decide, (uw_mem 107 (by decide +kernel) (by decide +kernel)), wkX5, tyX5_ok, nmX5, rfl, by decide +kernel⟩
theorem fpX3_102 : fpk_ RX3 102 5 11 .int := ⟨_, _, _, tyX5, rfl, by decide, (uw_mem 110 (by decide +kernel) (by decide +kernel)), wkX5, tyX5_ok, nmX5, rfl, by decide +kernel⟩
theorem lkX3_105 : Cond.methodLink RX3 105 yX3_readAsk ∈ uw_ := (uw_mem 691 (by decide +kernel) (by decide +kernel))
theorem lkX3_108 : Cond.methodLink RX3 108 yX3_readRival ∈ uw_ := (uw_mem 699 (by decide +kernel) (by decide +kernel))
theorem fpX3_111 : fpk_ RX3 111 5 16 .int := ⟨_, _, _, tyX5, rfl, by decide, (uw_mem 127 (by decide +kernel) (by decide +kernel)), wkX5, tyX5_ok, nmX5, rfl, by decide +kernel⟩
theorem kwX3_114 : Cond.constant RX3 114 (99999 : Int32) ∈ uw_ := (uw_mem 703 (by decide +kernel) (by decide +kernel))
theorem fpX3_115 : fpk_ RX3 115 5 17 .int := ⟨_, _, _, tyX5, rfl, by decide, (uw_mem 130 (by decide +kernel) (by decide +kernel)), wkX5, tyX5_ok, nmX5, rfl, by decide +kernel⟩
theorem fpX3_118 : fpk_ RX3 118 5 18 .int := ⟨_, _, _, tyX5, rfl, by decide, (uw_mem 134 (by decide +kernel) (by decide +kernel)), wkX5, tyX5_ok, nmX5, rfl, by decide +kernel⟩
theorem kX3_readStatement {E : ev_} {H : Heap} {a : Nat} {s : st_} {r : st_} (hm : fX3_readStatement s = some r) (h0 : has_ E H a ly_B s) (hf : ev_fr E a) : sp_ E mX3_readStatement [.ref (a + 1)] H (po1 (.inl (none)) (fun Hn => sm_ H Hn a 7 ∧ has_ E Hn a ly_B r)) := by
  refine sp_of (by decide +kernel) rfl rfl ?_
  generalize hQ : po1 _ _ = Q
  have hs : sm_ H H a 7 := sm_.rfl'
  unfold fX3_readStatement at hm
  refine aw_lv (lv' := [(0, .ref (a + 1))]) [0] rfl ?_
  refine aw_b (pc' := 1) (lv' := [(0, .ref (a + 1))]) (st' := [.ref (a + 1)]) [(0, .aload_n 0, 1, .null)] (by decide +kernel) rfl ?_
  refine aw_lds 0 (by decide) rfl rfl (by decide +kernel) ?_
  obtain ⟨r1, e2, hm⟩ := bn_x hm
  refine aw_cv (rest := []) (st1 := [.int r1.2]) a 1 (kX3_readWord e2 h0 (by decide) hf) rfl rfl ckX3_readWord lkX3_69 h0 eo_B_1 ⟨_, _, rfl⟩ nkX3_readWord rfl rfl rfl (Nat.le_of_ble_eq_true rfl) (Nat.zero_le _) (Nat.zero_le _) (by decide +kernel) (fun H3 z4 => ?_)
  obtain ⟨z4, hn⟩ := z4
  have h0 := hn
  have hs := hs.step z4 (by omega) (by omega)
  refine aw_b (pc' := 8) (lv' := [(1, .int r1.2), (0, .ref (a + 1))]) (st' := [.int r1.2]) [(6, .istore_n 1, 1, .null), (7, .iload_n 1, 1, .null)] (by decide +kernel) rfl ?_
  refine aw_ts [((1 : Int32), 60), ((2 : Int32), 91), ((3 : Int32), 98), ((4 : Int32), 105), ((5 : Int32), 138), ((6 : Int32), 154), ((7 : Int32), 161), ((8 : Int32), 168), ((9 : Int32), 186)] 218 (by decide +kernel) ?_
  refine aw_tg (fun hc => ?_) (fun hc => ?_)
  · have hm := (if_pos hc).symm.trans hm
    refine aw_b (pc' := 61) (lv' := [(1, .int r1.2), (0, .ref (a + 1))]) (st' := [.ref (a + 1)]) [(60, .aload_n 0, 1, .null)] (by decide +kernel) rfl ?_
    refine aw_gl (v := .ref (a + 2)) a 1 h0 eo_B_1 fgX3_12 rfl (by decide +kernel) ?_
    refine aw_b (pc' := 68) (lv' := [(1, .int r1.2), (0, .ref (a + 1))]) (st' := [.int (99 : Int32), .int (0 : Int32), .ref (a + 1), .ref (a + 2)]) [(64, .aload_n 0, 1, .null), (65, .iconst 0, 1, .int (0 : Int32)), (66, .bipush 99, 2, .int (99 : Int32))] (by decide +kernel) rfl ?_
    obtain ⟨r5, e6, hm⟩ := bn_x hm
    refine aw_cv (rest := [.ref (a + 2)]) (st1 := [.int r5.2, .ref (a + 2)]) a 1 (kX3_readNumber e6 h0 hf) rfl rfl ckX3_readNumber lkX3_73 h0 eo_B_1 ⟨_, _, rfl⟩ nkX3_readNumber rfl rfl rfl (Nat.le_of_ble_eq_true rfl) (Nat.zero_le _) (Nat.zero_le _) (by decide +kernel) (fun H7 z8 => ?_)
    obtain ⟨z8, hn⟩ := z8
    have h0 := hn
    have hs := hs.step z8 (by omega) (by omega)
    obtain ⟨s9, e10, hm⟩ := bd_x hm
    refine aw_pl a 2 h0 eo_B_2 fsq_5_2 fpX3_82 hf rfl rfl e10 (by decide +kernel) (fun H11 h0 z12 => ?_)
    have hs := hs.step z12 (by omega) (by omega)
    refine aw_b (pc' := 75) (lv' := [(1, .int r1.2), (0, .ref (a + 1))]) (st' := [.ref (a + 1)]) [(74, .aload_n 0, 1, .null)] (by decide +kernel) rfl ?_
    refine aw_gl (v := .ref (a + 2)) a 1 h0 eo_B_1 fgX3_12 rfl (by decide +kernel) ?_
    refine aw_b (pc' := 82) (lv' := [(1, .int r1.2), (0, .ref (a + 1))]) (st' := [.int (99 : Int32), .int (1 : Int32), .ref (a + 1), .ref (a + 2)]) [(78, .aload_n 0, 1, .null), (79, .iconst 1, 1, .int (1 : Int32)), (80, .bipush 99, 2, .int (99 : Int32))] (by decide +kernel) rfl ?_
    obtain ⟨r13, e14, hm⟩ := bn_x hm
    refine aw_cv (rest := [.ref (a + 2)]) (st1 := [.int r13.2, .ref (a + 2)]) a 1 (kX3_readNumber e14 h0 hf) rfl rfl ckX3_readNumber lkX3_73 h0 eo_B_1 ⟨_, _, rfl⟩ nkX3_readNumber rfl rfl rfl (Nat.le_of_ble_eq_true rfl) (Nat.zero_le _) (Nat.zero_le _) (by decide +kernel) (fun H15 z16 => ?_)
    obtain ⟨z16, hn⟩ := z16
    have h0 := hn
    have hs := hs.step z16 (by omega) (by omega)
    obtain ⟨s17, e18, hm⟩ := bd_x hm
    refine aw_pl a 2 h0 eo_B_2 fsq_5_3 fpX3_85 hf rfl rfl e18 (by decide +kernel) (fun H19 h0 z20 => ?_)
    have hs := hs.step z20 (by omega) (by omega)
    refine aw_b (pc' := 227) (lv' := [(1, .int r1.2), (0, .ref (a + 1))]) (st' := []) [(88, .goto 139, 3, .null)] (by decide +kernel) rfl ?_
    obtain rfl := Option.some.inj hm
    subst hQ
    exact aw_vret rfl (Nat.zero_le _) (Nat.zero_le _) (by decide +kernel) ⟨rfl, hs, h0⟩
  · have hm := (if_neg hc).symm.trans hm
    refine aw_tg (fun hc => ?_) (fun hc => ?_)
    · have hm := (if_pos hc).symm.trans hm
      refine aw_b (pc' := 92) (lv' := [(1, .int r1.2), (0, .ref (a + 1))]) (st' := [.ref (a + 1)]) [(91, .aload_n 0, 1, .null)] (by decide +kernel) rfl ?_
      obtain ⟨r21, e22, hm⟩ := bn_x hm
      refine aw_cv (rest := []) (st1 := []) a 1 (kX3_readRule e22 h0 hf) rfl rfl ckX3_readRule lkX3_88 h0 eo_B_1 ⟨_, _, rfl⟩ nkX3_readRule rfl rfl rfl (Nat.le_of_ble_eq_true rfl) (Nat.zero_le _) (Nat.zero_le _) (by decide +kernel) (fun H23 z24 => ?_)
      obtain ⟨z24, hn⟩ := z24
      have h0 := hn
      have hs := hs.step z24 (by omega) (by omega)
      refine aw_b (pc' := 227) (lv' := [(1, .int r1.2), (0, .ref (a + 1))]) (st' := []) [(95, .goto 132, 3, .null)] (by decide +kernel) rfl ?_
      obtain rfl := Option.some.inj hm
      subst hQ
      exact aw_vret rfl (Nat.zero_le _) (Nat.zero_le _) (by decide +kernel) ⟨rfl, hs, h0⟩
    · have hm := (if_neg hc).symm.trans hm
      refine aw_tg (fun hc => ?_) (fun hc => ?_)
      · have hm := (if_pos hc).symm.trans hm
        refine aw_b (pc' := 99) (lv' := [(1, .int r1.2), (0, .ref (a + 1))]) (st' := [.ref (a + 1)]) [(98, .aload_n 0, 1, .null)] (by decide +kernel) rfl ?_
        obtain ⟨r25, e26, hm⟩ := bn_x hm
        refine aw_cv (rest := []) (st1 := []) a 1 (kX3_readMaster e26 h0 hf) rfl rfl ckX3_readMaster lkX3_91 h0 eo_B_1 ⟨_, _, rfl⟩ nkX3_readMaster rfl rfl rfl (Nat.le_of_ble_eq_true rfl) (Nat.zero_le _) (Nat.zero_le _) (by decide +kernel) (fun H27 z28 => ?_)
        obtain ⟨z28, hn⟩ := z28
        have h0 := hn
        have hs := hs.step z28 (by omega) (by omega)
        refine aw_b (pc' := 227) (lv' := [(1, .int r1.2), (0, .ref (a + 1))]) (st' := []) [(102, .goto 125, 3, .null)] (by decide +kernel) rfl ?_
        obtain rfl := Option.some.inj hm
        subst hQ
        exact aw_vret rfl (Nat.zero_le _) (Nat.zero_le _) (by decide +kernel) ⟨rfl, hs, h0⟩
      · have hm := (if_neg hc).symm.trans hm
        refine aw_tg (fun hc => ?_) (fun hc => ?_)
        · have hm := (if_pos hc).symm.trans hm
          refine aw_b (pc' := 106) (lv' := [(1, .int r1.2), (0, .ref (a + 1))]) (st' := [.ref (a + 1)]) [(105, .aload_n 0, 1, .null)] (by decide +kernel) rfl ?_
          refine aw_gl (v := .ref (a + 2)) a 1 h0 eo_B_1 fgX3_12 rfl (by decide +kernel) ?_
          refine aw_b (pc' := 114) (lv' := [(1, .int r1.2), (0, .ref (a + 1))]) (st' := [.int (500 : Int32), .int (1 : Int32), .ref (a + 1), .ref (a + 2)]) [(109, .aload_n 0, 1, .null), (110, .iconst 1, 1, .int (1 : Int32)), (111, .sipush 500, 3, .int (500 : Int32))] (by decide +kernel) rfl ?_
          obtain ⟨r29, e30, hm⟩ := bn_x hm
          refine aw_cv (rest := [.ref (a + 2)]) (st1 := [.int r29.2, .ref (a + 2)]) a 1 (kX3_readNumber e30 h0 hf) rfl rfl ckX3_readNumber lkX3_73 h0 eo_B_1 ⟨_, _, rfl⟩ nkX3_readNumber rfl rfl rfl (Nat.le_of_ble_eq_true rfl) (Nat.zero_le _) (Nat.zero_le _) (by decide +kernel) (fun H31 z32 => ?_)
          obtain ⟨z32, hn⟩ := z32
          have h0 := hn
          have hs := hs.step z32 (by omega) (by omega)
          obtain ⟨s33, e34, hm⟩ := bd_x hm
          refine aw_pl a 2 h0 eo_B_2 fsq_5_9 fpX3_94 hf rfl rfl e34 (by decide +kernel) (fun H35 h0 z36 => ?_)
          have hs := hs.step z36 (by omega) (by omega)
          refine aw_b (pc' := 121) (lv' := [(1, .int r1.2), (0, .ref (a + 1))]) (st' := [.ref (a + 1)]) [(120, .aload_n 0, 1, .null)] (by decide +kernel) rfl ?_
          refine aw_gl (v := .ref (a + 2)) a 1 h0 eo_B_1 fgX3_12 rfl (by decide +kernel) ?_
          refine aw_b (pc' := 129) (lv' := [(1, .int r1.2), (0, .ref (a + 1))]) (st' := [.int (32767 : Int32), .int (0 : Int32), .ref (a + 1), .ref (a + 2)]) [(124, .aload_n 0, 1, .null), (125, .iconst 0, 1, .int (0 : Int32)), (126, .sipush 32767, 3, .int (32767 : Int32))] (by decide +kernel) rfl ?_
          obtain ⟨r37, e38, hm⟩ := bn_x hm
          refine aw_cv (rest := [.ref (a + 2)]) (st1 := [.int r37.2, .ref (a + 2)]) a 1 (kX3_readNumber e38 h0 hf) rfl rfl ckX3_readNumber lkX3_73 h0 eo_B_1 ⟨_, _, rfl⟩ nkX3_readNumber rfl rfl rfl (Nat.le_of_ble_eq_true rfl) (Nat.zero_le _) (Nat.zero_le _) (by decide +kernel) (fun H39 z40 => ?_)
          obtain ⟨z40, hn⟩ := z40
          have h0 := hn
          have hs := hs.step z40 (by omega) (by omega)
          obtain ⟨s41, e42, hm⟩ := bd_x hm
          refine aw_pl a 2 h0 eo_B_2 fsq_5_10 fpX3_97 hf rfl rfl e42 (by decide +kernel) (fun H43 h0 z44 => ?_)
          have hs := hs.step z44 (by omega) (by omega)
          refine aw_b (pc' := 227) (lv' := [(1, .int r1.2), (0, .ref (a + 1))]) (st' := []) [(135, .goto 92, 3, .null)] (by decide +kernel) rfl ?_
          obtain rfl := Option.some.inj hm
          subst hQ
          exact aw_vret rfl (Nat.zero_le _) (Nat.zero_le _) (by decide +kernel) ⟨rfl, hs, h0⟩
        · have hm := (if_neg hc).symm.trans hm
          refine aw_tg (fun hc => ?_) (fun hc => ?_)
          · have hm := (if_pos hc).symm.trans hm
            refine aw_b (pc' := 139) (lv' := [(1, .int r1.2), (0, .ref (a + 1))]) (st' := [.ref (a + 1)]) [(138, .aload_n 0, 1, .null)] (by decide +kernel) rfl ?_
            refine aw_gl (v := .ref (a + 2)) a 1 h0 eo_B_1 fgX3_12 rfl (by decide +kernel) ?_
            refine aw_b (pc' := 143) (lv' := [(1, .int r1.2), (0, .ref (a + 1))]) (st' := [.ref (a + 1), .ref (a + 2)]) [(142, .aload_n 0, 1, .null)] (by decide +kernel) rfl ?_
            refine aw_lds 3 (by decide) rfl rfl (by decide +kernel) ?_
            obtain ⟨r45, e46, hm⟩ := bn_x hm
            refine aw_cv (rest := [.ref (a + 2)]) (st1 := [.int r45.2, .ref (a + 2)]) a 1 (kX3_readWord e46 h0 (by decide) hf) rfl rfl ckX3_readWord lkX3_69 h0 eo_B_1 ⟨_, _, rfl⟩ nkX3_readWord rfl rfl rfl (Nat.le_of_ble_eq_true rfl) (Nat.zero_le _) (Nat.zero_le _) (by decide +kernel) (fun H47 z48 => ?_)
            obtain ⟨z48, hn⟩ := z48
            have h0 := hn
            have hs := hs.step z48 (by omega) (by omega)
            obtain ⟨s49, e50, hm⟩ := bd_x hm
            refine aw_pl a 2 h0 eo_B_2 fsq_5_11 fpX3_102 hf rfl rfl e50 (by decide +kernel) (fun H51 h0 z52 => ?_)
            have hs := hs.step z52 (by omega) (by omega)
            refine aw_b (pc' := 227) (lv' := [(1, .int r1.2), (0, .ref (a + 1))]) (st' := []) [(151, .goto 76, 3, .null)] (by decide +kernel) rfl ?_
            obtain rfl := Option.some.inj hm
            subst hQ
            exact aw_vret rfl (Nat.zero_le _) (Nat.zero_le _) (by decide +kernel) ⟨rfl, hs, h0⟩
          · have hm := (if_neg hc).symm.trans hm
            refine aw_tg (fun hc => ?_) (fun hc => ?_)
            · have hm := (if_pos hc).symm.trans hm
              refine aw_b (pc' := 155) (lv' := [(1, .int r1.2), (0, .ref (a + 1))]) (st' := [.ref (a + 1)]) [(154, .aload_n 0, 1, .null)] (by decide +kernel) rfl ?_
              obtain ⟨r53, e54, hm⟩ := bn_x hm
              refine aw_cv (rest := []) (st1 := []) a 1 (kX3_readAsk e54 h0 hf) rfl rfl ckX3_readAsk lkX3_105 h0 eo_B_1 ⟨_, _, rfl⟩ nkX3_readAsk rfl rfl rfl (Nat.le_of_ble_eq_true rfl) (Nat.zero_le _) (Nat.zero_le _) (by decide +kernel) (fun H55 z56 => ?_)
              obtain ⟨z56, hn⟩ := z56
              have h0 := hn
              have hs := hs.step z56 (by omega) (by omega)
              refine aw_b (pc' := 227) (lv' := [(1, .int r1.2), (0, .ref (a + 1))]) (st' := []) [(158, .goto 69, 3, .null)] (by decide +kernel) rfl ?_
              obtain rfl := Option.some.inj hm
              subst hQ
              exact aw_vret rfl (Nat.zero_le _) (Nat.zero_le _) (by decide +kernel) ⟨rfl, hs, h0⟩
            · have hm := (if_neg hc).symm.trans hm
              refine aw_tg (fun hc => ?_) (fun hc => ?_)
              · have hm := (if_pos hc).symm.trans hm
                refine aw_b (pc' := 162) (lv' := [(1, .int r1.2), (0, .ref (a + 1))]) (st' := [.ref (a + 1)]) [(161, .aload_n 0, 1, .null)] (by decide +kernel) rfl ?_
                obtain ⟨r57, e58, hm⟩ := bn_x hm
                refine aw_cv (rest := []) (st1 := []) a 1 (kX3_readRival e58 h0 hf) rfl rfl ckX3_readRival lkX3_108 h0 eo_B_1 ⟨_, _, rfl⟩ nkX3_readRival rfl rfl rfl (Nat.le_of_ble_eq_true rfl) (Nat.zero_le _) (Nat.zero_le _) (by decide +kernel) (fun H59 z60 => ?_)
                obtain ⟨z60, hn⟩ := z60
                have h0 := hn
                have hs := hs.step z60 (by omega) (by omega)
                refine aw_b (pc' := 227) (lv' := [(1, .int r1.2), (0, .ref (a + 1))]) (st' := []) [(165, .goto 62, 3, .null)] (by decide +kernel) rfl ?_
                obtain rfl := Option.some.inj hm
                subst hQ
                exact aw_vret rfl (Nat.zero_le _) (Nat.zero_le _) (by decide +kernel) ⟨rfl, hs, h0⟩
              · have hm := (if_neg hc).symm.trans hm
                refine aw_tg (fun hc => ?_) (fun hc => ?_)
                · have hm := (if_pos hc).symm.trans hm
                  refine aw_b (pc' := 169) (lv' := [(1, .int r1.2), (0, .ref (a + 1))]) (st' := [.ref (a + 1)]) [(168, .aload_n 0, 1, .null)] (by decide +kernel) rfl ?_
                  refine aw_gl (v := .ref (a + 2)) a 1 h0 eo_B_1 fgX3_12 rfl (by decide +kernel) ?_
                  refine aw_b (pc' := 177) (lv' := [(1, .int r1.2), (0, .ref (a + 1))]) (st' := [.int (999 : Int32), .int (0 : Int32), .ref (a + 1), .ref (a + 2)]) [(172, .aload_n 0, 1, .null), (173, .iconst 0, 1, .int (0 : Int32)), (174, .sipush 999, 3, .int (999 : Int32))] (by decide +kernel) rfl ?_
                  obtain ⟨r61, e62, hm⟩ := bn_x hm
                  refine aw_cv (rest := [.ref (a + 2)]) (st1 := [.int r61.2, .ref (a + 2)]) a 1 (kX3_readNumber e62 h0 hf) rfl rfl ckX3_readNumber lkX3_73 h0 eo_B_1 ⟨_, _, rfl⟩ nkX3_readNumber rfl rfl rfl (Nat.le_of_ble_eq_true rfl) (Nat.zero_le _) (Nat.zero_le _) (by decide +kernel) (fun H63 z64 => ?_)
                  obtain ⟨z64, hn⟩ := z64
                  have h0 := hn
                  have hs := hs.step z64 (by omega) (by omega)
                  obtain ⟨s65, e66, hm⟩ := bd_x hm
                  refine aw_pl a 2 h0 eo_B_2 fsq_5_16 fpX3_111 hf rfl rfl e66 (by decide +kernel) (fun H67 h0 z68 => ?_)
                  have hs := hs.step z68 (by omega) (by omega)
                  refine aw_b (pc' := 227) (lv' := [(1, .int r1.2), (0, .ref (a + 1))]) (st' := []) [(183, .goto 44, 3, .null)] (by decide +kernel) rfl ?_
                  obtain rfl := Option.some.inj hm
                  subst hQ
                  exact aw_vret rfl (Nat.zero_le _) (Nat.zero_le _) (by decide +kernel) ⟨rfl, hs, h0⟩
                · have hm := (if_neg hc).symm.trans hm
                  refine aw_tg (fun hc => ?_) (fun hc => ?_)
                  · have hm := (if_pos hc).symm.trans hm
                    refine aw_b (pc' := 187) (lv' := [(1, .int r1.2), (0, .ref (a + 1))]) (st' := [.ref (a + 1)]) [(186, .aload_n 0, 1, .null)] (by decide +kernel) rfl ?_
                    refine aw_gl (v := .ref (a + 2)) a 1 h0 eo_B_1 fgX3_12 rfl (by decide +kernel) ?_
                    refine aw_b (pc' := 192) (lv' := [(1, .int r1.2), (0, .ref (a + 1))]) (st' := [.int (0 : Int32), .ref (a + 1), .ref (a + 2)]) [(190, .aload_n 0, 1, .null), (191, .iconst 0, 1, .int (0 : Int32))] (by decide +kernel) rfl ?_
                    refine aw_ldc (v := (99999 : Int32)) kwX3_114 (by decide +kernel) ?_
                    obtain ⟨r69, e70, hm⟩ := bn_x hm
                    refine aw_cv (rest := [.ref (a + 2)]) (st1 := [.int r69.2, .ref (a + 2)]) a 1 (kX3_readNumber e70 h0 hf) rfl rfl ckX3_readNumber lkX3_73 h0 eo_B_1 ⟨_, _, rfl⟩ nkX3_readNumber rfl rfl rfl (Nat.le_of_ble_eq_true rfl) (Nat.zero_le _) (Nat.zero_le _) (by decide +kernel) (fun H71 z72 => ?_)
                    obtain ⟨z72, hn⟩ := z72
                    have h0 := hn
                    have hs := hs.step z72 (by omega) (by omega)
                    obtain ⟨s73, e74, hm⟩ := bd_x hm
                    refine aw_pl a 2 h0 eo_B_2 fsq_5_17 fpX3_115 hf rfl rfl e74 (by decide +kernel) (fun H75 h0 z76 => ?_)
                    have hs := hs.step z76 (by omega) (by omega)
                    refine aw_b (pc' := 201) (lv' := [(1, .int r1.2), (0, .ref (a + 1))]) (st' := [.ref (a + 1)]) [(200, .aload_n 0, 1, .null)] (by decide +kernel) rfl ?_
                    refine aw_gl (v := .ref (a + 2)) a 1 h0 eo_B_1 fgX3_12 rfl (by decide +kernel) ?_
                    refine aw_b (pc' := 209) (lv' := [(1, .int r1.2), (0, .ref (a + 1))]) (st' := [.int (9999 : Int32), .int (0 : Int32), .ref (a + 1), .ref (a + 2)]) [(204, .aload_n 0, 1, .null), (205, .iconst 0, 1, .int (0 : Int32)), (206, .sipush 9999, 3, .int (9999 : Int32))] (by decide +kernel) rfl ?_
                    obtain ⟨r77, e78, hm⟩ := bn_x hm
                    refine aw_cv (rest := [.ref (a + 2)]) (st1 := [.int r77.2, .ref (a + 2)]) a 1 (kX3_readNumber e78 h0 hf) rfl rfl ckX3_readNumber lkX3_73 h0 eo_B_1 ⟨_, _, rfl⟩ nkX3_readNumber rfl rfl rfl (Nat.le_of_ble_eq_true rfl) (Nat.zero_le _) (Nat.zero_le _) (by decide +kernel) (fun H79 z80 => ?_)
                    obtain ⟨z80, hn⟩ := z80
                    have h0 := hn
                    have hs := hs.step z80 (by omega) (by omega)
                    obtain ⟨s81, e82, hm⟩ := bd_x hm
                    refine aw_pl a 2 h0 eo_B_2 fsq_5_18 fpX3_118 hf rfl rfl e82 (by decide +kernel) (fun H83 h0 z84 => ?_)
                    have hs := hs.step z84 (by omega) (by omega)
                    refine aw_b (pc' := 227) (lv' := [(1, .int r1.2), (0, .ref (a + 1))]) (st' := []) [(215, .goto 12, 3, .null)] (by decide +kernel) rfl ?_
                    obtain rfl := Option.some.inj hm
                    subst hQ
                    exact aw_vret rfl (Nat.zero_le _) (Nat.zero_le _) (by decide +kernel) ⟨rfl, hs, h0⟩
                  · have hm := (if_neg hc).symm.trans hm
                    show aw E _ Q 218 _ _ _ _ _
                    refine aw_b (pc' := 221) (lv' := [(1, .int r1.2), (0, .ref (a + 1))]) (st' := [.ref (a + 1), .int (1 : Int32), .ref (a + 1)]) [(218, .aload_n 0, 1, .null), (219, .iconst 1, 1, .int (1 : Int32)), (220, .aload_n 0, 1, .null)] (by decide +kernel) rfl ?_
                    refine aw_gl (v := .int (r1.1 1 4)) a 1 h0 eo_B_1 fgX3_35 rfl (by decide +kernel) ?_
                    obtain ⟨r85, e86, hm⟩ := bn_x hm
                    refine aw_cv (rest := []) (st1 := []) a 1 (kX3_fail e86 h0 hf) rfl rfl ckX3_fail lkX3_63 h0 eo_B_1 ⟨_, _, rfl⟩ nkX3_fail rfl rfl rfl (Nat.le_of_ble_eq_true rfl) (Nat.zero_le _) (Nat.zero_le _) (by decide +kernel) (fun H87 z88 => ?_)
                    obtain ⟨z88, hn⟩ := z88
                    have h0 := hn
                    have hs := hs.step z88 (by omega) (by omega)
                    obtain rfl := Option.some.inj hm
                    subst hQ
                    exact aw_vret rfl (Nat.zero_le _) (Nat.zero_le _) (by decide +kernel) ⟨rfl, hs, h0⟩
def mX3_readText : mt_ := (yX3_readText, cX3_readText, 4, none, [], { frames := 11, locals := 273, cells := 0, slots := 0 })
theorem ckX3_readText : cokV_ mX3_readText := ⟨⟨(uw_mem 630 (by decide +kernel) (by decide +kernel)), (uw_mem 30 (by decide +kernel) (by decide +kernel)), by decide +kernel, by decide +kernel⟩, (uw_mem 628 (by decide +kernel) (by decide +kernel)), (uw_mem 629 (by decide +kernel) (by decide +kernel))⟩
theorem nkX3_readText : nok_ mX3_readText 2 := by decide +kernel
theorem fpX3_18 : fpk_ RX3 18 3 1 (.array .byte) := ⟨_, _, _, tyX3, rfl, by decide, (uw_mem 178 (by decide +kernel) (by decide +kernel)), wkX3, tyX3_ok, nmX3, rfl, by decide +kernel⟩
theorem fpX3_28 : fpk_ RX3 28 3 2 .int := ⟨_, _, _, tyX3, rfl, by decide, (uw_mem 179 (by decide +kernel) (by decide +kernel)), wkX3, tyX3_ok, nmX3, rfl, by decide +kernel⟩
theorem fsq_3_2 : fsp_ fsX3 2 := ⟨fun _ _ => rfl, fun _ _ _ => rfl⟩
theorem lkX3_44 : Cond.methodLink RX3 44 yX5_becomeDefault ∈ uw_ := (uw_mem 634 (by decide +kernel) (by decide +kernel))
theorem lkX3_47 : Cond.methodLink RX3 47 yX3_readDrive ∈ uw_ := (uw_mem 635 (by decide +kernel) (by decide +kernel))
theorem lkX3_57 : Cond.methodLink RX3 57 yX5_completeRules ∈ uw_ := (uw_mem 704 (by decide +kernel) (by decide +kernel))
theorem lkX3_50 : Cond.methodLink RX3 50 yX3_hasMore ∈ uw_ := (uw_mem 667 (by decide +kernel) (by decide +kernel))
theorem lkX3_54 : Cond.methodLink RX3 54 yX3_readStatement ∈ uw_ := (uw_mem 671 (by decide +kernel) (by decide +kernel))
theorem kX3_readText {E : ev_} {H : Heap} {a : Nat} {s : st_} {i0 : Int32} {r : st_} (hm : fX3_readText s i0 = some r) (h0 : has_ E H a ly_B s) (hf : ev_fr E a) : sp_ E mX3_readText [.ref (a + 1), .ref a, .int i0] H (po1 (.inl (none)) (fun Hn => sm_ H Hn a 7 ∧ has_ E Hn a ly_B r)) := by
  refine sp_of (by decide +kernel) rfl rfl ?_
  generalize hQ : po1 _ _ = Q
  have hs : sm_ H H a 7 := sm_.rfl'
  unfold fX3_readText at hm
  refine aw_lv (lv' := [(0, .ref (a + 1)), (1, .ref a), (2, .int i0)]) [0, 1, 2] rfl ?_
  refine aw_b (pc' := 2) (lv' := [(0, .ref (a + 1)), (1, .ref a), (2, .int i0)]) (st' := [.ref a, .ref (a + 1)]) [(0, .aload_n 0, 1, .null), (1, .aload_n 1, 1, .null)] (by decide +kernel) rfl ?_
  obtain ⟨s1, e2, hm⟩ := bd_x hm
  refine aw_plt a 1 h0 eo_B_1 fpX3_18 hf rfl e2 (by decide +kernel) (fun H3 h0 z4 => ?_)
  have hs := hs.step z4 (by omega) (by omega)
  refine aw_b (pc' := 8) (lv' := [(0, .ref (a + 1)), (1, .ref a), (2, .int i0)]) (st' := [.ref a, .int i0, .ref (a + 1)]) [(5, .aload_n 0, 1, .null), (6, .iload_n 2, 1, .null), (7, .aload_n 1, 1, .null)] (by decide +kernel) rfl ?_
  refine aw_all (ci := 1) (N := 500) (v := (500 : Int32)) a 0 h0 rfl (x := fun _ _ c => .inl c) (fun _ _ => rfl) rfl (by decide +kernel) (by decide +kernel) ?_
  refine aw_mn (rest := [.ref (a + 1)]) mtX3_22 rfl (Nat.le_of_ble_eq_true rfl) (Nat.zero_le _) (Nat.zero_le _) (by decide +kernel) ?_
  obtain ⟨s5, e6, hm⟩ := bd_x hm
  refine aw_pl a 1 h0 eo_B_1 fsq_3_2 fpX3_28 hf rfl rfl e6 (by decide +kernel) (fun H7 h0 z8 => ?_)
  have hs := hs.step z8 (by omega) (by omega)
  refine aw_b (pc' := 17) (lv' := [(0, .ref (a + 1)), (1, .ref a), (2, .int i0)]) (st' := [.int (0 : Int32), .ref (a + 1)]) [(15, .aload_n 0, 1, .null), (16, .iconst 0, 1, .int (0 : Int32))] (by decide +kernel) rfl ?_
  obtain ⟨s9, e10, hm⟩ := bd_x hm
  refine aw_pl a 1 h0 eo_B_1 fsq_3_3 fpX3_32 hf rfl rfl e10 (by decide +kernel) (fun H11 h0 z12 => ?_)
  have hs := hs.step z12 (by omega) (by omega)
  refine aw_b (pc' := 22) (lv' := [(0, .ref (a + 1)), (1, .ref a), (2, .int i0)]) (st' := [.int (0 : Int32), .ref (a + 1)]) [(20, .aload_n 0, 1, .null), (21, .iconst 0, 1, .int (0 : Int32))] (by decide +kernel) rfl ?_
  obtain ⟨s13, e14, hm⟩ := bd_x hm
  refine aw_pl a 1 h0 eo_B_1 fsq_3_4 fpX3_35 hf rfl rfl e14 (by decide +kernel) (fun H15 h0 z16 => ?_)
  have hs := hs.step z16 (by omega) (by omega)
  refine aw_b (pc' := 27) (lv' := [(0, .ref (a + 1)), (1, .ref a), (2, .int i0)]) (st' := [.int (0 : Int32), .ref (a + 1)]) [(25, .aload_n 0, 1, .null), (26, .iconst 0, 1, .int (0 : Int32))] (by decide +kernel) rfl ?_
  obtain ⟨s17, e18, hm⟩ := bd_x hm
  refine aw_pl a 1 h0 eo_B_1 fsq_3_5 fpX3_38 hf rfl rfl e18 (by decide +kernel) (fun H19 h0 z20 => ?_)
  have hs := hs.step z20 (by omega) (by omega)
  refine aw_b (pc' := 32) (lv' := [(0, .ref (a + 1)), (1, .ref a), (2, .int i0)]) (st' := [.int (0 : Int32), .ref (a + 1)]) [(30, .aload_n 0, 1, .null), (31, .iconst 0, 1, .int (0 : Int32))] (by decide +kernel) rfl ?_
  obtain ⟨s21, e22, hm⟩ := bd_x hm
  refine aw_pl a 1 h0 eo_B_1 fsq_3_6 fpX3_41 hf rfl rfl e22 (by decide +kernel) (fun H23 h0 z24 => ?_)
  have hs := hs.step z24 (by omega) (by omega)
  refine aw_b (pc' := 36) (lv' := [(0, .ref (a + 1)), (1, .ref a), (2, .int i0)]) (st' := [.ref (a + 1)]) [(35, .aload_n 0, 1, .null)] (by decide +kernel) rfl ?_
  refine aw_gl (v := .ref (a + 2)) a 1 h0 eo_B_1 fgX3_12 rfl (by decide +kernel) ?_
  obtain ⟨r25, e26, hm⟩ := bn_x hm
  refine aw_cv (rest := []) (st1 := []) a 2 (kX5_becomeDefault e26 (h0.sub su_B_2_S) (Nat.le_trans hf (Nat.le_add_right _ _))) rfl rfl ckX5_becomeDefault lkX3_44 h0 eo_B_2 ⟨_, _, rfl⟩ nkX5_becomeDefault rfl rfl rfl (Nat.le_of_ble_eq_true rfl) (Nat.zero_le _) (Nat.zero_le _) (by decide +kernel) (fun H27 z28 => ?_)
  obtain ⟨z28, hn⟩ := z28
  obtain ⟨s29, e30, hm⟩ := bd_x hm
  have h0 := h0.mg su_B_2_S hn z28 rfl e30
  have hs := hs.step z28 (by omega) (by omega)
  refine aw_b (pc' := 43) (lv' := [(0, .ref (a + 1)), (1, .ref a), (2, .int i0)]) (st' := [.ref (a + 1)]) [(42, .aload_n 0, 1, .null)] (by decide +kernel) rfl ?_
  obtain ⟨r31, e32, hm⟩ := bn_x hm
  refine aw_cv (rest := []) (st1 := []) a 1 (kX3_readDrive e32 h0 hf) rfl rfl ckX3_readDrive lkX3_47 h0 eo_B_1 ⟨_, _, rfl⟩ nkX3_readDrive rfl rfl rfl (Nat.le_of_ble_eq_true rfl) (Nat.zero_le _) (Nat.zero_le _) (by decide +kernel) (fun H33 z34 => ?_)
  obtain ⟨z34, hn⟩ := z34
  have h0 := hn
  have hs := hs.step z34 (by omega) (by omega)
  refine aw_b (pc' := 48) (lv' := [(3, .int (0 : Int32)), (0, .ref (a + 1)), (1, .ref a), (2, .int i0)]) (st' := []) [(46, .iconst 0, 1, .int (0 : Int32)), (47, .istore_n 3, 1, .null)] (by decide +kernel) rfl ?_
  obtain ⟨x48, hx48, hr48⟩ := bn_x hm
  have X48_72 : ∀ (s_x48_72 : st_) (H_x48_72 : Heap), has_ E H_x48_72 a ly_B s_x48_72 → sm_ H H_x48_72 a 7 → fX3_readText_x48_72 s_x48_72 = some r → aw E mX3_readText Q 72 [(0, .ref (a + 1))] [] H_x48_72 0 0 := by
    intro s_x48_72 H_x48_72 h0 hs hm
    unfold fX3_readText_x48_72 at hm
    refine aw_b (pc' := 73) (lv' := [(0, .ref (a + 1))]) (st' := [.ref (a + 1)]) [(72, .aload_n 0, 1, .null)] (by decide +kernel) rfl ?_
    refine aw_gl (v := .ref (a + 2)) a 1 h0 eo_B_1 fgX3_12 rfl (by decide +kernel) ?_
    obtain ⟨r35, e36, hm⟩ := bn_x hm
    refine aw_cv (rest := []) (st1 := []) a 2 (kX5_completeRules e36 (h0.sub su_B_2_S) (Nat.le_trans hf (Nat.le_add_right _ _))) rfl rfl ckX5_completeRules lkX3_57 h0 eo_B_2 ⟨_, _, rfl⟩ nkX5_completeRules rfl rfl rfl (Nat.le_of_ble_eq_true rfl) (Nat.zero_le _) (Nat.zero_le _) (by decide +kernel) (fun H37 z38 => ?_)
    obtain ⟨z38, hn⟩ := z38
    obtain ⟨s39, e40, hm⟩ := bd_x hm
    have h0 := h0.mg su_B_2_S hn z38 rfl e40
    have hs := hs.step z38 (by omega) (by omega)
    obtain rfl := Option.some.inj hm
    subst hQ
    exact aw_vret rfl (Nat.zero_le _) (Nat.zero_le _) (by decide +kernel) ⟨rfl, hs, h0⟩
  have L48 : ∀ (fu : Nat) (v3_b48 : Int32) (s_b48 : st_) (H_b48 : Heap), has_ E H_b48 a ly_B s_b48 → sm_ H H_b48 a 7 → fX3_readText_l48 fu (v3_b48, s_b48) = some x48 → aw E mX3_readText Q 48 [(0, .ref (a + 1)), (3, .int v3_b48)] [] H_b48 0 0 := by
    intro fu
    induction fu with
    | zero =>
      intro v3_b48 s_b48 H_b48 h0 hs hm
      exact (it_0 hm).elim
    | succ fu ih48 =>
      intro v3_b48 s_b48 H_b48 h0 hs hm
      obtain ⟨y48, hm, hk48⟩ := it_s hm
      have hm : fX3_readText_b48 v3_b48 s_b48 = some y48 := hm
      unfold fX3_readText_b48 at hm
      refine aw_b (pc' := 52) (lv' := [(0, .ref (a + 1)), (3, .int v3_b48)]) (st' := [.int (500 : Int32), .int v3_b48]) [(48, .iload_n 3, 1, .null), (49, .sipush 500, 3, .int (500 : Int32))] (by decide +kernel) rfl ?_
      refine aw_ic_ge (off := 20) 72 (by decide) (by decide +kernel) (fun hc => ?_) (fun hc => ?_)
      · have hm := (if_pos hc).symm.trans hm
        cases hm
        refine aw_lv (lv' := [(0, .ref (a + 1))]) [0] rfl ?_
        exact X48_72 s_b48 H_b48 h0 hs ((congrArg fX3_readText_k48 (show (s_b48) = x48 from hk48)).trans hr48)
      · have hm := (if_neg hc).symm.trans hm
        refine aw_b (pc' := 56) (lv' := [(0, .ref (a + 1)), (3, .int v3_b48)]) (st' := [.ref (a + 1)]) [(55, .aload_n 0, 1, .null)] (by decide +kernel) rfl ?_
        obtain ⟨r41, e42, hm⟩ := bn_x hm
        refine aw_cv (rest := []) (st1 := [.int r41.2]) a 1 (kX3_hasMore e42 h0 hf) rfl rfl ckX3_hasMore lkX3_50 h0 eo_B_1 ⟨_, _, rfl⟩ nkX3_hasMore rfl rfl rfl (Nat.le_of_ble_eq_true rfl) (Nat.zero_le _) (Nat.zero_le _) (by decide +kernel) (fun H43 z44 => ?_)
        obtain ⟨z44, hn⟩ := z44
        have h0 := hn
        have hs := hs.step z44 (by omega) (by omega)
        refine aw_if_eq (off := 13) 72 (by decide) (by decide +kernel) (fun hc => ?_) (fun hc => ?_)
        · have hm := (if_pos hc).symm.trans hm
          cases hm
          refine aw_lv (lv' := [(0, .ref (a + 1))]) [0] rfl ?_
          exact X48_72 r41.1 H43 h0 hs ((congrArg fX3_readText_k48 (show (r41.1) = x48 from hk48)).trans hr48)
        · have hm := (if_neg hc).symm.trans hm
          refine aw_b (pc' := 63) (lv' := [(0, .ref (a + 1)), (3, .int v3_b48)]) (st' := [.ref (a + 1)]) [(62, .aload_n 0, 1, .null)] (by decide +kernel) rfl ?_
          obtain ⟨r45, e46, hm⟩ := bn_x hm
          refine aw_cv (rest := []) (st1 := []) a 1 (kX3_readStatement e46 h0 hf) rfl rfl ckX3_readStatement lkX3_54 h0 eo_B_1 ⟨_, _, rfl⟩ nkX3_readStatement rfl rfl rfl (Nat.le_of_ble_eq_true rfl) (Nat.zero_le _) (Nat.zero_le _) (by decide +kernel) (fun H47 z48 => ?_)
          obtain ⟨z48, hn⟩ := z48
          have h0 := hn
          have hs := hs.step z48 (by omega) (by omega)
          refine aw_b (pc' := 48) (lv' := [(3, .int (v3_b48 + (1 : Int32))), (0, .ref (a + 1))]) (st' := []) [(66, .iinc 3 1, 3, .int (1 : Int32)), (69, .goto (-21), 3, .null)] (by decide +kernel) rfl ?_
          cases hm
          refine aw_lv (lv' := [(0, .ref (a + 1)), (3, .int (v3_b48 + (1 : Int32)))]) [1, 0] rfl ?_
          exact ih48 (v3_b48 + (1 : Int32)) r45 H47 h0 hs hk48
  refine aw_lv (lv' := [(0, .ref (a + 1)), (3, .int (0 : Int32))]) [1, 0] rfl ?_
  exact L48 FU_ (0 : Int32) r31 H33 h0 hs hx48
