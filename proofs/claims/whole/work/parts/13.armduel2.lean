/-! mirrors of methods, and that the methods do as they say: printed by wip/whole/gen_parts.py out of the listing -/
def mX7_bestSwap : mt_ := (yX7_bestSwap, cX7_bestSwap, 2, some .int, [], { frames := 7, locals := 121, cells := 1, slots := 6 })
theorem ckX7_bestSwap : cokV_ mX7_bestSwap := ⟨⟨(uw_mem 1191 (by decide +kernel) (by decide +kernel)), (uw_mem 103 (by decide +kernel) (by decide +kernel)), by decide +kernel, by decide +kernel⟩, (uw_mem 1189 (by decide +kernel) (by decide +kernel)), (uw_mem 1190 (by decide +kernel) (by decide +kernel))⟩
theorem nkX7_bestSwap : nok_ mX7_bestSwap 1 := by decide +kernel
def fX7_bestSwap (s : st_) (i0 : Int32) : Option ((Int32 ⊕ Nat)) :=
  bn_ (fX7_requireRule s i0) fun r1 =>
  tb_ r1 (fun x5 =>
  bn_ (fX4_cheapestSwap (sb_ s 42) i0) fun r7 =>
  some (.inl r7))
  (fun c6 => some (.inr c6))
theorem kX7_bestSwap {E : ev_} {H : Heap} {a : Nat} {s : st_} {i0 : Int32} {r : (Int32 ⊕ Nat)} (hm : fX7_bestSwap s i0 = some r) (h0 : has_ E H a ly_M s) : sp_ E mX7_bestSwap [.ref a, .int i0] H (po1 (thr_ (fun x => some (.int x)) r) (fun Hn => sm_ H Hn 0 0)) := by
  refine sp_of (by decide +kernel) rfl rfl ?_
  generalize hQ : po1 _ _ = Q
  have hs : sm_ H H 0 0 := sm_.rfl'
  unfold fX7_bestSwap at hm
  refine aw_lv (lv' := [(0, .ref a), (1, .int i0)]) [0, 1] rfl ?_
  refine aw_b (pc' := 2) (lv' := [(0, .ref a), (1, .int i0)]) (st' := [.int i0, .ref a]) [(0, .aload_n 0, 1, .null), (1, .iload_n 1, 1, .null)] (by decide +kernel) rfl ?_
  obtain ⟨r1, e2, hm⟩ := bn_x hm
  refine aw_ct (rest := []) (u := 1) (u6 := 6) a 0 (kX7_requireRule e2 h0) rfl ckX7_requireRule lkX7_138 h0 eo_M_0 ⟨_, _, rfl⟩ nkX7_requireRule rfl rfl rfl rfl rfl (Nat.le_of_ble_eq_true rfl) (Nat.le_of_ble_eq_true rfl) (Nat.le_of_ble_eq_true rfl) (by decide +kernel) (fun x5 H3 hv z4 => ?_) (fun c6 H3 hv z => ?_)
  · have hm := tb_i hv hm
    have h0 := h0.kept0 z4
    have hs := hs.step0 z4
    show aw E _ Q 5 _ [] _ _ _
    refine aw_b (pc' := 6) (lv' := [(0, .ref a), (1, .int i0)]) (st' := [.ref a]) [(5, .aload_n 0, 1, .null)] (by decide +kernel) rfl ?_
    refine aw_gl (v := .ref (a + 8)) a 0 h0 eo_M_0 fgX7_30 rfl (by decide +kernel) ?_
    refine aw_gl (v := .ref (a + 42)) a 8 h0 eo_M_8 fgX7_153 rfl (by decide +kernel) ?_
    refine aw_b (pc' := 13) (lv' := [(0, .ref a), (1, .int i0)]) (st' := [.int i0, .ref (a + 42)]) [(12, .iload_n 1, 1, .null)] (by decide +kernel) rfl ?_
    obtain ⟨r7, e8, hm⟩ := bn_x hm
    refine aw_cv (rest := []) (st1 := [.int r7]) a 42 (kX4_cheapestSwap e8 (h0.sub su_M_42_R)) rfl rfl ckX4_cheapestSwap lkX7_296 h0 eo_M_42 ⟨_, _, rfl⟩ nkX4_cheapestSwap rfl rfl rfl (Nat.le_of_ble_eq_true rfl) (Nat.le_of_ble_eq_true rfl) (Nat.le_of_ble_eq_true rfl) (by decide +kernel) (fun H9 z10 => ?_)
    have h0 := h0.kept0 z10
    have hs := hs.step0 z10
    obtain rfl := Option.some.inj hm
    subst hQ
    exact aw_iret rfl (Nat.le_of_ble_eq_true rfl) (Nat.le_of_ble_eq_true rfl) (by decide +kernel) ⟨rfl, hs⟩
  · have hm := tb_e hv hm
    obtain rfl := Option.some.inj hm
    subst hQ
    exact ⟨rfl, hs.step0 z⟩
def mX7_rival : mt_ := (yX7_rival, cX7_rival, 3, some .int, [], { frames := 7, locals := 122, cells := 1, slots := 6 })
theorem ckX7_rival : cokV_ mX7_rival := ⟨⟨(uw_mem 1198 (by decide +kernel) (by decide +kernel)), (uw_mem 103 (by decide +kernel) (by decide +kernel)), by decide +kernel, by decide +kernel⟩, (uw_mem 1196 (by decide +kernel) (by decide +kernel)), (uw_mem 1197 (by decide +kernel) (by decide +kernel))⟩
theorem nkX7_rival : nok_ mX7_rival 1 := by decide +kernel
theorem lkX7_299 : Cond.methodLink RX7 299 yX5_hasRival ∈ uw_ := (uw_mem 1199 (by decide +kernel) (by decide +kernel))
theorem fgX7_303 : fok_ RX7 303 5 14 := ⟨_, _, _, rfl, by decide, (uw_mem 190 (by decide +kernel) (by decide +kernel)), wkX5⟩
theorem fgX7_306 : fok_ RX7 306 1 2 := ⟨_, _, _, rfl, by decide, (uw_mem 357 (by decide +kernel) (by decide +kernel)), wkX1⟩
theorem eo_M_17 : eo_ ly_M 17 0 fsX0 := rfl
theorem fgX7_309 : fok_ RX7 309 4 13 := ⟨_, _, _, rfl, by decide, (uw_mem 437 (by decide +kernel) (by decide +kernel)), wkX4⟩
theorem fgX7_312 : fok_ RX7 312 1 13 := ⟨_, _, _, rfl, by decide, (uw_mem 376 (by decide +kernel) (by decide +kernel)), wkX1⟩
theorem kwX7_302 : Cond.constant RX7 302 (-2000000000 : Int32) ∈ uw_ := (uw_mem 1200 (by decide +kernel) (by decide +kernel))
def fX7_rival (s : st_) (i0 : Int32) : Option ((Int32 ⊕ Nat)) :=
  bn_ (fX7_requireWithin i0 (0 : Int32) (5 : Int32)) fun r1 =>
  tb_ r1 (fun x5 =>
  bn_ (fX5_hasRival (sb_ s 10)) fun r7 =>
  if r7 = (0 : Int32) then (some (.inl (-2000000000 : Int32)))
  else (if i0 = (0 : Int32) then (some (.inl (s 10 14)))
  else (if i0 = (1 : Int32) then (some (.inl (s 17 0)))
  else (if i0 = (2 : Int32) then (some (.inl (s 17 5)))
  else (if i0 = (3 : Int32) then (bn_ (fX1_cheapestRule (sb_ s 9)) fun r11 =>
  gd_ (ib_ r11 6) <|
  some (.inl ((s 17 5) - (s (3 * ix_ r11 + 24) 5))))
  else (if i0 = (4 : Int32) then (some (.inl (s 42 13)))
  else (some (.inl (s 9 13)))))))))
  (fun c6 => some (.inr c6))
theorem kX7_rival {E : ev_} {H : Heap} {a : Nat} {s : st_} {i0 : Int32} {r : (Int32 ⊕ Nat)} (hm : fX7_rival s i0 = some r) (h0 : has_ E H a ly_M s) : sp_ E mX7_rival [.ref a, .int i0] H (po1 (thr_ (fun x => some (.int x)) r) (fun Hn => sm_ H Hn 0 0)) := by
  refine sp_of (by decide +kernel) rfl rfl ?_
  generalize hQ : po1 _ _ = Q
  have hs : sm_ H H 0 0 := sm_.rfl'
  unfold fX7_rival at hm
  refine aw_lv (lv' := [(0, .ref a), (1, .int i0)]) [0, 1] rfl ?_
  refine aw_b (pc' := 3) (lv' := [(0, .ref a), (1, .int i0)]) (st' := [.int (5 : Int32), .int (0 : Int32), .int i0]) [(0, .iload_n 1, 1, .null), (1, .iconst 0, 1, .int (0 : Int32)), (2, .iconst 5, 1, .int (5 : Int32))] (by decide +kernel) rfl ?_
  obtain ⟨r1, e2, hm⟩ := bn_x hm
  refine aw_cts (rest := []) (u := 1) (u6 := 6) (kX7_requireWithin e2) rfl ckX7_requireWithin lkX7_196 nkX7_requireWithin rfl rfl rfl rfl rfl (Nat.le_of_ble_eq_true rfl) (Nat.le_of_ble_eq_true rfl) (Nat.le_of_ble_eq_true rfl) (by decide +kernel) (fun x5 H3 hv z4 => ?_) (fun c6 H3 hv z => ?_)
  · have hm := tb_i hv hm
    have h0 := h0.kept0 z4
    have hs := hs.step0 z4
    show aw E _ Q 6 _ [] _ _ _
    refine aw_b (pc' := 7) (lv' := [(0, .ref a), (1, .int i0)]) (st' := [.ref a]) [(6, .aload_n 0, 1, .null)] (by decide +kernel) rfl ?_
    refine aw_gl (v := .ref (a + 8)) a 0 h0 eo_M_0 fgX7_30 rfl (by decide +kernel) ?_
    refine aw_gl (v := .ref (a + 9)) a 8 h0 eo_M_8 fgX7_80 rfl (by decide +kernel) ?_
    refine aw_b (pc' := 15) (lv' := [(2, .ref (a + 9)), (0, .ref a), (1, .int i0)]) (st' := [.ref (a + 9)]) [(13, .astore_n 2, 1, .null), (14, .aload_n 2, 1, .null)] (by decide +kernel) rfl ?_
    refine aw_gl (v := .ref (a + 10)) a 9 h0 eo_M_9 fgX7_83 rfl (by decide +kernel) ?_
    obtain ⟨r7, e8, hm⟩ := bn_x hm
    refine aw_cv (rest := []) (st1 := [.int r7]) a 10 (kX5_hasRival e8 (h0.sub su_M_10_S)) rfl rfl ckX5_hasRival lkX7_299 h0 eo_M_10 ⟨_, _, rfl⟩ nkX5_hasRival rfl rfl rfl (Nat.le_of_ble_eq_true rfl) (Nat.le_of_ble_eq_true rfl) (Nat.le_of_ble_eq_true rfl) (by decide +kernel) (fun H9 z10 => ?_)
    have h0 := h0.kept0 z10
    have hs := hs.step0 z10
    refine aw_if_ne (off := 7) 28 (by decide) (by decide +kernel) (fun hc => ?_) (fun hc => ?_)
    · have hm := (if_neg hc).symm.trans hm
      refine aw_b (pc' := 29) (lv' := [(2, .ref (a + 9)), (0, .ref a), (1, .int i0)]) (st' := [.int i0]) [(28, .iload_n 1, 1, .null)] (by decide +kernel) rfl ?_
      refine aw_ts [((0 : Int32), 64), ((1 : Int32), 72), ((2 : Int32), 80), ((3 : Int32), 88), ((4 : Int32), 109)] 120 (by decide +kernel) ?_
      refine aw_tg (fun hc => ?_) (fun hc => ?_)
      · have hm := (if_pos hc).symm.trans hm
        refine aw_b (pc' := 65) (lv' := [(2, .ref (a + 9)), (0, .ref a), (1, .int i0)]) (st' := [.ref (a + 9)]) [(64, .aload_n 2, 1, .null)] (by decide +kernel) rfl ?_
        refine aw_gl (v := .ref (a + 10)) a 9 h0 eo_M_9 fgX7_83 rfl (by decide +kernel) ?_
        refine aw_gl (v := .int (s 10 14)) a 10 h0 eo_M_10 fgX7_303 rfl (by decide +kernel) ?_
        obtain rfl := Option.some.inj hm
        subst hQ
        exact aw_iret rfl (Nat.le_of_ble_eq_true rfl) (Nat.le_of_ble_eq_true rfl) (by decide +kernel) ⟨rfl, hs⟩
      · have hm := (if_neg hc).symm.trans hm
        refine aw_tg (fun hc => ?_) (fun hc => ?_)
        · have hm := (if_pos hc).symm.trans hm
          refine aw_b (pc' := 73) (lv' := [(2, .ref (a + 9)), (0, .ref a), (1, .int i0)]) (st' := [.ref (a + 9)]) [(72, .aload_n 2, 1, .null)] (by decide +kernel) rfl ?_
          refine aw_gl (v := .ref (a + 17)) a 9 h0 eo_M_9 fgX7_306 rfl (by decide +kernel) ?_
          refine aw_gl (v := .int (s 17 0)) a 17 h0 eo_M_17 fgX7_221 rfl (by decide +kernel) ?_
          obtain rfl := Option.some.inj hm
          subst hQ
          exact aw_iret rfl (Nat.le_of_ble_eq_true rfl) (Nat.le_of_ble_eq_true rfl) (by decide +kernel) ⟨rfl, hs⟩
        · have hm := (if_neg hc).symm.trans hm
          refine aw_tg (fun hc => ?_) (fun hc => ?_)
          · have hm := (if_pos hc).symm.trans hm
            refine aw_b (pc' := 81) (lv' := [(2, .ref (a + 9)), (0, .ref a), (1, .int i0)]) (st' := [.ref (a + 9)]) [(80, .aload_n 2, 1, .null)] (by decide +kernel) rfl ?_
            refine aw_gl (v := .ref (a + 17)) a 9 h0 eo_M_9 fgX7_306 rfl (by decide +kernel) ?_
            refine aw_gl (v := .int (s 17 5)) a 17 h0 eo_M_17 fgX7_166 rfl (by decide +kernel) ?_
            obtain rfl := Option.some.inj hm
            subst hQ
            exact aw_iret rfl (Nat.le_of_ble_eq_true rfl) (Nat.le_of_ble_eq_true rfl) (by decide +kernel) ⟨rfl, hs⟩
          · have hm := (if_neg hc).symm.trans hm
            refine aw_tg (fun hc => ?_) (fun hc => ?_)
            · have hm := (if_pos hc).symm.trans hm
              refine aw_b (pc' := 89) (lv' := [(2, .ref (a + 9)), (0, .ref a), (1, .int i0)]) (st' := [.ref (a + 9)]) [(88, .aload_n 2, 1, .null)] (by decide +kernel) rfl ?_
              refine aw_gl (v := .ref (a + 17)) a 9 h0 eo_M_9 fgX7_306 rfl (by decide +kernel) ?_
              refine aw_gl (v := .int (s 17 5)) a 17 h0 eo_M_17 fgX7_166 rfl (by decide +kernel) ?_
              refine aw_b (pc' := 96) (lv' := [(2, .ref (a + 9)), (0, .ref a), (1, .int i0)]) (st' := [.ref (a + 9), .int (s 17 5)]) [(95, .aload_n 2, 1, .null)] (by decide +kernel) rfl ?_
              refine aw_gl (v := .ref (a + 20)) a 9 h0 eo_M_9 fgX7_162 rfl (by decide +kernel) ?_
              refine aw_b (pc' := 100) (lv' := [(2, .ref (a + 9)), (0, .ref a), (1, .int i0)]) (st' := [.ref (a + 9), .ref (a + 20), .int (s 17 5)]) [(99, .aload_n 2, 1, .null)] (by decide +kernel) rfl ?_
              obtain ⟨r11, e12, hm⟩ := bn_x hm
              refine aw_cv (rest := [.ref (a + 20), .int (s 17 5)]) (st1 := [.int r11, .ref (a + 20), .int (s 17 5)]) a 9 (kX1_cheapestRule e12 (h0.sub su_M_9_D)) rfl rfl ckX1_cheapestRule lkX7_289 h0 eo_M_9 ⟨_, _, rfl⟩ nkX1_cheapestRule rfl rfl rfl (Nat.le_of_ble_eq_true rfl) (Nat.le_of_ble_eq_true rfl) (Nat.le_of_ble_eq_true rfl) (by decide +kernel) (fun H13 z14 => ?_)
              have h0 := h0.kept0 z14
              have hs := hs.step0 z14
              obtain ⟨g15, hm⟩ := gd_x hm
              refine aw_rall a 20 h0 ra_M_20 g15 (by decide +kernel) ?_
              refine aw_gl (v := .int (s (3 * ix_ r11 + 24) 5)) a (3 * ix_ r11 + 24) h0 (eow_M_24 _ (ib_lt g15)) fgX7_166 rfl (by decide +kernel) ?_
              refine aw_b (pc' := 108) (lv' := [(2, .ref (a + 9)), (0, .ref a), (1, .int i0)]) (st' := [.int ((s 17 5) - (s (3 * ix_ r11 + 24) 5))]) [(107, .isub, 1, .null)] (by decide +kernel) rfl ?_
              obtain rfl := Option.some.inj hm
              subst hQ
              exact aw_iret rfl (Nat.le_of_ble_eq_true rfl) (Nat.le_of_ble_eq_true rfl) (by decide +kernel) ⟨rfl, hs⟩
            · have hm := (if_neg hc).symm.trans hm
              refine aw_tg (fun hc => ?_) (fun hc => ?_)
              · have hm := (if_pos hc).symm.trans hm
                refine aw_b (pc' := 110) (lv' := [(2, .ref (a + 9)), (0, .ref a), (1, .int i0)]) (st' := [.ref a]) [(109, .aload_n 0, 1, .null)] (by decide +kernel) rfl ?_
                refine aw_gl (v := .ref (a + 8)) a 0 h0 eo_M_0 fgX7_30 rfl (by decide +kernel) ?_
                refine aw_gl (v := .ref (a + 42)) a 8 h0 eo_M_8 fgX7_153 rfl (by decide +kernel) ?_
                refine aw_gl (v := .int (s 42 13)) a 42 h0 eo_M_42 fgX7_309 rfl (by decide +kernel) ?_
                obtain rfl := Option.some.inj hm
                subst hQ
                exact aw_iret rfl (Nat.le_of_ble_eq_true rfl) (Nat.le_of_ble_eq_true rfl) (by decide +kernel) ⟨rfl, hs⟩
              · have hm := (if_neg hc).symm.trans hm
                show aw E _ Q 120 _ _ _ _ _
                refine aw_b (pc' := 121) (lv' := [(2, .ref (a + 9)), (0, .ref a), (1, .int i0)]) (st' := [.ref (a + 9)]) [(120, .aload_n 2, 1, .null)] (by decide +kernel) rfl ?_
                refine aw_gl (v := .int (s 9 13)) a 9 h0 eo_M_9 fgX7_312 rfl (by decide +kernel) ?_
                obtain rfl := Option.some.inj hm
                subst hQ
                exact aw_iret rfl (Nat.le_of_ble_eq_true rfl) (Nat.le_of_ble_eq_true rfl) (by decide +kernel) ⟨rfl, hs⟩
    · have hm := (if_pos hc).symm.trans hm
      refine aw_ldcw (v := (-2000000000 : Int32)) kwX7_302 (by decide +kernel) ?_
      obtain rfl := Option.some.inj hm
      subst hQ
      exact aw_iret rfl (Nat.le_of_ble_eq_true rfl) (Nat.le_of_ble_eq_true rfl) (by decide +kernel) ⟨rfl, hs⟩
  · have hm := tb_e hv hm
    obtain rfl := Option.some.inj hm
    subst hQ
    exact ⟨rfl, hs.step0 z⟩
def mX7_cost : mt_ := (yX7_cost, cX7_cost, 3, some .int, [], { frames := 7, locals := 121, cells := 1, slots := 6 })
theorem ckX7_cost : cokV_ mX7_cost := ⟨⟨(uw_mem 1207 (by decide +kernel) (by decide +kernel)), (uw_mem 103 (by decide +kernel) (by decide +kernel)), by decide +kernel, by decide +kernel⟩, (uw_mem 1205 (by decide +kernel) (by decide +kernel)), (uw_mem 1206 (by decide +kernel) (by decide +kernel))⟩
theorem nkX7_cost : nok_ mX7_cost 2 := by decide +kernel
theorem lkX7_315 : Cond.methodLink RX7 315 yX4_hasRounds ∈ uw_ := (uw_mem 763 (by decide +kernel) (by decide +kernel))
theorem lkX7_319 : Cond.methodLink RX7 319 yX4_paidIn ∈ uw_ := (uw_mem 1208 (by decide +kernel) (by decide +kernel))
def fX7_cost (s : st_) (i0 : Int32) (i1 : Int32) : Option ((Int32 ⊕ Nat)) :=
  bn_ (fX7_requireArm s i0) fun r1 =>
  tb_ r1 (fun x5 =>
  bn_ (fX4_hasRounds (sb_ s 42) i1 (1 : Int32)) fun r7 =>
  if r7 = (0 : Int32) then (some (.inl (-2000000000 : Int32)))
  else (bn_ (fX4_paidIn (sb_ s 42) i0 i1 (i1 + (1 : Int32))) fun r11 =>
  some (.inl r11)))
  (fun c6 => some (.inr c6))
theorem kX7_cost {E : ev_} {H : Heap} {a : Nat} {s : st_} {i0 : Int32} {i1 : Int32} {r : (Int32 ⊕ Nat)} (hm : fX7_cost s i0 i1 = some r) (h0 : has_ E H a ly_M s) : sp_ E mX7_cost [.ref a, .int i0, .int i1] H (po1 (thr_ (fun x => some (.int x)) r) (fun Hn => sm_ H Hn 0 0)) := by
  refine sp_of (by decide +kernel) rfl rfl ?_
  generalize hQ : po1 _ _ = Q
  have hs : sm_ H H 0 0 := sm_.rfl'
  unfold fX7_cost at hm
  refine aw_lv (lv' := [(0, .ref a), (1, .int i0), (2, .int i1)]) [0, 1, 2] rfl ?_
  refine aw_b (pc' := 2) (lv' := [(0, .ref a), (1, .int i0), (2, .int i1)]) (st' := [.int i0, .ref a]) [(0, .aload_n 0, 1, .null), (1, .iload_n 1, 1, .null)] (by decide +kernel) rfl ?_
  obtain ⟨r1, e2, hm⟩ := bn_x hm
  refine aw_ct (rest := []) (u := 1) (u6 := 6) a 0 (kX7_requireArm e2 h0) rfl ckX7_requireArm lkX7_214 h0 eo_M_0 ⟨_, _, rfl⟩ nkX7_requireArm rfl rfl rfl rfl rfl (Nat.le_of_ble_eq_true rfl) (Nat.le_of_ble_eq_true rfl) (Nat.le_of_ble_eq_true rfl) (by decide +kernel) (fun x5 H3 hv z4 => ?_) (fun c6 H3 hv z => ?_)
  · have hm := tb_i hv hm
    have h0 := h0.kept0 z4
    have hs := hs.step0 z4
    show aw E _ Q 5 _ [] _ _ _
    refine aw_b (pc' := 6) (lv' := [(0, .ref a), (1, .int i0), (2, .int i1)]) (st' := [.ref a]) [(5, .aload_n 0, 1, .null)] (by decide +kernel) rfl ?_
    refine aw_gl (v := .ref (a + 8)) a 0 h0 eo_M_0 fgX7_30 rfl (by decide +kernel) ?_
    refine aw_gl (v := .ref (a + 42)) a 8 h0 eo_M_8 fgX7_153 rfl (by decide +kernel) ?_
    refine aw_b (pc' := 14) (lv' := [(0, .ref a), (1, .int i0), (2, .int i1)]) (st' := [.int (1 : Int32), .int i1, .ref (a + 42)]) [(12, .iload_n 2, 1, .null), (13, .iconst 1, 1, .int (1 : Int32))] (by decide +kernel) rfl ?_
    obtain ⟨r7, e8, hm⟩ := bn_x hm
    refine aw_cv (rest := []) (st1 := [.int r7]) a 42 (kX4_hasRounds e8 (h0.sub su_M_42_R)) rfl rfl ckX4_hasRounds lkX7_315 h0 eo_M_42 ⟨_, _, rfl⟩ nkX4_hasRounds rfl rfl rfl (Nat.le_of_ble_eq_true rfl) (Nat.le_of_ble_eq_true rfl) (Nat.le_of_ble_eq_true rfl) (by decide +kernel) (fun H9 z10 => ?_)
    have h0 := h0.kept0 z10
    have hs := hs.step0 z10
    refine aw_if_eq (off := 21) 38 (by decide) (by decide +kernel) (fun hc => ?_) (fun hc => ?_)
    · have hm := (if_pos hc).symm.trans hm
      refine aw_ldcw (v := (-2000000000 : Int32)) kwX7_302 (by decide +kernel) ?_
      obtain rfl := Option.some.inj hm
      subst hQ
      exact aw_iret rfl (Nat.le_of_ble_eq_true rfl) (Nat.le_of_ble_eq_true rfl) (by decide +kernel) ⟨rfl, hs⟩
    · have hm := (if_neg hc).symm.trans hm
      refine aw_b (pc' := 21) (lv' := [(0, .ref a), (1, .int i0), (2, .int i1)]) (st' := [.ref a]) [(20, .aload_n 0, 1, .null)] (by decide +kernel) rfl ?_
      refine aw_gl (v := .ref (a + 8)) a 0 h0 eo_M_0 fgX7_30 rfl (by decide +kernel) ?_
      refine aw_gl (v := .ref (a + 42)) a 8 h0 eo_M_8 fgX7_153 rfl (by decide +kernel) ?_
      refine aw_b (pc' := 32) (lv' := [(0, .ref a), (1, .int i0), (2, .int i1)]) (st' := [.int (i1 + (1 : Int32)), .int i1, .int i0, .ref (a + 42)]) [(27, .iload_n 1, 1, .null), (28, .iload_n 2, 1, .null), (29, .iload_n 2, 1, .null), (30, .iconst 1, 1, .int (1 : Int32)), (31, .iadd, 1, .null)] (by decide +kernel) rfl ?_
      obtain ⟨r11, e12, hm⟩ := bn_x hm
      refine aw_cv (rest := []) (st1 := [.int r11]) a 42 (kX4_paidIn e12 (h0.sub su_M_42_R)) rfl rfl ckX4_paidIn lkX7_319 h0 eo_M_42 ⟨_, _, rfl⟩ nkX4_paidIn rfl rfl rfl (Nat.le_of_ble_eq_true rfl) (Nat.le_of_ble_eq_true rfl) (Nat.le_of_ble_eq_true rfl) (by decide +kernel) (fun H13 z14 => ?_)
      have h0 := h0.kept0 z14
      have hs := hs.step0 z14
      refine aw_b (pc' := 41) (lv' := [(0, .ref a), (1, .int i0), (2, .int i1)]) (st' := [.int r11]) [(35, .goto 6, 3, .null)] (by decide +kernel) rfl ?_
      obtain rfl := Option.some.inj hm
      subst hQ
      exact aw_iret rfl (Nat.le_of_ble_eq_true rfl) (Nat.le_of_ble_eq_true rfl) (by decide +kernel) ⟨rfl, hs⟩
  · have hm := tb_e hv hm
    obtain rfl := Option.some.inj hm
    subst hQ
    exact ⟨rfl, hs.step0 z⟩
def mX7_taken : mt_ := (yX7_taken, cX7_taken, 2, some .int, [], { frames := 1, locals := 22, cells := 0, slots := 0 })
theorem ckX7_taken : cokV_ mX7_taken := ⟨⟨(uw_mem 762 (by decide +kernel) (by decide +kernel)), (uw_mem 103 (by decide +kernel) (by decide +kernel)), by decide +kernel, by decide +kernel⟩, (uw_mem 760 (by decide +kernel) (by decide +kernel)), (uw_mem 761 (by decide +kernel) (by decide +kernel))⟩
theorem nkX7_taken : nok_ mX7_taken 1 := by decide +kernel
theorem fgX7_323 : fok_ RX7 323 4 3 := ⟨_, _, _, rfl, by decide, (uw_mem 419 (by decide +kernel) (by decide +kernel)), wkX4⟩
def fX7_taken (s : st_) (i0 : Int32) : Option (Int32) :=
  bn_ (fX4_hasRounds (sb_ s 42) i0 (1 : Int32)) fun r1 =>
  if r1 = (0 : Int32) then (some (-1 : Int32))
  else (gd_ (ib_ i0 1000) <|
  some (s 51 (ix_ i0)))
theorem kX7_taken {E : ev_} {H : Heap} {a : Nat} {s : st_} {i0 : Int32} {r : Int32} (hm : fX7_taken s i0 = some r) (h0 : has_ E H a ly_M s) : sp_ E mX7_taken [.ref a, .int i0] H (po1 (.inl (some (.int r))) (fun Hn => sm_ H Hn 0 0)) := by
  refine sp_of (by decide +kernel) rfl rfl ?_
  generalize hQ : po1 _ _ = Q
  have hs : sm_ H H 0 0 := sm_.rfl'
  unfold fX7_taken at hm
  refine aw_lv (lv' := [(0, .ref a), (1, .int i0)]) [0, 1] rfl ?_
  refine aw_b (pc' := 1) (lv' := [(0, .ref a), (1, .int i0)]) (st' := [.ref a]) [(0, .aload_n 0, 1, .null)] (by decide +kernel) rfl ?_
  refine aw_gl (v := .ref (a + 8)) a 0 h0 eo_M_0 fgX7_30 rfl (by decide +kernel) ?_
  refine aw_gl (v := .ref (a + 42)) a 8 h0 eo_M_8 fgX7_153 rfl (by decide +kernel) ?_
  refine aw_b (pc' := 9) (lv' := [(0, .ref a), (1, .int i0)]) (st' := [.int (1 : Int32), .int i0, .ref (a + 42)]) [(7, .iload_n 1, 1, .null), (8, .iconst 1, 1, .int (1 : Int32))] (by decide +kernel) rfl ?_
  obtain ⟨r1, e2, hm⟩ := bn_x hm
  refine aw_cv (rest := []) (st1 := [.int r1]) a 42 (kX4_hasRounds e2 (h0.sub su_M_42_R)) rfl rfl ckX4_hasRounds lkX7_315 h0 eo_M_42 ⟨_, _, rfl⟩ nkX4_hasRounds rfl rfl rfl (Nat.le_of_ble_eq_true rfl) (Nat.zero_le _) (Nat.zero_le _) (by decide +kernel) (fun H3 z4 => ?_)
  have h0 := h0.kept0 z4
  have hs := hs.step0 z4
  refine aw_if_eq (off := 18) 30 (by decide) (by decide +kernel) (fun hc => ?_) (fun hc => ?_)
  · have hm := (if_pos hc).symm.trans hm
    refine aw_b (pc' := 31) (lv' := [(0, .ref a), (1, .int i0)]) (st' := [.int (-1 : Int32)]) [(30, .iconst (-1), 1, .int (-1 : Int32))] (by decide +kernel) rfl ?_
    obtain rfl := Option.some.inj hm
    subst hQ
    exact aw_iret rfl (Nat.zero_le _) (Nat.zero_le _) (by decide +kernel) ⟨rfl, hs⟩
  · have hm := (if_neg hc).symm.trans hm
    refine aw_b (pc' := 16) (lv' := [(0, .ref a), (1, .int i0)]) (st' := [.ref a]) [(15, .aload_n 0, 1, .null)] (by decide +kernel) rfl ?_
    refine aw_gl (v := .ref (a + 8)) a 0 h0 eo_M_0 fgX7_30 rfl (by decide +kernel) ?_
    refine aw_gl (v := .ref (a + 42)) a 8 h0 eo_M_8 fgX7_153 rfl (by decide +kernel) ?_
    refine aw_gl (v := .ref (a + 51)) a 42 h0 eo_M_42 fgX7_323 rfl (by decide +kernel) ?_
    refine aw_b (pc' := 26) (lv' := [(0, .ref a), (1, .int i0)]) (st' := [.int i0, .ref (a + 51)]) [(25, .iload_n 1, 1, .null)] (by decide +kernel) rfl ?_
    obtain ⟨g5, hm⟩ := gd_x hm
    refine aw_ial a 51 h0 rfl g5 (by decide +kernel) ?_
    refine aw_b (pc' := 31) (lv' := [(0, .ref a), (1, .int i0)]) (st' := [.int (s 51 (ix_ i0))]) [(27, .goto 4, 3, .null)] (by decide +kernel) rfl ?_
    obtain rfl := Option.some.inj hm
    subst hQ
    exact aw_iret rfl (Nat.zero_le _) (Nat.zero_le _) (by decide +kernel) ⟨rfl, hs⟩
def mX7_bestPair : mt_ := (yX7_bestPair, cX7_bestPair, 4, some .int, [], { frames := 7, locals := 122, cells := 1, slots := 6 })
theorem ckX7_bestPair : cokV_ mX7_bestPair := ⟨⟨(uw_mem 1218 (by decide +kernel) (by decide +kernel)), (uw_mem 103 (by decide +kernel) (by decide +kernel)), by decide +kernel, by decide +kernel⟩, (uw_mem 1216 (by decide +kernel) (by decide +kernel)), (uw_mem 1217 (by decide +kernel) (by decide +kernel))⟩
theorem nkX7_bestPair : nok_ mX7_bestPair 1 := by decide +kernel
theorem lkX7_326 : Cond.methodLink RX7 326 yX4_bestSplit ∈ uw_ := (uw_mem 1219 (by decide +kernel) (by decide +kernel))
theorem lkX7_329 : Cond.methodLink RX7 329 yX4_splitCost ∈ uw_ := (uw_mem 1232 (by decide +kernel) (by decide +kernel))
theorem lkX7_332 : Cond.methodLink RX7 332 yX4_cheapestIn ∈ uw_ := (uw_mem 1233 (by decide +kernel) (by decide +kernel))
theorem fgX7_335 : fok_ RX7 335 4 1 := ⟨_, _, _, rfl, by decide, (uw_mem 416 (by decide +kernel) (by decide +kernel)), wkX4⟩
def fX7_bestPair (s : st_) (i0 : Int32) : Option ((Int32 ⊕ Nat)) :=
  bn_ (fX7_requireWithin i0 (0 : Int32) (3 : Int32)) fun r1 =>
  tb_ r1 (fun x5 =>
  bn_ (fX4_bestSplit (sb_ s 42)) fun r7 =>
  if i0 = (0 : Int32) then (bn_ (fX4_splitCost (sb_ s 42) r7) fun r11 =>
  some (.inl r11))
  else (if i0 = (1 : Int32) then (bn_ (fX4_cheapestIn (sb_ s 42) (0 : Int32) r7) fun r15 =>
  some (.inl r15))
  else (if i0 = (2 : Int32) then (bn_ (fX4_cheapestIn (sb_ s 42) r7 (s 42 1)) fun r19 =>
  some (.inl r19))
  else (some (.inl r7)))))
  (fun c6 => some (.inr c6))
theorem kX7_bestPair {E : ev_} {H : Heap} {a : Nat} {s : st_} {i0 : Int32} {r : (Int32 ⊕ Nat)} (hm : fX7_bestPair s i0 = some r) (h0 : has_ E H a ly_M s) : sp_ E mX7_bestPair [.ref a, .int i0] H (po1 (thr_ (fun x => some (.int x)) r) (fun Hn => sm_ H Hn 0 0)) := by
  refine sp_of (by decide +kernel) rfl rfl ?_
  generalize hQ : po1 _ _ = Q
  have hs : sm_ H H 0 0 := sm_.rfl'
  unfold fX7_bestPair at hm
  refine aw_lv (lv' := [(0, .ref a), (1, .int i0)]) [0, 1] rfl ?_
  refine aw_b (pc' := 3) (lv' := [(0, .ref a), (1, .int i0)]) (st' := [.int (3 : Int32), .int (0 : Int32), .int i0]) [(0, .iload_n 1, 1, .null), (1, .iconst 0, 1, .int (0 : Int32)), (2, .iconst 3, 1, .int (3 : Int32))] (by decide +kernel) rfl ?_
  obtain ⟨r1, e2, hm⟩ := bn_x hm
  refine aw_cts (rest := []) (u := 1) (u6 := 6) (kX7_requireWithin e2) rfl ckX7_requireWithin lkX7_196 nkX7_requireWithin rfl rfl rfl rfl rfl (Nat.le_of_ble_eq_true rfl) (Nat.le_of_ble_eq_true rfl) (Nat.le_of_ble_eq_true rfl) (by decide +kernel) (fun x5 H3 hv z4 => ?_) (fun c6 H3 hv z => ?_)
  · have hm := tb_i hv hm
    have h0 := h0.kept0 z4
    have hs := hs.step0 z4
    show aw E _ Q 6 _ [] _ _ _
    refine aw_b (pc' := 7) (lv' := [(0, .ref a), (1, .int i0)]) (st' := [.ref a]) [(6, .aload_n 0, 1, .null)] (by decide +kernel) rfl ?_
    refine aw_gl (v := .ref (a + 8)) a 0 h0 eo_M_0 fgX7_30 rfl (by decide +kernel) ?_
    refine aw_gl (v := .ref (a + 42)) a 8 h0 eo_M_8 fgX7_153 rfl (by decide +kernel) ?_
    refine aw_b (pc' := 15) (lv' := [(2, .ref (a + 42)), (0, .ref a), (1, .int i0)]) (st' := [.ref (a + 42)]) [(13, .astore_n 2, 1, .null), (14, .aload_n 2, 1, .null)] (by decide +kernel) rfl ?_
    obtain ⟨r7, e8, hm⟩ := bn_x hm
    refine aw_cv (rest := []) (st1 := [.int r7]) a 42 (kX4_bestSplit e8 (h0.sub su_M_42_R)) rfl rfl ckX4_bestSplit lkX7_326 h0 eo_M_42 ⟨_, _, rfl⟩ nkX4_bestSplit rfl rfl rfl (Nat.le_of_ble_eq_true rfl) (Nat.le_of_ble_eq_true rfl) (Nat.le_of_ble_eq_true rfl) (by decide +kernel) (fun H9 z10 => ?_)
    have h0 := h0.kept0 z10
    have hs := hs.step0 z10
    refine aw_b (pc' := 20) (lv' := [(3, .int r7), (2, .ref (a + 42)), (0, .ref a), (1, .int i0)]) (st' := [.int i0]) [(18, .istore_n 3, 1, .null), (19, .iload_n 1, 1, .null)] (by decide +kernel) rfl ?_
    refine aw_ts [((0 : Int32), 48), ((1 : Int32), 54), ((2 : Int32), 61)] 71 (by decide +kernel) ?_
    refine aw_tg (fun hc => ?_) (fun hc => ?_)
    · have hm := (if_pos hc).symm.trans hm
      refine aw_b (pc' := 50) (lv' := [(3, .int r7), (2, .ref (a + 42)), (0, .ref a), (1, .int i0)]) (st' := [.int r7, .ref (a + 42)]) [(48, .aload_n 2, 1, .null), (49, .iload_n 3, 1, .null)] (by decide +kernel) rfl ?_
      obtain ⟨r11, e12, hm⟩ := bn_x hm
      refine aw_cv (rest := []) (st1 := [.int r11]) a 42 (kX4_splitCost e12 (h0.sub su_M_42_R)) rfl rfl ckX4_splitCost lkX7_329 h0 eo_M_42 ⟨_, _, rfl⟩ nkX4_splitCost rfl rfl rfl (Nat.le_of_ble_eq_true rfl) (Nat.le_of_ble_eq_true rfl) (Nat.le_of_ble_eq_true rfl) (by decide +kernel) (fun H13 z14 => ?_)
      have h0 := h0.kept0 z14
      have hs := hs.step0 z14
      obtain rfl := Option.some.inj hm
      subst hQ
      exact aw_iret rfl (Nat.le_of_ble_eq_true rfl) (Nat.le_of_ble_eq_true rfl) (by decide +kernel) ⟨rfl, hs⟩
    · have hm := (if_neg hc).symm.trans hm
      refine aw_tg (fun hc => ?_) (fun hc => ?_)
      · have hm := (if_pos hc).symm.trans hm
        refine aw_b (pc' := 57) (lv' := [(3, .int r7), (2, .ref (a + 42)), (0, .ref a), (1, .int i0)]) (st' := [.int r7, .int (0 : Int32), .ref (a + 42)]) [(54, .aload_n 2, 1, .null), (55, .iconst 0, 1, .int (0 : Int32)), (56, .iload_n 3, 1, .null)] (by decide +kernel) rfl ?_
        obtain ⟨r15, e16, hm⟩ := bn_x hm
        refine aw_cv (rest := []) (st1 := [.int r15]) a 42 (kX4_cheapestIn e16 (h0.sub su_M_42_R)) rfl rfl ckX4_cheapestIn lkX7_332 h0 eo_M_42 ⟨_, _, rfl⟩ nkX4_cheapestIn rfl rfl rfl (Nat.le_of_ble_eq_true rfl) (Nat.le_of_ble_eq_true rfl) (Nat.le_of_ble_eq_true rfl) (by decide +kernel) (fun H17 z18 => ?_)
        have h0 := h0.kept0 z18
        have hs := hs.step0 z18
        obtain rfl := Option.some.inj hm
        subst hQ
        exact aw_iret rfl (Nat.le_of_ble_eq_true rfl) (Nat.le_of_ble_eq_true rfl) (by decide +kernel) ⟨rfl, hs⟩
      · have hm := (if_neg hc).symm.trans hm
        refine aw_tg (fun hc => ?_) (fun hc => ?_)
        · have hm := (if_pos hc).symm.trans hm
          refine aw_b (pc' := 64) (lv' := [(3, .int r7), (2, .ref (a + 42)), (0, .ref a), (1, .int i0)]) (st' := [.ref (a + 42), .int r7, .ref (a + 42)]) [(61, .aload_n 2, 1, .null), (62, .iload_n 3, 1, .null), (63, .aload_n 2, 1, .null)] (by decide +kernel) rfl ?_
          refine aw_gl (v := .int (s 42 1)) a 42 h0 eo_M_42 fgX7_335 rfl (by decide +kernel) ?_
          obtain ⟨r19, e20, hm⟩ := bn_x hm
          refine aw_cv (rest := []) (st1 := [.int r19]) a 42 (kX4_cheapestIn e20 (h0.sub su_M_42_R)) rfl rfl ckX4_cheapestIn lkX7_332 h0 eo_M_42 ⟨_, _, rfl⟩ nkX4_cheapestIn rfl rfl rfl (Nat.le_of_ble_eq_true rfl) (Nat.le_of_ble_eq_true rfl) (Nat.le_of_ble_eq_true rfl) (by decide +kernel) (fun H21 z22 => ?_)
          have h0 := h0.kept0 z22
          have hs := hs.step0 z22
          obtain rfl := Option.some.inj hm
          subst hQ
          exact aw_iret rfl (Nat.le_of_ble_eq_true rfl) (Nat.le_of_ble_eq_true rfl) (by decide +kernel) ⟨rfl, hs⟩
        · have hm := (if_neg hc).symm.trans hm
          show aw E _ Q 71 _ _ _ _ _
          refine aw_b (pc' := 72) (lv' := [(3, .int r7), (2, .ref (a + 42)), (0, .ref a), (1, .int i0)]) (st' := [.int r7]) [(71, .iload_n 3, 1, .null)] (by decide +kernel) rfl ?_
          obtain rfl := Option.some.inj hm
          subst hQ
          exact aw_iret rfl (Nat.le_of_ble_eq_true rfl) (Nat.le_of_ble_eq_true rfl) (by decide +kernel) ⟨rfl, hs⟩
  · have hm := tb_e hv hm
    obtain rfl := Option.some.inj hm
    subst hQ
    exact ⟨rfl, hs.step0 z⟩
def mX7_cheaper : mt_ := (yX7_cheaper, cX7_cheaper, 6, some .int, [], { frames := 7, locals := 121, cells := 2, slots := 12 })
theorem ckX7_cheaper : cokV_ mX7_cheaper := ⟨⟨(uw_mem 1240 (by decide +kernel) (by decide +kernel)), (uw_mem 103 (by decide +kernel) (by decide +kernel)), by decide +kernel, by decide +kernel⟩, (uw_mem 1238 (by decide +kernel) (by decide +kernel)), (uw_mem 1239 (by decide +kernel) (by decide +kernel))⟩
theorem nkX7_cheaper : nok_ mX7_cheaper 2 := by decide +kernel
def fX7_cheaper_x24_67 (v4_x24_67 : Int32) : Option ((Int32 ⊕ Nat)) :=
  some (.inl v4_x24_67)
def fX7_cheaper_k24 (x : Int32) : Option ((Int32 ⊕ Nat)) :=
  fX7_cheaper_x24_67 x
def fX7_cheaper_j61 (v5_b24 : Int32) (v4_j61 : Int32) : Option ((Int32 × Int32) ⊕ (Int32)) :=
  some (.inl (v4_j61, (v5_b24 + (1 : Int32))))
def fX7_cheaper_b24 (s : st_) (i0 : Int32) (i1 : Int32) (v4_b24 : Int32) (v5_b24 : Int32) : Option ((Int32 × Int32) ⊕ (Int32)) :=
  if (s 42 1) ≤ v5_b24 then (some (.inr v4_b24))
  else (bn_ (fX4_paidIn (sb_ s 42) i0 v5_b24 (v5_b24 + (1 : Int32))) fun r13 =>
  bn_ (fX4_paidIn (sb_ s 42) i1 v5_b24 (v5_b24 + (1 : Int32))) fun r17 =>
  if r17 ≤ r13 then (fX7_cheaper_j61 v5_b24 v4_b24)
  else (fX7_cheaper_j61 v5_b24 (v4_b24 + (1 : Int32))))
def fX7_cheaper_l24 (s : st_) (i0 : Int32) (i1 : Int32) : Nat → (Int32 × Int32) → Option (Int32) :=
  it_ (fun v => fX7_cheaper_b24 s i0 i1 v.1 v.2)
def fX7_cheaper (s : st_) (i0 : Int32) (i1 : Int32) : Option ((Int32 ⊕ Nat)) :=
  bn_ (fX7_requireRule s i0) fun r1 =>
  tb_ r1 (fun x5 =>
  bn_ (fX7_requireRule s i1) fun r7 =>
  tb_ r7 (fun x11 =>
  bn_ (fX7_cheaper_l24 s i0 i1 FU_ ((0 : Int32), (0 : Int32))) (fX7_cheaper_k24))
  (fun c12 => some (.inr c12)))
  (fun c6 => some (.inr c6))
theorem kX7_cheaper {E : ev_} {H : Heap} {a : Nat} {s : st_} {i0 : Int32} {i1 : Int32} {r : (Int32 ⊕ Nat)} (hm : fX7_cheaper s i0 i1 = some r) (h0 : has_ E H a ly_M s) : sp_ E mX7_cheaper [.ref a, .int i0, .int i1] H (po1 (thr_ (fun x => some (.int x)) r) (fun Hn => sm_ H Hn 0 0)) := by
  refine sp_of (by decide +kernel) rfl rfl ?_
  generalize hQ : po1 _ _ = Q
  have hs : sm_ H H 0 0 := sm_.rfl'
  unfold fX7_cheaper at hm
  refine aw_lv (lv' := [(0, .ref a), (1, .int i0), (2, .int i1)]) [0, 1, 2] rfl ?_
  refine aw_b (pc' := 2) (lv' := [(0, .ref a), (1, .int i0), (2, .int i1)]) (st' := [.int i0, .ref a]) [(0, .aload_n 0, 1, .null), (1, .iload_n 1, 1, .null)] (by decide +kernel) rfl ?_
  obtain ⟨r1, e2, hm⟩ := bn_x hm
  refine aw_ct (rest := []) (u := 1) (u6 := 6) a 0 (kX7_requireRule e2 h0) rfl ckX7_requireRule lkX7_138 h0 eo_M_0 ⟨_, _, rfl⟩ nkX7_requireRule rfl rfl rfl rfl rfl (Nat.le_of_ble_eq_true rfl) (Nat.le_of_ble_eq_true rfl) (Nat.le_of_ble_eq_true rfl) (by decide +kernel) (fun x5 H3 hv z4 => ?_) (fun c6 H3 hv z => ?_)
  · have hm := tb_i hv hm
    have h0 := h0.kept0 z4
    have hs := hs.step0 z4
    show aw E _ Q 5 _ [] _ _ _
    refine aw_b (pc' := 7) (lv' := [(0, .ref a), (1, .int i0), (2, .int i1)]) (st' := [.int i1, .ref a]) [(5, .aload_n 0, 1, .null), (6, .iload_n 2, 1, .null)] (by decide +kernel) rfl ?_
    obtain ⟨r7, e8, hm⟩ := bn_x hm
    refine aw_ct (rest := []) (u := 1) (u6 := 6) a 0 (kX7_requireRule e8 h0) rfl ckX7_requireRule lkX7_138 h0 eo_M_0 ⟨_, _, rfl⟩ nkX7_requireRule rfl rfl rfl rfl rfl (Nat.le_of_ble_eq_true rfl) (Nat.le_of_ble_eq_true rfl) (Nat.le_of_ble_eq_true rfl) (by decide +kernel) (fun x11 H9 hv z10 => ?_) (fun c12 H9 hv z => ?_)
    · have hm := tb_i hv hm
      have h0 := h0.kept0 z10
      have hs := hs.step0 z10
      show aw E _ Q 10 _ [] _ _ _
      refine aw_b (pc' := 11) (lv' := [(0, .ref a), (1, .int i0), (2, .int i1)]) (st' := [.ref a]) [(10, .aload_n 0, 1, .null)] (by decide +kernel) rfl ?_
      refine aw_gl (v := .ref (a + 8)) a 0 h0 eo_M_0 fgX7_30 rfl (by decide +kernel) ?_
      refine aw_gl (v := .ref (a + 42)) a 8 h0 eo_M_8 fgX7_153 rfl (by decide +kernel) ?_
      refine aw_b (pc' := 24) (lv' := [(5, .int (0 : Int32)), (4, .int (0 : Int32)), (3, .ref (a + 42)), (0, .ref a), (1, .int i0), (2, .int i1)]) (st' := []) [(17, .astore_n 3, 1, .null), (18, .iconst 0, 1, .int (0 : Int32)), (19, .istore 4, 2, .null), (21, .iconst 0, 1, .int (0 : Int32)), (22, .istore 5, 2, .null)] (by decide +kernel) rfl ?_
      obtain ⟨x24, hx24, hr24⟩ := bn_x hm
      have X24_67 : ∀ (v4_x24_67 : Int32) (H_x24_67 : Heap), has_ E H_x24_67 a ly_M s → sm_ H H_x24_67 0 0 → fX7_cheaper_x24_67 v4_x24_67 = some r → aw E mX7_cheaper Q 67 [(4, .int v4_x24_67)] [] H_x24_67 2 12 := by
        intro v4_x24_67 H_x24_67 h0 hs hm
        unfold fX7_cheaper_x24_67 at hm
        refine aw_b (pc' := 69) (lv' := [(4, .int v4_x24_67)]) (st' := [.int v4_x24_67]) [(67, .iload 4, 2, .null)] (by decide +kernel) rfl ?_
        obtain rfl := Option.some.inj hm
        subst hQ
        exact aw_iret rfl (Nat.le_of_ble_eq_true rfl) (Nat.le_of_ble_eq_true rfl) (by decide +kernel) ⟨rfl, hs⟩
      have L24 : ∀ (fu : Nat) (v4_b24 : Int32) (v5_b24 : Int32) (H_b24 : Heap), has_ E H_b24 a ly_M s → sm_ H H_b24 0 0 → fX7_cheaper_l24 s i0 i1 fu (v4_b24, v5_b24) = some x24 → aw E mX7_cheaper Q 24 [(1, .int i0), (2, .int i1), (3, .ref (a + 42)), (4, .int v4_b24), (5, .int v5_b24)] [] H_b24 2 12 := by
        intro fu
        induction fu with
        | zero =>
          intro v4_b24 v5_b24 H_b24 h0 hs hm
          exact (it_0 hm).elim
        | succ fu ih24 =>
          intro v4_b24 v5_b24 H_b24 h0 hs hm
          obtain ⟨y24, hm, hk24⟩ := it_s hm
          have hm : fX7_cheaper_b24 s i0 i1 v4_b24 v5_b24 = some y24 := hm
          unfold fX7_cheaper_b24 at hm
          refine aw_b (pc' := 27) (lv' := [(1, .int i0), (2, .int i1), (3, .ref (a + 42)), (4, .int v4_b24), (5, .int v5_b24)]) (st' := [.ref (a + 42), .int v5_b24]) [(24, .iload 5, 2, .null), (26, .aload_n 3, 1, .null)] (by decide +kernel) rfl ?_
          refine aw_gl (v := .int (s 42 1)) a 42 h0 eo_M_42 fgX7_335 rfl (by decide +kernel) ?_
          refine aw_ic_ge (off := 37) 67 (by decide) (by decide +kernel) (fun hc => ?_) (fun hc => ?_)
          · have hm := (if_pos hc).symm.trans hm
            cases hm
            refine aw_lv (lv' := [(4, .int v4_b24)]) [3] rfl ?_
            exact X24_67 v4_b24 H_b24 h0 hs ((congrArg fX7_cheaper_k24 (show (v4_b24) = x24 from hk24)).trans hr24)
          · have hm := (if_neg hc).symm.trans hm
            refine aw_b (pc' := 41) (lv' := [(1, .int i0), (2, .int i1), (3, .ref (a + 42)), (4, .int v4_b24), (5, .int v5_b24)]) (st' := [.int (v5_b24 + (1 : Int32)), .int v5_b24, .int i0, .ref (a + 42)]) [(33, .aload_n 3, 1, .null), (34, .iload_n 1, 1, .null), (35, .iload 5, 2, .null), (37, .iload 5, 2, .null), (39, .iconst 1, 1, .int (1 : Int32)), (40, .iadd, 1, .null)] (by decide +kernel) rfl ?_
            obtain ⟨r13, e14, hm⟩ := bn_x hm
            refine aw_cv (rest := []) (st1 := [.int r13]) a 42 (kX4_paidIn e14 (h0.sub su_M_42_R)) rfl rfl ckX4_paidIn lkX7_319 h0 eo_M_42 ⟨_, _, rfl⟩ nkX4_paidIn rfl rfl rfl (Nat.le_of_ble_eq_true rfl) (Nat.le_of_ble_eq_true rfl) (Nat.le_of_ble_eq_true rfl) (by decide +kernel) (fun H15 z16 => ?_)
            have h0 := h0.kept0 z16
            have hs := hs.step0 z16
            refine aw_b (pc' := 52) (lv' := [(1, .int i0), (2, .int i1), (3, .ref (a + 42)), (4, .int v4_b24), (5, .int v5_b24)]) (st' := [.int (v5_b24 + (1 : Int32)), .int v5_b24, .int i1, .ref (a + 42), .int r13]) [(44, .aload_n 3, 1, .null), (45, .iload_n 2, 1, .null), (46, .iload 5, 2, .null), (48, .iload 5, 2, .null), (50, .iconst 1, 1, .int (1 : Int32)), (51, .iadd, 1, .null)] (by decide +kernel) rfl ?_
            obtain ⟨r17, e18, hm⟩ := bn_x hm
            refine aw_cv (rest := [.int r13]) (st1 := [.int r17, .int r13]) a 42 (kX4_paidIn e18 (h0.sub su_M_42_R)) rfl rfl ckX4_paidIn lkX7_319 h0 eo_M_42 ⟨_, _, rfl⟩ nkX4_paidIn rfl rfl rfl (Nat.le_of_ble_eq_true rfl) (Nat.le_of_ble_eq_true rfl) (Nat.le_of_ble_eq_true rfl) (by decide +kernel) (fun H19 z20 => ?_)
            have h0 := h0.kept0 z20
            have hs := hs.step0 z20
            have J61 : ∀ (v4_j61 : Int32) (H_j61 : Heap), has_ E H_j61 a ly_M s → sm_ H H_j61 0 0 → fX7_cheaper_j61 v5_b24 v4_j61 = some y24 → aw E mX7_cheaper Q 61 [(1, .int i0), (2, .int i1), (3, .ref (a + 42)), (4, .int v4_j61), (5, .int v5_b24)] [] H_j61 2 12 := by
              intro v4_j61 H_j61 h0 hs hm
              unfold fX7_cheaper_j61 at hm
              refine aw_b (pc' := 24) (lv' := [(5, .int (v5_b24 + (1 : Int32))), (1, .int i0), (2, .int i1), (3, .ref (a + 42)), (4, .int v4_j61)]) (st' := []) [(61, .iinc 5 1, 3, .int (1 : Int32)), (64, .goto (-40), 3, .null)] (by decide +kernel) rfl ?_
              cases hm
              refine aw_lv (lv' := [(1, .int i0), (2, .int i1), (3, .ref (a + 42)), (4, .int v4_j61), (5, .int (v5_b24 + (1 : Int32)))]) [1, 2, 3, 4, 0] rfl ?_
              exact ih24 v4_j61 (v5_b24 + (1 : Int32)) H_j61 h0 hs hk24
            refine aw_ic_ge (off := 6) 61 (by decide) (by decide +kernel) (fun hc => ?_) (fun hc => ?_)
            · have hm := (if_pos hc).symm.trans hm
              exact J61 v4_b24 H19 h0 hs hm
            · have hm := (if_neg hc).symm.trans hm
              refine aw_b (pc' := 61) (lv' := [(4, .int (v4_b24 + (1 : Int32))), (1, .int i0), (2, .int i1), (3, .ref (a + 42)), (5, .int v5_b24)]) (st' := []) [(58, .iinc 4 1, 3, .int (1 : Int32))] (by decide +kernel) rfl ?_
              refine aw_lv (lv' := [(1, .int i0), (2, .int i1), (3, .ref (a + 42)), (4, .int (v4_b24 + (1 : Int32))), (5, .int v5_b24)]) [1, 2, 3, 0, 4] rfl ?_
              exact J61 (v4_b24 + (1 : Int32)) H19 h0 hs hm
      refine aw_lv (lv' := [(1, .int i0), (2, .int i1), (3, .ref (a + 42)), (4, .int (0 : Int32)), (5, .int (0 : Int32))]) [4, 5, 2, 1, 0] rfl ?_
      exact L24 FU_ (0 : Int32) (0 : Int32) H9 h0 hs hx24
    · have hm := tb_e hv hm
      obtain rfl := Option.some.inj hm
      subst hQ
      exact ⟨rfl, hs.step0 z⟩
  · have hm := tb_e hv hm
    obtain rfl := Option.some.inj hm
    subst hQ
    exact ⟨rfl, hs.step0 z⟩
def mX7_leads : mt_ := (yX7_leads, cX7_leads, 2, some .int, [], { frames := 7, locals := 121, cells := 1, slots := 6 })
theorem ckX7_leads : cokV_ mX7_leads := ⟨⟨(uw_mem 1247 (by decide +kernel) (by decide +kernel)), (uw_mem 103 (by decide +kernel) (by decide +kernel)), by decide +kernel, by decide +kernel⟩, (uw_mem 1245 (by decide +kernel) (by decide +kernel)), (uw_mem 1246 (by decide +kernel) (by decide +kernel))⟩
theorem nkX7_leads : nok_ mX7_leads 1 := by decide +kernel
theorem fgX7_336 : fok_ RX7 336 4 6 := ⟨_, _, _, rfl, by decide, (uw_mem 425 (by decide +kernel) (by decide +kernel)), wkX4⟩
def fX7_leads (s : st_) (i0 : Int32) : Option ((Int32 ⊕ Nat)) :=
  bn_ (fX7_requireRule s i0) fun r1 =>
  tb_ r1 (fun x5 =>
  gd_ (ib_ i0 6) <|
  some (.inl (s 54 (ix_ i0))))
  (fun c6 => some (.inr c6))
theorem kX7_leads {E : ev_} {H : Heap} {a : Nat} {s : st_} {i0 : Int32} {r : (Int32 ⊕ Nat)} (hm : fX7_leads s i0 = some r) (h0 : has_ E H a ly_M s) : sp_ E mX7_leads [.ref a, .int i0] H (po1 (thr_ (fun x => some (.int x)) r) (fun Hn => sm_ H Hn 0 0)) := by
  refine sp_of (by decide +kernel) rfl rfl ?_
  generalize hQ : po1 _ _ = Q
  have hs : sm_ H H 0 0 := sm_.rfl'
  unfold fX7_leads at hm
  refine aw_lv (lv' := [(0, .ref a), (1, .int i0)]) [0, 1] rfl ?_
  refine aw_b (pc' := 2) (lv' := [(0, .ref a), (1, .int i0)]) (st' := [.int i0, .ref a]) [(0, .aload_n 0, 1, .null), (1, .iload_n 1, 1, .null)] (by decide +kernel) rfl ?_
  obtain ⟨r1, e2, hm⟩ := bn_x hm
  refine aw_ct (rest := []) (u := 1) (u6 := 6) a 0 (kX7_requireRule e2 h0) rfl ckX7_requireRule lkX7_138 h0 eo_M_0 ⟨_, _, rfl⟩ nkX7_requireRule rfl rfl rfl rfl rfl (Nat.le_of_ble_eq_true rfl) (Nat.le_of_ble_eq_true rfl) (Nat.le_of_ble_eq_true rfl) (by decide +kernel) (fun x5 H3 hv z4 => ?_) (fun c6 H3 hv z => ?_)
  · have hm := tb_i hv hm
    have h0 := h0.kept0 z4
    have hs := hs.step0 z4
    show aw E _ Q 5 _ [] _ _ _
    refine aw_b (pc' := 6) (lv' := [(0, .ref a), (1, .int i0)]) (st' := [.ref a]) [(5, .aload_n 0, 1, .null)] (by decide +kernel) rfl ?_
    refine aw_gl (v := .ref (a + 8)) a 0 h0 eo_M_0 fgX7_30 rfl (by decide +kernel) ?_
    refine aw_gl (v := .ref (a + 42)) a 8 h0 eo_M_8 fgX7_153 rfl (by decide +kernel) ?_
    refine aw_gl (v := .ref (a + 54)) a 42 h0 eo_M_42 fgX7_336 rfl (by decide +kernel) ?_
    refine aw_b (pc' := 16) (lv' := [(0, .ref a), (1, .int i0)]) (st' := [.int i0, .ref (a + 54)]) [(15, .iload_n 1, 1, .null)] (by decide +kernel) rfl ?_
    obtain ⟨g7, hm⟩ := gd_x hm
    refine aw_ial a 54 h0 rfl g7 (by decide +kernel) ?_
    obtain rfl := Option.some.inj hm
    subst hQ
    exact aw_iret rfl (Nat.le_of_ble_eq_true rfl) (Nat.le_of_ble_eq_true rfl) (by decide +kernel) ⟨rfl, hs⟩
  · have hm := tb_e hv hm
    obtain rfl := Option.some.inj hm
    subst hQ
    exact ⟨rfl, hs.step0 z⟩
def mX7_switches : mt_ := (yX7_switches, cX7_switches, 4, some .int, [], { frames := 0, locals := 0, cells := 0, slots := 0 })
theorem ckX7_switches : cokV_ mX7_switches := ⟨⟨(uw_mem 770 (by decide +kernel) (by decide +kernel)), (uw_mem 103 (by decide +kernel) (by decide +kernel)), by decide +kernel, by decide +kernel⟩, (uw_mem 768 (by decide +kernel) (by decide +kernel)), (uw_mem 769 (by decide +kernel) (by decide +kernel))⟩
theorem nkX7_switches : nok_ mX7_switches 0 := by decide +kernel
def fX7_switches_x12_46 (v2_x12_46 : Int32) : Option (Int32) :=
  some v2_x12_46
def fX7_switches_k12 (x : Int32) : Option (Int32) :=
  fX7_switches_x12_46 x
def fX7_switches_j40 (v3_b12 : Int32) (v2_j40 : Int32) : Option ((Int32 × Int32) ⊕ (Int32)) :=
  some (.inl (v2_j40, (v3_b12 + (1 : Int32))))
def fX7_switches_b12 (s : st_) (v2_b12 : Int32) (v3_b12 : Int32) : Option ((Int32 × Int32) ⊕ (Int32)) :=
  if (s 42 1) ≤ v3_b12 then (some (.inr v2_b12))
  else (gd_ (ib_ v3_b12 1000) <|
  gd_ (ib_ (v3_b12 - (1 : Int32)) 1000) <|
  if (s 51 (ix_ v3_b12)) = (s 51 (ix_ (v3_b12 - (1 : Int32)))) then (fX7_switches_j40 v3_b12 v2_b12)
  else (fX7_switches_j40 v3_b12 (v2_b12 + (1 : Int32))))
def fX7_switches_l12 (s : st_) : Nat → (Int32 × Int32) → Option (Int32) :=
  it_ (fun v => fX7_switches_b12 s v.1 v.2)
def fX7_switches (s : st_) : Option (Int32) :=
  bn_ (fX7_switches_l12 s FU_ ((0 : Int32), (1 : Int32))) (fX7_switches_k12)
theorem kX7_switches {E : ev_} {H : Heap} {a : Nat} {s : st_} {r : Int32} (hm : fX7_switches s = some r) (h0 : has_ E H a ly_M s) : sp_ E mX7_switches [.ref a] H (po1 (.inl (some (.int r))) (fun Hn => sm_ H Hn 0 0)) := by
  refine sp_of (by decide +kernel) rfl rfl ?_
  generalize hQ : po1 _ _ = Q
  have hs : sm_ H H 0 0 := sm_.rfl'
  unfold fX7_switches at hm
  refine aw_lv (lv' := [(0, .ref a)]) [0] rfl ?_
  refine aw_b (pc' := 1) (lv' := [(0, .ref a)]) (st' := [.ref a]) [(0, .aload_n 0, 1, .null)] (by decide +kernel) rfl ?_
  refine aw_gl (v := .ref (a + 8)) a 0 h0 eo_M_0 fgX7_30 rfl (by decide +kernel) ?_
  refine aw_gl (v := .ref (a + 42)) a 8 h0 eo_M_8 fgX7_153 rfl (by decide +kernel) ?_
  refine aw_b (pc' := 12) (lv' := [(3, .int (1 : Int32)), (2, .int (0 : Int32)), (1, .ref (a + 42)), (0, .ref a)]) (st' := []) [(7, .astore_n 1, 1, .null), (8, .iconst 0, 1, .int (0 : Int32)), (9, .istore_n 2, 1, .null), (10, .iconst 1, 1, .int (1 : Int32)), (11, .istore_n 3, 1, .null)] (by decide +kernel) rfl ?_
  obtain ⟨x12, hx12, hr12⟩ := bn_x hm
  have X12_46 : ∀ (v2_x12_46 : Int32) (H_x12_46 : Heap), has_ E H_x12_46 a ly_M s → sm_ H H_x12_46 0 0 → fX7_switches_x12_46 v2_x12_46 = some r → aw E mX7_switches Q 46 [(2, .int v2_x12_46)] [] H_x12_46 0 0 := by
    intro v2_x12_46 H_x12_46 h0 hs hm
    unfold fX7_switches_x12_46 at hm
    refine aw_b (pc' := 47) (lv' := [(2, .int v2_x12_46)]) (st' := [.int v2_x12_46]) [(46, .iload_n 2, 1, .null)] (by decide +kernel) rfl ?_
    obtain rfl := Option.some.inj hm
    subst hQ
    exact aw_iret rfl (Nat.zero_le _) (Nat.zero_le _) (by decide +kernel) ⟨rfl, hs⟩
  have L12 : ∀ (fu : Nat) (v2_b12 : Int32) (v3_b12 : Int32) (H_b12 : Heap), has_ E H_b12 a ly_M s → sm_ H H_b12 0 0 → fX7_switches_l12 s fu (v2_b12, v3_b12) = some x12 → aw E mX7_switches Q 12 [(1, .ref (a + 42)), (2, .int v2_b12), (3, .int v3_b12)] [] H_b12 0 0 := by
    intro fu
    induction fu with
    | zero =>
      intro v2_b12 v3_b12 H_b12 h0 hs hm
      exact (it_0 hm).elim
    | succ fu ih12 =>
      intro v2_b12 v3_b12 H_b12 h0 hs hm
      obtain ⟨y12, hm, hk12⟩ := it_s hm
      have hm : fX7_switches_b12 s v2_b12 v3_b12 = some y12 := hm
      unfold fX7_switches_b12 at hm
      refine aw_b (pc' := 14) (lv' := [(1, .ref (a + 42)), (2, .int v2_b12), (3, .int v3_b12)]) (st' := [.ref (a + 42), .int v3_b12]) [(12, .iload_n 3, 1, .null), (13, .aload_n 1, 1, .null)] (by decide +kernel) rfl ?_
      refine aw_gl (v := .int (s 42 1)) a 42 h0 eo_M_42 fgX7_335 rfl (by decide +kernel) ?_
      refine aw_ic_ge (off := 29) 46 (by decide) (by decide +kernel) (fun hc => ?_) (fun hc => ?_)
      · have hm := (if_pos hc).symm.trans hm
        cases hm
        refine aw_lv (lv' := [(2, .int v2_b12)]) [1] rfl ?_
        exact X12_46 v2_b12 H_b12 h0 hs ((congrArg fX7_switches_k12 (show (v2_b12) = x12 from hk12)).trans hr12)
      · have hm := (if_neg hc).symm.trans hm
        refine aw_b (pc' := 21) (lv' := [(1, .ref (a + 42)), (2, .int v2_b12), (3, .int v3_b12)]) (st' := [.ref (a + 42)]) [(20, .aload_n 1, 1, .null)] (by decide +kernel) rfl ?_
        refine aw_gl (v := .ref (a + 51)) a 42 h0 eo_M_42 fgX7_323 rfl (by decide +kernel) ?_
        refine aw_b (pc' := 25) (lv' := [(1, .ref (a + 42)), (2, .int v2_b12), (3, .int v3_b12)]) (st' := [.int v3_b12, .ref (a + 51)]) [(24, .iload_n 3, 1, .null)] (by decide +kernel) rfl ?_
        obtain ⟨g1, hm⟩ := gd_x hm
        refine aw_ial a 51 h0 rfl g1 (by decide +kernel) ?_
        refine aw_b (pc' := 27) (lv' := [(1, .ref (a + 42)), (2, .int v2_b12), (3, .int v3_b12)]) (st' := [.ref (a + 42), .int (s 51 (ix_ v3_b12))]) [(26, .aload_n 1, 1, .null)] (by decide +kernel) rfl ?_
        refine aw_gl (v := .ref (a + 51)) a 42 h0 eo_M_42 fgX7_323 rfl (by decide +kernel) ?_
        refine aw_b (pc' := 33) (lv' := [(1, .ref (a + 42)), (2, .int v2_b12), (3, .int v3_b12)]) (st' := [.int (v3_b12 - (1 : Int32)), .ref (a + 51), .int (s 51 (ix_ v3_b12))]) [(30, .iload_n 3, 1, .null), (31, .iconst 1, 1, .int (1 : Int32)), (32, .isub, 1, .null)] (by decide +kernel) rfl ?_
        obtain ⟨g2, hm⟩ := gd_x hm
        refine aw_ial a 51 h0 rfl g2 (by decide +kernel) ?_
        have J40 : ∀ (v2_j40 : Int32) (H_j40 : Heap), has_ E H_j40 a ly_M s → sm_ H H_j40 0 0 → fX7_switches_j40 v3_b12 v2_j40 = some y12 → aw E mX7_switches Q 40 [(1, .ref (a + 42)), (2, .int v2_j40), (3, .int v3_b12)] [] H_j40 0 0 := by
          intro v2_j40 H_j40 h0 hs hm
          unfold fX7_switches_j40 at hm
          refine aw_b (pc' := 12) (lv' := [(3, .int (v3_b12 + (1 : Int32))), (1, .ref (a + 42)), (2, .int v2_j40)]) (st' := []) [(40, .iinc 3 1, 3, .int (1 : Int32)), (43, .goto (-31), 3, .null)] (by decide +kernel) rfl ?_
          cases hm
          refine aw_lv (lv' := [(1, .ref (a + 42)), (2, .int v2_j40), (3, .int (v3_b12 + (1 : Int32)))]) [1, 2, 0] rfl ?_
          exact ih12 v2_j40 (v3_b12 + (1 : Int32)) H_j40 h0 hs hk12
        refine aw_ic_eq (off := 6) 40 (by decide) (by decide +kernel) (fun hc => ?_) (fun hc => ?_)
        · have hm := (if_pos hc).symm.trans hm
          exact J40 v2_b12 H_b12 h0 hs hm
        · have hm := (if_neg hc).symm.trans hm
          refine aw_b (pc' := 40) (lv' := [(2, .int (v2_b12 + (1 : Int32))), (1, .ref (a + 42)), (3, .int v3_b12)]) (st' := []) [(37, .iinc 2 1, 3, .int (1 : Int32))] (by decide +kernel) rfl ?_
          refine aw_lv (lv' := [(1, .ref (a + 42)), (2, .int (v2_b12 + (1 : Int32))), (3, .int v3_b12)]) [1, 0, 2] rfl ?_
          exact J40 (v2_b12 + (1 : Int32)) H_b12 h0 hs hm
  refine aw_lv (lv' := [(1, .ref (a + 42)), (2, .int (0 : Int32)), (3, .int (1 : Int32))]) [2, 1, 0] rfl ?_
  exact L12 FU_ (0 : Int32) (1 : Int32) H h0 hs hx12
def mX7_streak : mt_ := (yX7_streak, cX7_streak, 6, some .int, [], { frames := 7, locals := 121, cells := 1, slots := 6 })
theorem ckX7_streak : cokV_ mX7_streak := ⟨⟨(uw_mem 1254 (by decide +kernel) (by decide +kernel)), (uw_mem 103 (by decide +kernel) (by decide +kernel)), by decide +kernel, by decide +kernel⟩, (uw_mem 1252 (by decide +kernel) (by decide +kernel)), (uw_mem 1253 (by decide +kernel) (by decide +kernel))⟩
theorem nkX7_streak : nok_ mX7_streak 1 := by decide +kernel
theorem mtX7_339 : ml_ RX7 339 Lib.Math.max.name Lib.Math.max.code 2 .int := ⟨(uw_mem 1255 (by decide +kernel) (by decide +kernel)), (uw_mem 876 (by decide +kernel) (by decide +kernel)), (uw_mem 113 (by decide +kernel) (by decide +kernel)), (uw_mem 877 (by decide +kernel) (by decide +kernel))⟩
def fX7_streak_x21_64 (v3_x21_64 : Int32) : Option ((Int32 ⊕ Nat)) :=
  some (.inl v3_x21_64)
def fX7_streak_k21 (x : Int32) : Option ((Int32 ⊕ Nat)) :=
  fX7_streak_x21_64 x
def fX7_streak_j49 (v3_b21 : Int32) (v5_b21 : Int32) (z0_j49 : Int32) : Option ((Int32 × Int32 × Int32) ⊕ (Int32)) :=
  some (.inl ((if v3_b21 < z0_j49 then z0_j49 else v3_b21), z0_j49, (v5_b21 + (1 : Int32))))
def fX7_streak_b21 (s : st_) (i0 : Int32) (v3_b21 : Int32) (v4_b21 : Int32) (v5_b21 : Int32) : Option ((Int32 × Int32 × Int32) ⊕ (Int32)) :=
  if (s 42 1) ≤ v5_b21 then (some (.inr v3_b21))
  else (gd_ (ib_ v5_b21 1000) <|
  if (s 51 (ix_ v5_b21)) = i0 then (fX7_streak_j49 v3_b21 v5_b21 (v4_b21 + (1 : Int32)))
  else (fX7_streak_j49 v3_b21 v5_b21 (0 : Int32)))
def fX7_streak_l21 (s : st_) (i0 : Int32) : Nat → (Int32 × Int32 × Int32) → Option (Int32) :=
  it_ (fun v => fX7_streak_b21 s i0 v.1 v.2.1 v.2.2)
def fX7_streak (s : st_) (i0 : Int32) : Option ((Int32 ⊕ Nat)) :=
  bn_ (fX7_requireRule s i0) fun r1 =>
  tb_ r1 (fun x5 =>
  bn_ (fX7_streak_l21 s i0 FU_ ((0 : Int32), (0 : Int32), (0 : Int32))) (fX7_streak_k21))
  (fun c6 => some (.inr c6))
theorem kX7_streak {E : ev_} {H : Heap} {a : Nat} {s : st_} {i0 : Int32} {r : (Int32 ⊕ Nat)} (hm : fX7_streak s i0 = some r) (h0 : has_ E H a ly_M s) : sp_ E mX7_streak [.ref a, .int i0] H (po1 (thr_ (fun x => some (.int x)) r) (fun Hn => sm_ H Hn 0 0)) := by
  refine sp_of (by decide +kernel) rfl rfl ?_
  generalize hQ : po1 _ _ = Q
  have hs : sm_ H H 0 0 := sm_.rfl'
  unfold fX7_streak at hm
  refine aw_lv (lv' := [(0, .ref a), (1, .int i0)]) [0, 1] rfl ?_
  refine aw_b (pc' := 2) (lv' := [(0, .ref a), (1, .int i0)]) (st' := [.int i0, .ref a]) [(0, .aload_n 0, 1, .null), (1, .iload_n 1, 1, .null)] (by decide +kernel) rfl ?_
  obtain ⟨r1, e2, hm⟩ := bn_x hm
  refine aw_ct (rest := []) (u := 1) (u6 := 6) a 0 (kX7_requireRule e2 h0) rfl ckX7_requireRule lkX7_138 h0 eo_M_0 ⟨_, _, rfl⟩ nkX7_requireRule rfl rfl rfl rfl rfl (Nat.le_of_ble_eq_true rfl) (Nat.le_of_ble_eq_true rfl) (Nat.le_of_ble_eq_true rfl) (by decide +kernel) (fun x5 H3 hv z4 => ?_) (fun c6 H3 hv z => ?_)
  · have hm := tb_i hv hm
    have h0 := h0.kept0 z4
    have hs := hs.step0 z4
    show aw E _ Q 5 _ [] _ _ _
    refine aw_b (pc' := 6) (lv' := [(0, .ref a), (1, .int i0)]) (st' := [.ref a]) [(5, .aload_n 0, 1, .null)] (by decide +kernel) rfl ?_
    refine aw_gl (v := .ref (a + 8)) a 0 h0 eo_M_0 fgX7_30 rfl (by decide +kernel) ?_
    refine aw_gl (v := .ref (a + 42)) a 8 h0 eo_M_8 fgX7_153 rfl (by decide +kernel) ?_
    refine aw_b (pc' := 21) (lv' := [(5, .int (0 : Int32)), (4, .int (0 : Int32)), (3, .int (0 : Int32)), (2, .ref (a + 42)), (0, .ref a), (1, .int i0)]) (st' := []) [(12, .astore_n 2, 1, .null), (13, .iconst 0, 1, .int (0 : Int32)), (14, .istore_n 3, 1, .null), (15, .iconst 0, 1, .int (0 : Int32)), (16, .istore 4, 2, .null), (18, .iconst 0, 1, .int (0 : Int32)), (19, .istore 5, 2, .null)] (by decide +kernel) rfl ?_
    obtain ⟨x21, hx21, hr21⟩ := bn_x hm
    have X21_64 : ∀ (v3_x21_64 : Int32) (H_x21_64 : Heap), has_ E H_x21_64 a ly_M s → sm_ H H_x21_64 0 0 → fX7_streak_x21_64 v3_x21_64 = some r → aw E mX7_streak Q 64 [(3, .int v3_x21_64)] [] H_x21_64 1 6 := by
      intro v3_x21_64 H_x21_64 h0 hs hm
      unfold fX7_streak_x21_64 at hm
      refine aw_b (pc' := 65) (lv' := [(3, .int v3_x21_64)]) (st' := [.int v3_x21_64]) [(64, .iload_n 3, 1, .null)] (by decide +kernel) rfl ?_
      obtain rfl := Option.some.inj hm
      subst hQ
      exact aw_iret rfl (Nat.le_of_ble_eq_true rfl) (Nat.le_of_ble_eq_true rfl) (by decide +kernel) ⟨rfl, hs⟩
    have L21 : ∀ (fu : Nat) (v3_b21 : Int32) (v4_b21 : Int32) (v5_b21 : Int32) (H_b21 : Heap), has_ E H_b21 a ly_M s → sm_ H H_b21 0 0 → fX7_streak_l21 s i0 fu (v3_b21, v4_b21, v5_b21) = some x21 → aw E mX7_streak Q 21 [(1, .int i0), (2, .ref (a + 42)), (3, .int v3_b21), (4, .int v4_b21), (5, .int v5_b21)] [] H_b21 1 6 := by
      intro fu
      induction fu with
      | zero =>
        intro v3_b21 v4_b21 v5_b21 H_b21 h0 hs hm
        exact (it_0 hm).elim
      | succ fu ih21 =>
        intro v3_b21 v4_b21 v5_b21 H_b21 h0 hs hm
        obtain ⟨y21, hm, hk21⟩ := it_s hm
        have hm : fX7_streak_b21 s i0 v3_b21 v4_b21 v5_b21 = some y21 := hm
        unfold fX7_streak_b21 at hm
        refine aw_b (pc' := 24) (lv' := [(1, .int i0), (2, .ref (a + 42)), (3, .int v3_b21), (4, .int v4_b21), (5, .int v5_b21)]) (st' := [.ref (a + 42), .int v5_b21]) [(21, .iload 5, 2, .null), (23, .aload_n 2, 1, .null)] (by decide +kernel) rfl ?_
        refine aw_gl (v := .int (s 42 1)) a 42 h0 eo_M_42 fgX7_335 rfl (by decide +kernel) ?_
        refine aw_ic_ge (off := 37) 64 (by decide) (by decide +kernel) (fun hc => ?_) (fun hc => ?_)
        · have hm := (if_pos hc).symm.trans hm
          cases hm
          refine aw_lv (lv' := [(3, .int v3_b21)]) [2] rfl ?_
          exact X21_64 v3_b21 H_b21 h0 hs ((congrArg fX7_streak_k21 (show (v3_b21) = x21 from hk21)).trans hr21)
        · have hm := (if_neg hc).symm.trans hm
          refine aw_b (pc' := 31) (lv' := [(1, .int i0), (2, .ref (a + 42)), (3, .int v3_b21), (4, .int v4_b21), (5, .int v5_b21)]) (st' := [.ref (a + 42)]) [(30, .aload_n 2, 1, .null)] (by decide +kernel) rfl ?_
          refine aw_gl (v := .ref (a + 51)) a 42 h0 eo_M_42 fgX7_323 rfl (by decide +kernel) ?_
          refine aw_b (pc' := 36) (lv' := [(1, .int i0), (2, .ref (a + 42)), (3, .int v3_b21), (4, .int v4_b21), (5, .int v5_b21)]) (st' := [.int v5_b21, .ref (a + 51)]) [(34, .iload 5, 2, .null)] (by decide +kernel) rfl ?_
          obtain ⟨g7, hm⟩ := gd_x hm
          refine aw_ial a 51 h0 rfl g7 (by decide +kernel) ?_
          refine aw_b (pc' := 38) (lv' := [(1, .int i0), (2, .ref (a + 42)), (3, .int v3_b21), (4, .int v4_b21), (5, .int v5_b21)]) (st' := [.int i0, .int (s 51 (ix_ v5_b21))]) [(37, .iload_n 1, 1, .null)] (by decide +kernel) rfl ?_
          have J49 : ∀ (z0_j49 : Int32) (H_j49 : Heap), has_ E H_j49 a ly_M s → sm_ H H_j49 0 0 → fX7_streak_j49 v3_b21 v5_b21 z0_j49 = some y21 → aw E mX7_streak Q 49 [(1, .int i0), (2, .ref (a + 42)), (3, .int v3_b21), (5, .int v5_b21)] [.int z0_j49] H_j49 1 6 := by
            intro z0_j49 H_j49 h0 hs hm
            unfold fX7_streak_j49 at hm
            refine aw_b (pc' := 54) (lv' := [(4, .int z0_j49), (1, .int i0), (2, .ref (a + 42)), (3, .int v3_b21), (5, .int v5_b21)]) (st' := [.int z0_j49, .int v3_b21]) [(49, .istore 4, 2, .null), (51, .iload_n 3, 1, .null), (52, .iload 4, 2, .null)] (by decide +kernel) rfl ?_
            refine aw_mx (rest := []) mtX7_339 rfl (Nat.le_of_ble_eq_true rfl) (Nat.le_of_ble_eq_true rfl) (Nat.le_of_ble_eq_true rfl) (by decide +kernel) ?_
            refine aw_b (pc' := 21) (lv' := [(5, .int (v5_b21 + (1 : Int32))), (3, .int (if v3_b21 < z0_j49 then z0_j49 else v3_b21)), (4, .int z0_j49), (1, .int i0), (2, .ref (a + 42))]) (st' := []) [(57, .istore_n 3, 1, .null), (58, .iinc 5 1, 3, .int (1 : Int32)), (61, .goto (-40), 3, .null)] (by decide +kernel) rfl ?_
            cases hm
            refine aw_lv (lv' := [(1, .int i0), (2, .ref (a + 42)), (3, .int (if v3_b21 < z0_j49 then z0_j49 else v3_b21)), (4, .int z0_j49), (5, .int (v5_b21 + (1 : Int32)))]) [3, 4, 1, 2, 0] rfl ?_
            exact ih21 (if v3_b21 < z0_j49 then z0_j49 else v3_b21) z0_j49 (v5_b21 + (1 : Int32)) H_j49 h0 hs hk21
          refine aw_ic_ne (off := 10) 48 (by decide) (by decide +kernel) (fun hc => ?_) (fun hc => ?_)
          · have hm := (if_neg hc).symm.trans hm
            refine aw_b (pc' := 49) (lv' := [(1, .int i0), (2, .ref (a + 42)), (3, .int v3_b21), (4, .int v4_b21), (5, .int v5_b21)]) (st' := [.int (0 : Int32)]) [(48, .iconst 0, 1, .int (0 : Int32))] (by decide +kernel) rfl ?_
            refine aw_lv (lv' := [(1, .int i0), (2, .ref (a + 42)), (3, .int v3_b21), (5, .int v5_b21)]) [0, 1, 2, 4] rfl ?_
            exact J49 (0 : Int32) H_b21 h0 hs hm
          · have hm := (if_pos hc).symm.trans hm
            refine aw_b (pc' := 49) (lv' := [(1, .int i0), (2, .ref (a + 42)), (3, .int v3_b21), (4, .int v4_b21), (5, .int v5_b21)]) (st' := [.int (v4_b21 + (1 : Int32))]) [(41, .iload 4, 2, .null), (43, .iconst 1, 1, .int (1 : Int32)), (44, .iadd, 1, .null), (45, .goto 4, 3, .null)] (by decide +kernel) rfl ?_
            refine aw_lv (lv' := [(1, .int i0), (2, .ref (a + 42)), (3, .int v3_b21), (5, .int v5_b21)]) [0, 1, 2, 4] rfl ?_
            exact J49 (v4_b21 + (1 : Int32)) H_b21 h0 hs hm
    refine aw_lv (lv' := [(1, .int i0), (2, .ref (a + 42)), (3, .int (0 : Int32)), (4, .int (0 : Int32)), (5, .int (0 : Int32))]) [5, 3, 2, 1, 0] rfl ?_
    exact L21 FU_ (0 : Int32) (0 : Int32) (0 : Int32) H3 h0 hs hx21
  · have hm := tb_e hv hm
    obtain rfl := Option.some.inj hm
    subst hQ
    exact ⟨rfl, hs.step0 z⟩
def mX7_dearest : mt_ := (yX7_dearest, cX7_dearest, 8, some .int, [], { frames := 7, locals := 122, cells := 2, slots := 12 })
theorem ckX7_dearest : cokV_ mX7_dearest := ⟨⟨(uw_mem 1262 (by decide +kernel) (by decide +kernel)), (uw_mem 103 (by decide +kernel) (by decide +kernel)), by decide +kernel, by decide +kernel⟩, (uw_mem 1260 (by decide +kernel) (by decide +kernel)), (uw_mem 1261 (by decide +kernel) (by decide +kernel))⟩
theorem nkX7_dearest : nok_ mX7_dearest 2 := by decide +kernel
def fX7_dearest_x30_81 (v4_x30_81 : Int32) : Option ((Int32 ⊕ Nat)) :=
  some (.inl v4_x30_81)
def fX7_dearest_k30 (x : Int32) : Option ((Int32 ⊕ Nat)) :=
  fX7_dearest_x30_81 x
def fX7_dearest_j75 (v6_b30 : Int32) (v4_j75 : Int32) (v5_j75 : Int32) : Option ((Int32 × Int32 × Int32) ⊕ (Int32)) :=
  some (.inl (v4_j75, v5_j75, (v6_b30 + (1 : Int32))))
def fX7_dearest_j67 (v6_b30 : Int32) (r13 : Int32) : Option ((Int32 × Int32 × Int32) ⊕ (Int32)) :=
  fX7_dearest_j75 v6_b30 v6_b30 r13
def fX7_dearest_b30 (s : st_) (i0 : Int32) (i1 : Int32) (v4_b30 : Int32) (v5_b30 : Int32) (v6_b30 : Int32) : Option ((Int32 × Int32 × Int32) ⊕ (Int32)) :=
  if (s 42 1) < (v6_b30 + i1) then (some (.inr v4_b30))
  else (bn_ (fX4_paidIn (sb_ s 42) i0 v6_b30 (v6_b30 + i1)) fun r13 =>
  if v4_b30 = (-1 : Int32) then (fX7_dearest_j67 v6_b30 r13)
  else (if r13 ≤ v5_b30 then (fX7_dearest_j75 v6_b30 v4_b30 v5_b30)
  else (fX7_dearest_j67 v6_b30 r13)))
def fX7_dearest_l30 (s : st_) (i0 : Int32) (i1 : Int32) : Nat → (Int32 × Int32 × Int32) → Option (Int32) :=
  it_ (fun v => fX7_dearest_b30 s i0 i1 v.1 v.2.1 v.2.2)
def fX7_dearest (s : st_) (i0 : Int32) (i1 : Int32) : Option ((Int32 ⊕ Nat)) :=
  bn_ (fX7_requireRule s i0) fun r1 =>
  tb_ r1 (fun x5 =>
  bn_ (fX7_requireWithin i1 (1 : Int32) (1000 : Int32)) fun r7 =>
  tb_ r7 (fun x11 =>
  bn_ (fX7_dearest_l30 s i0 i1 FU_ ((-1 : Int32), (0 : Int32), (0 : Int32))) (fX7_dearest_k30))
  (fun c12 => some (.inr c12)))
  (fun c6 => some (.inr c6))
theorem kX7_dearest {E : ev_} {H : Heap} {a : Nat} {s : st_} {i0 : Int32} {i1 : Int32} {r : (Int32 ⊕ Nat)} (hm : fX7_dearest s i0 i1 = some r) (h0 : has_ E H a ly_M s) : sp_ E mX7_dearest [.ref a, .int i0, .int i1] H (po1 (thr_ (fun x => some (.int x)) r) (fun Hn => sm_ H Hn 0 0)) := by
  refine sp_of (by decide +kernel) rfl rfl ?_
  generalize hQ : po1 _ _ = Q
  have hs : sm_ H H 0 0 := sm_.rfl'
  unfold fX7_dearest at hm
  refine aw_lv (lv' := [(0, .ref a), (1, .int i0), (2, .int i1)]) [0, 1, 2] rfl ?_
  refine aw_b (pc' := 2) (lv' := [(0, .ref a), (1, .int i0), (2, .int i1)]) (st' := [.int i0, .ref a]) [(0, .aload_n 0, 1, .null), (1, .iload_n 1, 1, .null)] (by decide +kernel) rfl ?_
  obtain ⟨r1, e2, hm⟩ := bn_x hm
  refine aw_ct (rest := []) (u := 1) (u6 := 6) a 0 (kX7_requireRule e2 h0) rfl ckX7_requireRule lkX7_138 h0 eo_M_0 ⟨_, _, rfl⟩ nkX7_requireRule rfl rfl rfl rfl rfl (Nat.le_of_ble_eq_true rfl) (Nat.le_of_ble_eq_true rfl) (Nat.le_of_ble_eq_true rfl) (by decide +kernel) (fun x5 H3 hv z4 => ?_) (fun c6 H3 hv z => ?_)
  · have hm := tb_i hv hm
    have h0 := h0.kept0 z4
    have hs := hs.step0 z4
    show aw E _ Q 5 _ [] _ _ _
    refine aw_b (pc' := 10) (lv' := [(0, .ref a), (1, .int i0), (2, .int i1)]) (st' := [.int (1000 : Int32), .int (1 : Int32), .int i1]) [(5, .iload_n 2, 1, .null), (6, .iconst 1, 1, .int (1 : Int32)), (7, .sipush 1000, 3, .int (1000 : Int32))] (by decide +kernel) rfl ?_
    obtain ⟨r7, e8, hm⟩ := bn_x hm
    refine aw_cts (rest := []) (u := 1) (u6 := 6) (kX7_requireWithin e8) rfl ckX7_requireWithin lkX7_196 nkX7_requireWithin rfl rfl rfl rfl rfl (Nat.le_of_ble_eq_true rfl) (Nat.le_of_ble_eq_true rfl) (Nat.le_of_ble_eq_true rfl) (by decide +kernel) (fun x11 H9 hv z10 => ?_) (fun c12 H9 hv z => ?_)
    · have hm := tb_i hv hm
      have h0 := h0.kept0 z10
      have hs := hs.step0 z10
      show aw E _ Q 13 _ [] _ _ _
      refine aw_b (pc' := 14) (lv' := [(0, .ref a), (1, .int i0), (2, .int i1)]) (st' := [.ref a]) [(13, .aload_n 0, 1, .null)] (by decide +kernel) rfl ?_
      refine aw_gl (v := .ref (a + 8)) a 0 h0 eo_M_0 fgX7_30 rfl (by decide +kernel) ?_
      refine aw_gl (v := .ref (a + 42)) a 8 h0 eo_M_8 fgX7_153 rfl (by decide +kernel) ?_
      refine aw_b (pc' := 30) (lv' := [(6, .int (0 : Int32)), (5, .int (0 : Int32)), (4, .int (-1 : Int32)), (3, .ref (a + 42)), (0, .ref a), (1, .int i0), (2, .int i1)]) (st' := []) [(20, .astore_n 3, 1, .null), (21, .iconst (-1), 1, .int (-1 : Int32)), (22, .istore 4, 2, .null), (24, .iconst 0, 1, .int (0 : Int32)), (25, .istore 5, 2, .null), (27, .iconst 0, 1, .int (0 : Int32)), (28, .istore 6, 2, .null)] (by decide +kernel) rfl ?_
      obtain ⟨x30, hx30, hr30⟩ := bn_x hm
      have X30_81 : ∀ (v4_x30_81 : Int32) (H_x30_81 : Heap), has_ E H_x30_81 a ly_M s → sm_ H H_x30_81 0 0 → fX7_dearest_x30_81 v4_x30_81 = some r → aw E mX7_dearest Q 81 [(4, .int v4_x30_81)] [] H_x30_81 2 12 := by
        intro v4_x30_81 H_x30_81 h0 hs hm
        unfold fX7_dearest_x30_81 at hm
        refine aw_b (pc' := 83) (lv' := [(4, .int v4_x30_81)]) (st' := [.int v4_x30_81]) [(81, .iload 4, 2, .null)] (by decide +kernel) rfl ?_
        obtain rfl := Option.some.inj hm
        subst hQ
        exact aw_iret rfl (Nat.le_of_ble_eq_true rfl) (Nat.le_of_ble_eq_true rfl) (by decide +kernel) ⟨rfl, hs⟩
      have L30 : ∀ (fu : Nat) (v4_b30 : Int32) (v5_b30 : Int32) (v6_b30 : Int32) (H_b30 : Heap), has_ E H_b30 a ly_M s → sm_ H H_b30 0 0 → fX7_dearest_l30 s i0 i1 fu (v4_b30, v5_b30, v6_b30) = some x30 → aw E mX7_dearest Q 30 [(1, .int i0), (2, .int i1), (3, .ref (a + 42)), (4, .int v4_b30), (5, .int v5_b30), (6, .int v6_b30)] [] H_b30 2 12 := by
        intro fu
        induction fu with
        | zero =>
          intro v4_b30 v5_b30 v6_b30 H_b30 h0 hs hm
          exact (it_0 hm).elim
        | succ fu ih30 =>
          intro v4_b30 v5_b30 v6_b30 H_b30 h0 hs hm
          obtain ⟨y30, hm, hk30⟩ := it_s hm
          have hm : fX7_dearest_b30 s i0 i1 v4_b30 v5_b30 v6_b30 = some y30 := hm
          unfold fX7_dearest_b30 at hm
          refine aw_b (pc' := 35) (lv' := [(1, .int i0), (2, .int i1), (3, .ref (a + 42)), (4, .int v4_b30), (5, .int v5_b30), (6, .int v6_b30)]) (st' := [.ref (a + 42), .int (v6_b30 + i1)]) [(30, .iload 6, 2, .null), (32, .iload_n 2, 1, .null), (33, .iadd, 1, .null), (34, .aload_n 3, 1, .null)] (by decide +kernel) rfl ?_
          refine aw_gl (v := .int (s 42 1)) a 42 h0 eo_M_42 fgX7_335 rfl (by decide +kernel) ?_
          refine aw_ic_gt (off := 43) 81 (by decide) (by decide +kernel) (fun hc => ?_) (fun hc => ?_)
          · have hm := (if_pos hc).symm.trans hm
            cases hm
            refine aw_lv (lv' := [(4, .int v4_b30)]) [3] rfl ?_
            exact X30_81 v4_b30 H_b30 h0 hs ((congrArg fX7_dearest_k30 (show (v4_b30) = x30 from hk30)).trans hr30)
          · have hm := (if_neg hc).symm.trans hm
            refine aw_b (pc' := 49) (lv' := [(1, .int i0), (2, .int i1), (3, .ref (a + 42)), (4, .int v4_b30), (5, .int v5_b30), (6, .int v6_b30)]) (st' := [.int (v6_b30 + i1), .int v6_b30, .int i0, .ref (a + 42)]) [(41, .aload_n 3, 1, .null), (42, .iload_n 1, 1, .null), (43, .iload 6, 2, .null), (45, .iload 6, 2, .null), (47, .iload_n 2, 1, .null), (48, .iadd, 1, .null)] (by decide +kernel) rfl ?_
            obtain ⟨r13, e14, hm⟩ := bn_x hm
            refine aw_cv (rest := []) (st1 := [.int r13]) a 42 (kX4_paidIn e14 (h0.sub su_M_42_R)) rfl rfl ckX4_paidIn lkX7_319 h0 eo_M_42 ⟨_, _, rfl⟩ nkX4_paidIn rfl rfl rfl (Nat.le_of_ble_eq_true rfl) (Nat.le_of_ble_eq_true rfl) (Nat.le_of_ble_eq_true rfl) (by decide +kernel) (fun H15 z16 => ?_)
            have h0 := h0.kept0 z16
            have hs := hs.step0 z16
            refine aw_b (pc' := 57) (lv' := [(7, .int r13), (1, .int i0), (2, .int i1), (3, .ref (a + 42)), (4, .int v4_b30), (5, .int v5_b30), (6, .int v6_b30)]) (st' := [.int (-1 : Int32), .int v4_b30]) [(52, .istore 7, 2, .null), (54, .iload 4, 2, .null), (56, .iconst (-1), 1, .int (-1 : Int32))] (by decide +kernel) rfl ?_
            have J75 : ∀ (v4_j75 : Int32) (v5_j75 : Int32) (H_j75 : Heap), has_ E H_j75 a ly_M s → sm_ H H_j75 0 0 → fX7_dearest_j75 v6_b30 v4_j75 v5_j75 = some y30 → aw E mX7_dearest Q 75 [(1, .int i0), (2, .int i1), (3, .ref (a + 42)), (4, .int v4_j75), (5, .int v5_j75), (6, .int v6_b30)] [] H_j75 2 12 := by
              intro v4_j75 v5_j75 H_j75 h0 hs hm
              unfold fX7_dearest_j75 at hm
              refine aw_b (pc' := 30) (lv' := [(6, .int (v6_b30 + (1 : Int32))), (1, .int i0), (2, .int i1), (3, .ref (a + 42)), (4, .int v4_j75), (5, .int v5_j75)]) (st' := []) [(75, .iinc 6 1, 3, .int (1 : Int32)), (78, .goto (-48), 3, .null)] (by decide +kernel) rfl ?_
              cases hm
              refine aw_lv (lv' := [(1, .int i0), (2, .int i1), (3, .ref (a + 42)), (4, .int v4_j75), (5, .int v5_j75), (6, .int (v6_b30 + (1 : Int32)))]) [1, 2, 3, 4, 5, 0] rfl ?_
              exact ih30 v4_j75 v5_j75 (v6_b30 + (1 : Int32)) H_j75 h0 hs hk30
            have J67 : ∀ (H_j67 : Heap), has_ E H_j67 a ly_M s → sm_ H H_j67 0 0 → fX7_dearest_j67 v6_b30 r13 = some y30 → aw E mX7_dearest Q 67 [(1, .int i0), (2, .int i1), (3, .ref (a + 42)), (6, .int v6_b30), (7, .int r13)] [] H_j67 2 12 := by
              intro H_j67 h0 hs hm
              unfold fX7_dearest_j67 at hm
              refine aw_b (pc' := 75) (lv' := [(5, .int r13), (4, .int v6_b30), (1, .int i0), (2, .int i1), (3, .ref (a + 42)), (6, .int v6_b30), (7, .int r13)]) (st' := []) [(67, .iload 6, 2, .null), (69, .istore 4, 2, .null), (71, .iload 7, 2, .null), (73, .istore 5, 2, .null)] (by decide +kernel) rfl ?_
              refine aw_lv (lv' := [(1, .int i0), (2, .int i1), (3, .ref (a + 42)), (4, .int v6_b30), (5, .int r13), (6, .int v6_b30)]) [2, 3, 4, 1, 0, 5] rfl ?_
              exact J75 v6_b30 r13 H_j67 h0 hs hm
            refine aw_ic_eq (off := 10) 67 (by decide) (by decide +kernel) (fun hc => ?_) (fun hc => ?_)
            · have hm := (if_pos hc).symm.trans hm
              refine aw_lv (lv' := [(1, .int i0), (2, .int i1), (3, .ref (a + 42)), (6, .int v6_b30), (7, .int r13)]) [1, 2, 3, 6, 0] rfl ?_
              exact J67 H15 h0 hs hm
            · have hm := (if_neg hc).symm.trans hm
              refine aw_b (pc' := 64) (lv' := [(7, .int r13), (1, .int i0), (2, .int i1), (3, .ref (a + 42)), (4, .int v4_b30), (5, .int v5_b30), (6, .int v6_b30)]) (st' := [.int v5_b30, .int r13]) [(60, .iload 7, 2, .null), (62, .iload 5, 2, .null)] (by decide +kernel) rfl ?_
              refine aw_ic_le (off := 11) 75 (by decide) (by decide +kernel) (fun hc => ?_) (fun hc => ?_)
              · have hm := (if_pos hc).symm.trans hm
                refine aw_lv (lv' := [(1, .int i0), (2, .int i1), (3, .ref (a + 42)), (4, .int v4_b30), (5, .int v5_b30), (6, .int v6_b30)]) [1, 2, 3, 4, 5, 6] rfl ?_
                exact J75 v4_b30 v5_b30 H15 h0 hs hm
              · have hm := (if_neg hc).symm.trans hm
                refine aw_lv (lv' := [(1, .int i0), (2, .int i1), (3, .ref (a + 42)), (6, .int v6_b30), (7, .int r13)]) [1, 2, 3, 6, 0] rfl ?_
                exact J67 H15 h0 hs hm
      refine aw_lv (lv' := [(1, .int i0), (2, .int i1), (3, .ref (a + 42)), (4, .int (-1 : Int32)), (5, .int (0 : Int32)), (6, .int (0 : Int32))]) [5, 6, 3, 2, 1, 0] rfl ?_
      exact L30 FU_ (-1 : Int32) (0 : Int32) (0 : Int32) H9 h0 hs hx30
    · have hm := tb_e hv hm
      obtain rfl := Option.some.inj hm
      subst hQ
      exact ⟨rfl, hs.step0 z⟩
  · have hm := tb_e hv hm
    obtain rfl := Option.some.inj hm
    subst hQ
    exact ⟨rfl, hs.step0 z⟩
def mX7_requireWindow : mt_ := (yX7_requireWindow, cX7_requireWindow, 3, none, [], { frames := 7, locals := 122, cells := 2, slots := 12 })
theorem ckX7_requireWindow : cokV_ mX7_requireWindow := ⟨⟨(uw_mem 1273 (by decide +kernel) (by decide +kernel)), (uw_mem 103 (by decide +kernel) (by decide +kernel)), by decide +kernel, by decide +kernel⟩, (uw_mem 1272 (by decide +kernel) (by decide +kernel)), (uw_mem 25 (by decide +kernel) (by decide +kernel))⟩
theorem nkX7_requireWindow : nok_ mX7_requireWindow 2 := by decide +kernel
theorem ksX7_392 : Cond.stringRef RX7 392 "a negative round" ∈ lw_tbl := List.mem_of_getElem? (i := 1274) (by decide +kernel)
def fX7_requireWindow (s : st_) (i0 : Int32) (i1 : Int32) : Option ((Unit ⊕ Nat)) :=
  if (0 : Int32) ≤ i0 then (bn_ (fX7_requireWithin i1 (1 : Int32) (1000 : Int32)) fun r1 =>
  tb_ r1 (fun x5 =>
  some (.inl ()))
  (fun c6 => some (.inr c6)))
  else (some (.inr 1))
theorem kX7_requireWindow {E : ev_} {H : Heap} {a : Nat} {s : st_} {i0 : Int32} {i1 : Int32} {r : (Unit ⊕ Nat)} (hm : fX7_requireWindow s i0 i1 = some r) (h0 : has_ E H a ly_M s) : sp_ E mX7_requireWindow [.ref a, .int i0, .int i1] H (po1 (thr_ (fun _ => none) r) (fun Hn => sm_ H Hn 0 0)) := by
  refine sp_of (by decide +kernel) rfl rfl ?_
  generalize hQ : po1 _ _ = Q
  have hs : sm_ H H 0 0 := sm_.rfl'
  unfold fX7_requireWindow at hm
  refine aw_lv (lv' := [(0, .ref a), (1, .int i0), (2, .int i1)]) [0, 1, 2] rfl ?_
  refine aw_b (pc' := 1) (lv' := [(0, .ref a), (1, .int i0), (2, .int i1)]) (st' := [.int i0]) [(0, .iload_n 1, 1, .null)] (by decide +kernel) rfl ?_
  refine aw_if_ge (off := 14) 15 (by decide) (by decide +kernel) (fun hc => ?_) (fun hc => ?_)
  · have hm := (if_pos hc).symm.trans hm
    refine aw_b (pc' := 20) (lv' := [(0, .ref a), (1, .int i0), (2, .int i1)]) (st' := [.int (1000 : Int32), .int (1 : Int32), .int i1]) [(15, .iload_n 2, 1, .null), (16, .iconst 1, 1, .int (1 : Int32)), (17, .sipush 1000, 3, .int (1000 : Int32))] (by decide +kernel) rfl ?_
    obtain ⟨r1, e2, hm⟩ := bn_x hm
    refine aw_cts (rest := []) (u := 1) (u6 := 6) (kX7_requireWithin e2) rfl ckX7_requireWithin lkX7_196 nkX7_requireWithin rfl rfl rfl rfl rfl (Nat.le_of_ble_eq_true rfl) (Nat.le_of_ble_eq_true rfl) (Nat.le_of_ble_eq_true rfl) (by decide +kernel) (fun x5 H3 hv z4 => ?_) (fun c6 H3 hv z => ?_)
    · have hm := tb_i hv hm
      have h0 := h0.kept0 z4
      have hs := hs.step0 z4
      show aw E _ Q 23 _ [] _ _ _
      obtain rfl := Option.some.inj hm
      subst hQ
      exact aw_vret rfl (Nat.le_of_ble_eq_true rfl) (Nat.le_of_ble_eq_true rfl) (by decide +kernel) ⟨rfl, hs⟩
    · have hm := tb_e hv hm
      obtain rfl := Option.some.inj hm
      subst hQ
      exact ⟨rfl, hs.step0 z⟩
  · have hm := (if_neg hc).symm.trans hm
    obtain rfl := Option.some.inj hm
    subst hQ
    exact aw_thrW tws_1 kcX7_131 ksX7_392 rfl rfl (Nat.le_of_ble_eq_true rfl) (Nat.le_of_ble_eq_true rfl) (Nat.le_of_ble_eq_true rfl) (by decide +kernel) (by decide +kernel) (by decide +kernel) (by decide +kernel) (by decide +kernel) (fun H1 z => ⟨rfl, hs.step0 z⟩)
def mX7_windowRegret : mt_ := (yX7_windowRegret, cX7_windowRegret, 3, some .int, [], { frames := 8, locals := 144, cells := 2, slots := 12 })
theorem ckX7_windowRegret : cokV_ mX7_windowRegret := ⟨⟨(uw_mem 1269 (by decide +kernel) (by decide +kernel)), (uw_mem 103 (by decide +kernel) (by decide +kernel)), by decide +kernel, by decide +kernel⟩, (uw_mem 1267 (by decide +kernel) (by decide +kernel)), (uw_mem 1268 (by decide +kernel) (by decide +kernel))⟩
theorem nkX7_windowRegret : nok_ mX7_windowRegret 2 := by decide +kernel
theorem lkX7_344 : Cond.methodLink RX7 344 yX7_requireWindow ∈ uw_ := (uw_mem 1270 (by decide +kernel) (by decide +kernel))
theorem lkX7_347 : Cond.methodLink RX7 347 yX4_regretOver ∈ uw_ := (uw_mem 1275 (by decide +kernel) (by decide +kernel))
def fX7_windowRegret (s : st_) (i0 : Int32) (i1 : Int32) : Option ((Int32 ⊕ Nat)) :=
  bn_ (fX7_requireWindow s i0 i1) fun r1 =>
  tb_ r1 (fun x5 =>
  bn_ (fX4_hasRounds (sb_ s 42) i0 i1) fun r7 =>
  if r7 = (0 : Int32) then (some (.inl (-2000000000 : Int32)))
  else (bn_ (fX4_regretOver (sb_ s 42) i0 (i0 + i1)) fun r11 =>
  some (.inl r11)))
  (fun c6 => some (.inr c6))
theorem kX7_windowRegret {E : ev_} {H : Heap} {a : Nat} {s : st_} {i0 : Int32} {i1 : Int32} {r : (Int32 ⊕ Nat)} (hm : fX7_windowRegret s i0 i1 = some r) (h0 : has_ E H a ly_M s) : sp_ E mX7_windowRegret [.ref a, .int i0, .int i1] H (po1 (thr_ (fun x => some (.int x)) r) (fun Hn => sm_ H Hn 0 0)) := by
  refine sp_of (by decide +kernel) rfl rfl ?_
  generalize hQ : po1 _ _ = Q
  have hs : sm_ H H 0 0 := sm_.rfl'
  unfold fX7_windowRegret at hm
  refine aw_lv (lv' := [(0, .ref a), (1, .int i0), (2, .int i1)]) [0, 1, 2] rfl ?_
  refine aw_b (pc' := 3) (lv' := [(0, .ref a), (1, .int i0), (2, .int i1)]) (st' := [.int i1, .int i0, .ref a]) [(0, .aload_n 0, 1, .null), (1, .iload_n 1, 1, .null), (2, .iload_n 2, 1, .null)] (by decide +kernel) rfl ?_
  obtain ⟨r1, e2, hm⟩ := bn_x hm
  refine aw_ct (rest := []) (u := 2) (u6 := 12) a 0 (kX7_requireWindow e2 h0) rfl ckX7_requireWindow lkX7_344 h0 eo_M_0 ⟨_, _, rfl⟩ nkX7_requireWindow rfl rfl rfl rfl rfl (Nat.le_of_ble_eq_true rfl) (Nat.le_of_ble_eq_true rfl) (Nat.le_of_ble_eq_true rfl) (by decide +kernel) (fun x5 H3 hv z4 => ?_) (fun c6 H3 hv z => ?_)
  · have hm := tb_i hv hm
    have h0 := h0.kept0 z4
    have hs := hs.step0 z4
    show aw E _ Q 6 _ [] _ _ _
    refine aw_b (pc' := 7) (lv' := [(0, .ref a), (1, .int i0), (2, .int i1)]) (st' := [.ref a]) [(6, .aload_n 0, 1, .null)] (by decide +kernel) rfl ?_
    refine aw_gl (v := .ref (a + 8)) a 0 h0 eo_M_0 fgX7_30 rfl (by decide +kernel) ?_
    refine aw_gl (v := .ref (a + 42)) a 8 h0 eo_M_8 fgX7_153 rfl (by decide +kernel) ?_
    refine aw_b (pc' := 15) (lv' := [(0, .ref a), (1, .int i0), (2, .int i1)]) (st' := [.int i1, .int i0, .ref (a + 42)]) [(13, .iload_n 1, 1, .null), (14, .iload_n 2, 1, .null)] (by decide +kernel) rfl ?_
    obtain ⟨r7, e8, hm⟩ := bn_x hm
    refine aw_cv (rest := []) (st1 := [.int r7]) a 42 (kX4_hasRounds e8 (h0.sub su_M_42_R)) rfl rfl ckX4_hasRounds lkX7_315 h0 eo_M_42 ⟨_, _, rfl⟩ nkX4_hasRounds rfl rfl rfl (Nat.le_of_ble_eq_true rfl) (Nat.le_of_ble_eq_true rfl) (Nat.le_of_ble_eq_true rfl) (by decide +kernel) (fun H9 z10 => ?_)
    have h0 := h0.kept0 z10
    have hs := hs.step0 z10
    refine aw_if_eq (off := 20) 38 (by decide) (by decide +kernel) (fun hc => ?_) (fun hc => ?_)
    · have hm := (if_pos hc).symm.trans hm
      refine aw_ldcw (v := (-2000000000 : Int32)) kwX7_302 (by decide +kernel) ?_
      obtain rfl := Option.some.inj hm
      subst hQ
      exact aw_iret rfl (Nat.le_of_ble_eq_true rfl) (Nat.le_of_ble_eq_true rfl) (by decide +kernel) ⟨rfl, hs⟩
    · have hm := (if_neg hc).symm.trans hm
      refine aw_b (pc' := 22) (lv' := [(0, .ref a), (1, .int i0), (2, .int i1)]) (st' := [.ref a]) [(21, .aload_n 0, 1, .null)] (by decide +kernel) rfl ?_
      refine aw_gl (v := .ref (a + 8)) a 0 h0 eo_M_0 fgX7_30 rfl (by decide +kernel) ?_
      refine aw_gl (v := .ref (a + 42)) a 8 h0 eo_M_8 fgX7_153 rfl (by decide +kernel) ?_
      refine aw_b (pc' := 32) (lv' := [(0, .ref a), (1, .int i0), (2, .int i1)]) (st' := [.int (i0 + i1), .int i0, .ref (a + 42)]) [(28, .iload_n 1, 1, .null), (29, .iload_n 1, 1, .null), (30, .iload_n 2, 1, .null), (31, .iadd, 1, .null)] (by decide +kernel) rfl ?_
      obtain ⟨r11, e12, hm⟩ := bn_x hm
      refine aw_cv (rest := []) (st1 := [.int r11]) a 42 (kX4_regretOver e12 (h0.sub su_M_42_R)) rfl rfl ckX4_regretOver lkX7_347 h0 eo_M_42 ⟨_, _, rfl⟩ nkX4_regretOver rfl rfl rfl (Nat.le_of_ble_eq_true rfl) (Nat.le_of_ble_eq_true rfl) (Nat.le_of_ble_eq_true rfl) (by decide +kernel) (fun H13 z14 => ?_)
      have h0 := h0.kept0 z14
      have hs := hs.step0 z14
      refine aw_b (pc' := 41) (lv' := [(0, .ref a), (1, .int i0), (2, .int i1)]) (st' := [.int r11]) [(35, .goto 6, 3, .null)] (by decide +kernel) rfl ?_
      obtain rfl := Option.some.inj hm
      subst hQ
      exact aw_iret rfl (Nat.le_of_ble_eq_true rfl) (Nat.le_of_ble_eq_true rfl) (by decide +kernel) ⟨rfl, hs⟩
  · have hm := tb_e hv hm
    obtain rfl := Option.some.inj hm
    subst hQ
    exact ⟨rfl, hs.step0 z⟩
def mX7_windowBest : mt_ := (yX7_windowBest, cX7_windowBest, 3, some .int, [], { frames := 8, locals := 144, cells := 2, slots := 12 })
theorem ckX7_windowBest : cokV_ mX7_windowBest := ⟨⟨(uw_mem 1285 (by decide +kernel) (by decide +kernel)), (uw_mem 103 (by decide +kernel) (by decide +kernel)), by decide +kernel, by decide +kernel⟩, (uw_mem 1283 (by decide +kernel) (by decide +kernel)), (uw_mem 1284 (by decide +kernel) (by decide +kernel))⟩
theorem nkX7_windowBest : nok_ mX7_windowBest 2 := by decide +kernel
def fX7_windowBest (s : st_) (i0 : Int32) (i1 : Int32) : Option ((Int32 ⊕ Nat)) :=
  bn_ (fX7_requireWindow s i0 i1) fun r1 =>
  tb_ r1 (fun x5 =>
  bn_ (fX4_hasRounds (sb_ s 42) i0 i1) fun r7 =>
  if r7 = (0 : Int32) then (some (.inl (-1 : Int32)))
  else (bn_ (fX4_cheapestIn (sb_ s 42) i0 (i0 + i1)) fun r11 =>
  some (.inl r11)))
  (fun c6 => some (.inr c6))
theorem kX7_windowBest {E : ev_} {H : Heap} {a : Nat} {s : st_} {i0 : Int32} {i1 : Int32} {r : (Int32 ⊕ Nat)} (hm : fX7_windowBest s i0 i1 = some r) (h0 : has_ E H a ly_M s) : sp_ E mX7_windowBest [.ref a, .int i0, .int i1] H (po1 (thr_ (fun x => some (.int x)) r) (fun Hn => sm_ H Hn 0 0)) := by
  refine sp_of (by decide +kernel) rfl rfl ?_
  generalize hQ : po1 _ _ = Q
  have hs : sm_ H H 0 0 := sm_.rfl'
  unfold fX7_windowBest at hm
  refine aw_lv (lv' := [(0, .ref a), (1, .int i0), (2, .int i1)]) [0, 1, 2] rfl ?_
  refine aw_b (pc' := 3) (lv' := [(0, .ref a), (1, .int i0), (2, .int i1)]) (st' := [.int i1, .int i0, .ref a]) [(0, .aload_n 0, 1, .null), (1, .iload_n 1, 1, .null), (2, .iload_n 2, 1, .null)] (by decide +kernel) rfl ?_
  obtain ⟨r1, e2, hm⟩ := bn_x hm
  refine aw_ct (rest := []) (u := 2) (u6 := 12) a 0 (kX7_requireWindow e2 h0) rfl ckX7_requireWindow lkX7_344 h0 eo_M_0 ⟨_, _, rfl⟩ nkX7_requireWindow rfl rfl rfl rfl rfl (Nat.le_of_ble_eq_true rfl) (Nat.le_of_ble_eq_true rfl) (Nat.le_of_ble_eq_true rfl) (by decide +kernel) (fun x5 H3 hv z4 => ?_) (fun c6 H3 hv z => ?_)
  · have hm := tb_i hv hm
    have h0 := h0.kept0 z4
    have hs := hs.step0 z4
    show aw E _ Q 6 _ [] _ _ _
    refine aw_b (pc' := 7) (lv' := [(0, .ref a), (1, .int i0), (2, .int i1)]) (st' := [.ref a]) [(6, .aload_n 0, 1, .null)] (by decide +kernel) rfl ?_
    refine aw_gl (v := .ref (a + 8)) a 0 h0 eo_M_0 fgX7_30 rfl (by decide +kernel) ?_
    refine aw_gl (v := .ref (a + 42)) a 8 h0 eo_M_8 fgX7_153 rfl (by decide +kernel) ?_
    refine aw_b (pc' := 15) (lv' := [(0, .ref a), (1, .int i0), (2, .int i1)]) (st' := [.int i1, .int i0, .ref (a + 42)]) [(13, .iload_n 1, 1, .null), (14, .iload_n 2, 1, .null)] (by decide +kernel) rfl ?_
    obtain ⟨r7, e8, hm⟩ := bn_x hm
    refine aw_cv (rest := []) (st1 := [.int r7]) a 42 (kX4_hasRounds e8 (h0.sub su_M_42_R)) rfl rfl ckX4_hasRounds lkX7_315 h0 eo_M_42 ⟨_, _, rfl⟩ nkX4_hasRounds rfl rfl rfl (Nat.le_of_ble_eq_true rfl) (Nat.le_of_ble_eq_true rfl) (Nat.le_of_ble_eq_true rfl) (by decide +kernel) (fun H9 z10 => ?_)
    have h0 := h0.kept0 z10
    have hs := hs.step0 z10
    refine aw_if_eq (off := 20) 38 (by decide) (by decide +kernel) (fun hc => ?_) (fun hc => ?_)
    · have hm := (if_pos hc).symm.trans hm
      refine aw_b (pc' := 39) (lv' := [(0, .ref a), (1, .int i0), (2, .int i1)]) (st' := [.int (-1 : Int32)]) [(38, .iconst (-1), 1, .int (-1 : Int32))] (by decide +kernel) rfl ?_
      obtain rfl := Option.some.inj hm
      subst hQ
      exact aw_iret rfl (Nat.le_of_ble_eq_true rfl) (Nat.le_of_ble_eq_true rfl) (by decide +kernel) ⟨rfl, hs⟩
    · have hm := (if_neg hc).symm.trans hm
      refine aw_b (pc' := 22) (lv' := [(0, .ref a), (1, .int i0), (2, .int i1)]) (st' := [.ref a]) [(21, .aload_n 0, 1, .null)] (by decide +kernel) rfl ?_
      refine aw_gl (v := .ref (a + 8)) a 0 h0 eo_M_0 fgX7_30 rfl (by decide +kernel) ?_
      refine aw_gl (v := .ref (a + 42)) a 8 h0 eo_M_8 fgX7_153 rfl (by decide +kernel) ?_
      refine aw_b (pc' := 32) (lv' := [(0, .ref a), (1, .int i0), (2, .int i1)]) (st' := [.int (i0 + i1), .int i0, .ref (a + 42)]) [(28, .iload_n 1, 1, .null), (29, .iload_n 1, 1, .null), (30, .iload_n 2, 1, .null), (31, .iadd, 1, .null)] (by decide +kernel) rfl ?_
      obtain ⟨r11, e12, hm⟩ := bn_x hm
      refine aw_cv (rest := []) (st1 := [.int r11]) a 42 (kX4_cheapestIn e12 (h0.sub su_M_42_R)) rfl rfl ckX4_cheapestIn lkX7_332 h0 eo_M_42 ⟨_, _, rfl⟩ nkX4_cheapestIn rfl rfl rfl (Nat.le_of_ble_eq_true rfl) (Nat.le_of_ble_eq_true rfl) (Nat.le_of_ble_eq_true rfl) (by decide +kernel) (fun H13 z14 => ?_)
      have h0 := h0.kept0 z14
      have hs := hs.step0 z14
      refine aw_b (pc' := 39) (lv' := [(0, .ref a), (1, .int i0), (2, .int i1)]) (st' := [.int r11]) [(35, .goto 4, 3, .null)] (by decide +kernel) rfl ?_
      obtain rfl := Option.some.inj hm
      subst hQ
      exact aw_iret rfl (Nat.le_of_ble_eq_true rfl) (Nat.le_of_ble_eq_true rfl) (by decide +kernel) ⟨rfl, hs⟩
  · have hm := tb_e hv hm
    obtain rfl := Option.some.inj hm
    subst hQ
    exact ⟨rfl, hs.step0 z⟩
def mX7_worstWindow : mt_ := (yX7_worstWindow, cX7_worstWindow, 7, some .int, [], { frames := 7, locals := 122, cells := 1, slots := 6 })
theorem ckX7_worstWindow : cokV_ mX7_worstWindow := ⟨⟨(uw_mem 1292 (by decide +kernel) (by decide +kernel)), (uw_mem 103 (by decide +kernel) (by decide +kernel)), by decide +kernel, by decide +kernel⟩, (uw_mem 1290 (by decide +kernel) (by decide +kernel)), (uw_mem 1291 (by decide +kernel) (by decide +kernel))⟩
theorem nkX7_worstWindow : nok_ mX7_worstWindow 1 := by decide +kernel
def fX7_worstWindow_x24_72 (v3_x24_72 : Int32) : Option ((Int32 ⊕ Nat)) :=
  some (.inl v3_x24_72)
def fX7_worstWindow_k24 (x : Int32) : Option ((Int32 ⊕ Nat)) :=
  fX7_worstWindow_x24_72 x
def fX7_worstWindow_j66 (v5_b24 : Int32) (v3_j66 : Int32) (v4_j66 : Int32) : Option ((Int32 × Int32 × Int32) ⊕ (Int32)) :=
  some (.inl (v3_j66, v4_j66, (v5_b24 + (1 : Int32))))
def fX7_worstWindow_j59 (v5_b24 : Int32) (r7 : Int32) : Option ((Int32 × Int32 × Int32) ⊕ (Int32)) :=
  fX7_worstWindow_j66 v5_b24 v5_b24 r7
def fX7_worstWindow_b24 (s : st_) (i0 : Int32) (v3_b24 : Int32) (v4_b24 : Int32) (v5_b24 : Int32) : Option ((Int32 × Int32 × Int32) ⊕ (Int32)) :=
  if (s 42 1) < (v5_b24 + i0) then (some (.inr v3_b24))
  else (bn_ (fX4_regretOver (sb_ s 42) v5_b24 (v5_b24 + i0)) fun r7 =>
  if v3_b24 = (-1 : Int32) then (fX7_worstWindow_j59 v5_b24 r7)
  else (if r7 ≤ v4_b24 then (fX7_worstWindow_j66 v5_b24 v3_b24 v4_b24)
  else (fX7_worstWindow_j59 v5_b24 r7)))
def fX7_worstWindow_l24 (s : st_) (i0 : Int32) : Nat → (Int32 × Int32 × Int32) → Option (Int32) :=
  it_ (fun v => fX7_worstWindow_b24 s i0 v.1 v.2.1 v.2.2)
def fX7_worstWindow (s : st_) (i0 : Int32) : Option ((Int32 ⊕ Nat)) :=
  bn_ (fX7_requireWithin i0 (1 : Int32) (1000 : Int32)) fun r1 =>
  tb_ r1 (fun x5 =>
  bn_ (fX7_worstWindow_l24 s i0 FU_ ((-1 : Int32), (0 : Int32), (0 : Int32))) (fX7_worstWindow_k24))
  (fun c6 => some (.inr c6))
theorem kX7_worstWindow {E : ev_} {H : Heap} {a : Nat} {s : st_} {i0 : Int32} {r : (Int32 ⊕ Nat)} (hm : fX7_worstWindow s i0 = some r) (h0 : has_ E H a ly_M s) : sp_ E mX7_worstWindow [.ref a, .int i0] H (po1 (thr_ (fun x => some (.int x)) r) (fun Hn => sm_ H Hn 0 0)) := by
  refine sp_of (by decide +kernel) rfl rfl ?_
  generalize hQ : po1 _ _ = Q
  have hs : sm_ H H 0 0 := sm_.rfl'
  unfold fX7_worstWindow at hm
  refine aw_lv (lv' := [(0, .ref a), (1, .int i0)]) [0, 1] rfl ?_
  refine aw_b (pc' := 5) (lv' := [(0, .ref a), (1, .int i0)]) (st' := [.int (1000 : Int32), .int (1 : Int32), .int i0]) [(0, .iload_n 1, 1, .null), (1, .iconst 1, 1, .int (1 : Int32)), (2, .sipush 1000, 3, .int (1000 : Int32))] (by decide +kernel) rfl ?_
  obtain ⟨r1, e2, hm⟩ := bn_x hm
  refine aw_cts (rest := []) (u := 1) (u6 := 6) (kX7_requireWithin e2) rfl ckX7_requireWithin lkX7_196 nkX7_requireWithin rfl rfl rfl rfl rfl (Nat.le_of_ble_eq_true rfl) (Nat.le_of_ble_eq_true rfl) (Nat.le_of_ble_eq_true rfl) (by decide +kernel) (fun x5 H3 hv z4 => ?_) (fun c6 H3 hv z => ?_)
  · have hm := tb_i hv hm
    have h0 := h0.kept0 z4
    have hs := hs.step0 z4
    show aw E _ Q 8 _ [] _ _ _
    refine aw_b (pc' := 9) (lv' := [(0, .ref a), (1, .int i0)]) (st' := [.ref a]) [(8, .aload_n 0, 1, .null)] (by decide +kernel) rfl ?_
    refine aw_gl (v := .ref (a + 8)) a 0 h0 eo_M_0 fgX7_30 rfl (by decide +kernel) ?_
    refine aw_gl (v := .ref (a + 42)) a 8 h0 eo_M_8 fgX7_153 rfl (by decide +kernel) ?_
    refine aw_b (pc' := 24) (lv' := [(5, .int (0 : Int32)), (4, .int (0 : Int32)), (3, .int (-1 : Int32)), (2, .ref (a + 42)), (0, .ref a), (1, .int i0)]) (st' := []) [(15, .astore_n 2, 1, .null), (16, .iconst (-1), 1, .int (-1 : Int32)), (17, .istore_n 3, 1, .null), (18, .iconst 0, 1, .int (0 : Int32)), (19, .istore 4, 2, .null), (21, .iconst 0, 1, .int (0 : Int32)), (22, .istore 5, 2, .null)] (by decide +kernel) rfl ?_
    obtain ⟨x24, hx24, hr24⟩ := bn_x hm
    have X24_72 : ∀ (v3_x24_72 : Int32) (H_x24_72 : Heap), has_ E H_x24_72 a ly_M s → sm_ H H_x24_72 0 0 → fX7_worstWindow_x24_72 v3_x24_72 = some r → aw E mX7_worstWindow Q 72 [(3, .int v3_x24_72)] [] H_x24_72 1 6 := by
      intro v3_x24_72 H_x24_72 h0 hs hm
      unfold fX7_worstWindow_x24_72 at hm
      refine aw_b (pc' := 73) (lv' := [(3, .int v3_x24_72)]) (st' := [.int v3_x24_72]) [(72, .iload_n 3, 1, .null)] (by decide +kernel) rfl ?_
      obtain rfl := Option.some.inj hm
      subst hQ
      exact aw_iret rfl (Nat.le_of_ble_eq_true rfl) (Nat.le_of_ble_eq_true rfl) (by decide +kernel) ⟨rfl, hs⟩
    have L24 : ∀ (fu : Nat) (v3_b24 : Int32) (v4_b24 : Int32) (v5_b24 : Int32) (H_b24 : Heap), has_ E H_b24 a ly_M s → sm_ H H_b24 0 0 → fX7_worstWindow_l24 s i0 fu (v3_b24, v4_b24, v5_b24) = some x24 → aw E mX7_worstWindow Q 24 [(1, .int i0), (2, .ref (a + 42)), (3, .int v3_b24), (4, .int v4_b24), (5, .int v5_b24)] [] H_b24 1 6 := by
      intro fu
      induction fu with
      | zero =>
        intro v3_b24 v4_b24 v5_b24 H_b24 h0 hs hm
        exact (it_0 hm).elim
      | succ fu ih24 =>
        intro v3_b24 v4_b24 v5_b24 H_b24 h0 hs hm
        obtain ⟨y24, hm, hk24⟩ := it_s hm
        have hm : fX7_worstWindow_b24 s i0 v3_b24 v4_b24 v5_b24 = some y24 := hm
        unfold fX7_worstWindow_b24 at hm
        refine aw_b (pc' := 29) (lv' := [(1, .int i0), (2, .ref (a + 42)), (3, .int v3_b24), (4, .int v4_b24), (5, .int v5_b24)]) (st' := [.ref (a + 42), .int (v5_b24 + i0)]) [(24, .iload 5, 2, .null), (26, .iload_n 1, 1, .null), (27, .iadd, 1, .null), (28, .aload_n 2, 1, .null)] (by decide +kernel) rfl ?_
        refine aw_gl (v := .int (s 42 1)) a 42 h0 eo_M_42 fgX7_335 rfl (by decide +kernel) ?_
        refine aw_ic_gt (off := 40) 72 (by decide) (by decide +kernel) (fun hc => ?_) (fun hc => ?_)
        · have hm := (if_pos hc).symm.trans hm
          cases hm
          refine aw_lv (lv' := [(3, .int v3_b24)]) [2] rfl ?_
          exact X24_72 v3_b24 H_b24 h0 hs ((congrArg fX7_worstWindow_k24 (show (v3_b24) = x24 from hk24)).trans hr24)
        · have hm := (if_neg hc).symm.trans hm
          refine aw_b (pc' := 42) (lv' := [(1, .int i0), (2, .ref (a + 42)), (3, .int v3_b24), (4, .int v4_b24), (5, .int v5_b24)]) (st' := [.int (v5_b24 + i0), .int v5_b24, .ref (a + 42)]) [(35, .aload_n 2, 1, .null), (36, .iload 5, 2, .null), (38, .iload 5, 2, .null), (40, .iload_n 1, 1, .null), (41, .iadd, 1, .null)] (by decide +kernel) rfl ?_
          obtain ⟨r7, e8, hm⟩ := bn_x hm
          refine aw_cv (rest := []) (st1 := [.int r7]) a 42 (kX4_regretOver e8 (h0.sub su_M_42_R)) rfl rfl ckX4_regretOver lkX7_347 h0 eo_M_42 ⟨_, _, rfl⟩ nkX4_regretOver rfl rfl rfl (Nat.le_of_ble_eq_true rfl) (Nat.le_of_ble_eq_true rfl) (Nat.le_of_ble_eq_true rfl) (by decide +kernel) (fun H9 z10 => ?_)
          have h0 := h0.kept0 z10
          have hs := hs.step0 z10
          refine aw_b (pc' := 49) (lv' := [(6, .int r7), (1, .int i0), (2, .ref (a + 42)), (3, .int v3_b24), (4, .int v4_b24), (5, .int v5_b24)]) (st' := [.int (-1 : Int32), .int v3_b24]) [(45, .istore 6, 2, .null), (47, .iload_n 3, 1, .null), (48, .iconst (-1), 1, .int (-1 : Int32))] (by decide +kernel) rfl ?_
          have J66 : ∀ (v3_j66 : Int32) (v4_j66 : Int32) (H_j66 : Heap), has_ E H_j66 a ly_M s → sm_ H H_j66 0 0 → fX7_worstWindow_j66 v5_b24 v3_j66 v4_j66 = some y24 → aw E mX7_worstWindow Q 66 [(1, .int i0), (2, .ref (a + 42)), (3, .int v3_j66), (4, .int v4_j66), (5, .int v5_b24)] [] H_j66 1 6 := by
            intro v3_j66 v4_j66 H_j66 h0 hs hm
            unfold fX7_worstWindow_j66 at hm
            refine aw_b (pc' := 24) (lv' := [(5, .int (v5_b24 + (1 : Int32))), (1, .int i0), (2, .ref (a + 42)), (3, .int v3_j66), (4, .int v4_j66)]) (st' := []) [(66, .iinc 5 1, 3, .int (1 : Int32)), (69, .goto (-45), 3, .null)] (by decide +kernel) rfl ?_
            cases hm
            refine aw_lv (lv' := [(1, .int i0), (2, .ref (a + 42)), (3, .int v3_j66), (4, .int v4_j66), (5, .int (v5_b24 + (1 : Int32)))]) [1, 2, 3, 4, 0] rfl ?_
            exact ih24 v3_j66 v4_j66 (v5_b24 + (1 : Int32)) H_j66 h0 hs hk24
          have J59 : ∀ (H_j59 : Heap), has_ E H_j59 a ly_M s → sm_ H H_j59 0 0 → fX7_worstWindow_j59 v5_b24 r7 = some y24 → aw E mX7_worstWindow Q 59 [(1, .int i0), (2, .ref (a + 42)), (5, .int v5_b24), (6, .int r7)] [] H_j59 1 6 := by
            intro H_j59 h0 hs hm
            unfold fX7_worstWindow_j59 at hm
            refine aw_b (pc' := 66) (lv' := [(4, .int r7), (3, .int v5_b24), (1, .int i0), (2, .ref (a + 42)), (5, .int v5_b24), (6, .int r7)]) (st' := []) [(59, .iload 5, 2, .null), (61, .istore_n 3, 1, .null), (62, .iload 6, 2, .null), (64, .istore 4, 2, .null)] (by decide +kernel) rfl ?_
            refine aw_lv (lv' := [(1, .int i0), (2, .ref (a + 42)), (3, .int v5_b24), (4, .int r7), (5, .int v5_b24)]) [2, 3, 1, 0, 4] rfl ?_
            exact J66 v5_b24 r7 H_j59 h0 hs hm
          refine aw_ic_eq (off := 10) 59 (by decide) (by decide +kernel) (fun hc => ?_) (fun hc => ?_)
          · have hm := (if_pos hc).symm.trans hm
            refine aw_lv (lv' := [(1, .int i0), (2, .ref (a + 42)), (5, .int v5_b24), (6, .int r7)]) [1, 2, 5, 0] rfl ?_
            exact J59 H9 h0 hs hm
          · have hm := (if_neg hc).symm.trans hm
            refine aw_b (pc' := 56) (lv' := [(6, .int r7), (1, .int i0), (2, .ref (a + 42)), (3, .int v3_b24), (4, .int v4_b24), (5, .int v5_b24)]) (st' := [.int v4_b24, .int r7]) [(52, .iload 6, 2, .null), (54, .iload 4, 2, .null)] (by decide +kernel) rfl ?_
            refine aw_ic_le (off := 10) 66 (by decide) (by decide +kernel) (fun hc => ?_) (fun hc => ?_)
            · have hm := (if_pos hc).symm.trans hm
              refine aw_lv (lv' := [(1, .int i0), (2, .ref (a + 42)), (3, .int v3_b24), (4, .int v4_b24), (5, .int v5_b24)]) [1, 2, 3, 4, 5] rfl ?_
              exact J66 v3_b24 v4_b24 H9 h0 hs hm
            · have hm := (if_neg hc).symm.trans hm
              refine aw_lv (lv' := [(1, .int i0), (2, .ref (a + 42)), (5, .int v5_b24), (6, .int r7)]) [1, 2, 5, 0] rfl ?_
              exact J59 H9 h0 hs hm
    refine aw_lv (lv' := [(1, .int i0), (2, .ref (a + 42)), (3, .int (-1 : Int32)), (4, .int (0 : Int32)), (5, .int (0 : Int32))]) [5, 3, 2, 1, 0] rfl ?_
    exact L24 FU_ (-1 : Int32) (0 : Int32) (0 : Int32) H3 h0 hs hx24
  · have hm := tb_e hv hm
    obtain rfl := Option.some.inj hm
    subst hQ
    exact ⟨rfl, hs.step0 z⟩
def mX7_meanCost : mt_ := (yX7_meanCost, cX7_meanCost, 3, some .double, [], { frames := 7, locals := 121, cells := 1, slots := 6 })
theorem ckX7_meanCost : cokV_ mX7_meanCost := ⟨⟨(uw_mem 1299 (by decide +kernel) (by decide +kernel)), (uw_mem 103 (by decide +kernel) (by decide +kernel)), by decide +kernel, by decide +kernel⟩, (uw_mem 1297 (by decide +kernel) (by decide +kernel)), (uw_mem 1298 (by decide +kernel) (by decide +kernel))⟩
theorem nkX7_meanCost : nok_ mX7_meanCost 1 := by decide +kernel
def fX7_meanCost (s : st_) (i0 : Int32) : Option ((UInt64 ⊕ Nat)) :=
  bn_ (fX7_requireArm s i0) fun r1 =>
  tb_ r1 (fun x5 =>
  if (s 9 9) = (0 : Int32) then (some (.inl FP.dconst0))
  else (bn_ (fX1_armOf (sb_ s 9) i0) fun r7 =>
  gd_ (n64_ (FP.ddiv (FP.i2d (s (9 + r7) 5)) (FP.i2d (s 9 9)))) <|
  some (.inl (FP.ddiv (FP.i2d (s (9 + r7) 5)) (FP.i2d (s 9 9))))))
  (fun c6 => some (.inr c6))
theorem kX7_meanCost {E : ev_} {H : Heap} {a : Nat} {s : st_} {i0 : Int32} {r : (UInt64 ⊕ Nat)} (hm : fX7_meanCost s i0 = some r) (h0 : has_ E H a ly_M s) : sp_ E mX7_meanCost [.ref a, .int i0] H (po1 (thr_ (fun x => some (.double x)) r) (fun Hn => sm_ H Hn 0 0)) := by
  refine sp_of (by decide +kernel) rfl rfl ?_
  generalize hQ : po1 _ _ = Q
  have hs : sm_ H H 0 0 := sm_.rfl'
  unfold fX7_meanCost at hm
  refine aw_lv (lv' := [(0, .ref a), (1, .int i0)]) [0, 1] rfl ?_
  refine aw_b (pc' := 2) (lv' := [(0, .ref a), (1, .int i0)]) (st' := [.int i0, .ref a]) [(0, .aload_n 0, 1, .null), (1, .iload_n 1, 1, .null)] (by decide +kernel) rfl ?_
  obtain ⟨r1, e2, hm⟩ := bn_x hm
  refine aw_ct (rest := []) (u := 1) (u6 := 6) a 0 (kX7_requireArm e2 h0) rfl ckX7_requireArm lkX7_214 h0 eo_M_0 ⟨_, _, rfl⟩ nkX7_requireArm rfl rfl rfl rfl rfl (Nat.le_of_ble_eq_true rfl) (Nat.le_of_ble_eq_true rfl) (Nat.le_of_ble_eq_true rfl) (by decide +kernel) (fun x5 H3 hv z4 => ?_) (fun c6 H3 hv z => ?_)
  · have hm := tb_i hv hm
    have h0 := h0.kept0 z4
    have hs := hs.step0 z4
    show aw E _ Q 5 _ [] _ _ _
    refine aw_b (pc' := 6) (lv' := [(0, .ref a), (1, .int i0)]) (st' := [.ref a]) [(5, .aload_n 0, 1, .null)] (by decide +kernel) rfl ?_
    refine aw_gl (v := .ref (a + 8)) a 0 h0 eo_M_0 fgX7_30 rfl (by decide +kernel) ?_
    refine aw_gl (v := .ref (a + 9)) a 8 h0 eo_M_8 fgX7_80 rfl (by decide +kernel) ?_
    refine aw_gl (v := .int (s 9 9)) a 9 h0 eo_M_9 fgX7_269 rfl (by decide +kernel) ?_
    refine aw_b (pc' := 17) (lv' := [(2, .int (s 9 9)), (0, .ref a), (1, .int i0)]) (st' := [.int (s 9 9)]) [(15, .istore_n 2, 1, .null), (16, .iload_n 2, 1, .null)] (by decide +kernel) rfl ?_
    refine aw_if_ne (off := 7) 24 (by decide) (by decide +kernel) (fun hc => ?_) (fun hc => ?_)
    · have hm := (if_neg hc).symm.trans hm
      refine aw_b (pc' := 25) (lv' := [(2, .int (s 9 9)), (0, .ref a), (1, .int i0)]) (st' := [.ref a]) [(24, .aload_n 0, 1, .null)] (by decide +kernel) rfl ?_
      refine aw_gl (v := .ref (a + 8)) a 0 h0 eo_M_0 fgX7_30 rfl (by decide +kernel) ?_
      refine aw_gl (v := .ref (a + 9)) a 8 h0 eo_M_8 fgX7_80 rfl (by decide +kernel) ?_
      refine aw_b (pc' := 32) (lv' := [(2, .int (s 9 9)), (0, .ref a), (1, .int i0)]) (st' := [.int i0, .ref (a + 9)]) [(31, .iload_n 1, 1, .null)] (by decide +kernel) rfl ?_
      obtain ⟨r7, e8, hm⟩ := bn_x hm
      refine aw_cv (rest := []) (st1 := [.ref (a + (9 + r7))]) a 9 (kX1_armOf e8 (h0.sub su_M_9_D)) rfl (by rw [Nat.add_assoc]; rfl) ckX1_armOf lkX7_217 h0 eo_M_9 ⟨_, _, rfl⟩ nkX1_armOf rfl rfl rfl (Nat.le_of_ble_eq_true rfl) (Nat.le_of_ble_eq_true rfl) (Nat.le_of_ble_eq_true rfl) (by decide +kernel) (fun H9 z10 => ?_)
      obtain ⟨z10, hor7⟩ := z10
      have h0 := h0.kept0 z10
      have hs := hs.step0 z10
      refine aw_gl (v := .int (s (9 + r7) 5)) a (9 + r7) h0 (eoa_M_9 _ hor7) fgX7_166 rfl (by decide +kernel) ?_
      refine aw_b (pc' := 41) (lv' := [(2, .int (s 9 9)), (0, .ref a), (1, .int i0)]) (st' := [.double (FP.i2d (s 9 9)), .double (FP.i2d (s (9 + r7) 5))]) [(38, .i2d, 1, .null), (39, .iload_n 2, 1, .null), (40, .i2d, 1, .null)] (by decide +kernel) rfl ?_
      obtain ⟨g11, hm⟩ := gd_x hm
      refine aw_ddiv (n64_x g11) (by decide +kernel) ?_
      obtain rfl := Option.some.inj hm
      subst hQ
      exact aw_dret rfl (Nat.le_of_ble_eq_true rfl) (Nat.le_of_ble_eq_true rfl) (by decide +kernel) ⟨rfl, hs⟩
    · have hm := (if_pos hc).symm.trans hm
      refine aw_dc0 (by decide +kernel) ?_
      refine aw_b (pc' := 42) (lv' := [(2, .int (s 9 9)), (0, .ref a), (1, .int i0)]) (st' := [.double FP.dconst0]) [(21, .goto 21, 3, .null)] (by decide +kernel) rfl ?_
      obtain rfl := Option.some.inj hm
      subst hQ
      exact aw_dret rfl (Nat.le_of_ble_eq_true rfl) (Nat.le_of_ble_eq_true rfl) (by decide +kernel) ⟨rfl, hs⟩
  · have hm := tb_e hv hm
    obtain rfl := Option.some.inj hm
    subst hQ
    exact ⟨rfl, hs.step0 z⟩
def mX7_share : mt_ := (yX7_share, cX7_share, 3, some .float, [], { frames := 7, locals := 121, cells := 1, slots := 6 })
theorem ckX7_share : cokV_ mX7_share := ⟨⟨(uw_mem 1306 (by decide +kernel) (by decide +kernel)), (uw_mem 103 (by decide +kernel) (by decide +kernel)), by decide +kernel, by decide +kernel⟩, (uw_mem 1304 (by decide +kernel) (by decide +kernel)), (uw_mem 1305 (by decide +kernel) (by decide +kernel))⟩
theorem nkX7_share : nok_ mX7_share 1 := by decide +kernel
theorem lkX7_350 : Cond.methodLink RX7 350 yX1_weightSum ∈ uw_ := (uw_mem 1307 (by decide +kernel) (by decide +kernel))
def fX7_share (s : st_) (i0 : Int32) : Option ((UInt32 ⊕ Nat)) :=
  bn_ (fX7_requireRule s i0) fun r1 =>
  tb_ r1 (fun x5 =>
  bn_ (fX1_weightSum (sb_ s 9)) fun r7 =>
  if r7 = (0 : Int32) then (some (.inl FP.fconst0))
  else (gd_ (ib_ i0 6) <|
  gd_ (n32_ (FP.fdiv (FP.i2f (s 21 (ix_ i0))) (FP.i2f r7))) <|
  some (.inl (FP.fdiv (FP.i2f (s 21 (ix_ i0))) (FP.i2f r7)))))
  (fun c6 => some (.inr c6))
theorem kX7_share {E : ev_} {H : Heap} {a : Nat} {s : st_} {i0 : Int32} {r : (UInt32 ⊕ Nat)} (hm : fX7_share s i0 = some r) (h0 : has_ E H a ly_M s) : sp_ E mX7_share [.ref a, .int i0] H (po1 (thr_ (fun x => some (.float x)) r) (fun Hn => sm_ H Hn 0 0)) := by
  refine sp_of (by decide +kernel) rfl rfl ?_
  generalize hQ : po1 _ _ = Q
  have hs : sm_ H H 0 0 := sm_.rfl'
  unfold fX7_share at hm
  refine aw_lv (lv' := [(0, .ref a), (1, .int i0)]) [0, 1] rfl ?_
  refine aw_b (pc' := 2) (lv' := [(0, .ref a), (1, .int i0)]) (st' := [.int i0, .ref a]) [(0, .aload_n 0, 1, .null), (1, .iload_n 1, 1, .null)] (by decide +kernel) rfl ?_
  obtain ⟨r1, e2, hm⟩ := bn_x hm
  refine aw_ct (rest := []) (u := 1) (u6 := 6) a 0 (kX7_requireRule e2 h0) rfl ckX7_requireRule lkX7_138 h0 eo_M_0 ⟨_, _, rfl⟩ nkX7_requireRule rfl rfl rfl rfl rfl (Nat.le_of_ble_eq_true rfl) (Nat.le_of_ble_eq_true rfl) (Nat.le_of_ble_eq_true rfl) (by decide +kernel) (fun x5 H3 hv z4 => ?_) (fun c6 H3 hv z => ?_)
  · have hm := tb_i hv hm
    have h0 := h0.kept0 z4
    have hs := hs.step0 z4
    show aw E _ Q 5 _ [] _ _ _
    refine aw_b (pc' := 6) (lv' := [(0, .ref a), (1, .int i0)]) (st' := [.ref a]) [(5, .aload_n 0, 1, .null)] (by decide +kernel) rfl ?_
    refine aw_gl (v := .ref (a + 8)) a 0 h0 eo_M_0 fgX7_30 rfl (by decide +kernel) ?_
    refine aw_gl (v := .ref (a + 9)) a 8 h0 eo_M_8 fgX7_80 rfl (by decide +kernel) ?_
    obtain ⟨r7, e8, hm⟩ := bn_x hm
    refine aw_cv (rest := []) (st1 := [.int r7]) a 9 (kX1_weightSum e8 (h0.sub su_M_9_D)) rfl rfl ckX1_weightSum lkX7_350 h0 eo_M_9 ⟨_, _, rfl⟩ nkX1_weightSum rfl rfl rfl (Nat.le_of_ble_eq_true rfl) (Nat.le_of_ble_eq_true rfl) (Nat.le_of_ble_eq_true rfl) (by decide +kernel) (fun H9 z10 => ?_)
    have h0 := h0.kept0 z10
    have hs := hs.step0 z10
    refine aw_b (pc' := 17) (lv' := [(2, .int r7), (0, .ref a), (1, .int i0)]) (st' := [.int r7]) [(15, .istore_n 2, 1, .null), (16, .iload_n 2, 1, .null)] (by decide +kernel) rfl ?_
    refine aw_if_ne (off := 7) 24 (by decide) (by decide +kernel) (fun hc => ?_) (fun hc => ?_)
    · have hm := (if_neg hc).symm.trans hm
      refine aw_b (pc' := 25) (lv' := [(2, .int r7), (0, .ref a), (1, .int i0)]) (st' := [.ref a]) [(24, .aload_n 0, 1, .null)] (by decide +kernel) rfl ?_
      refine aw_gl (v := .ref (a + 8)) a 0 h0 eo_M_0 fgX7_30 rfl (by decide +kernel) ?_
      refine aw_gl (v := .ref (a + 9)) a 8 h0 eo_M_8 fgX7_80 rfl (by decide +kernel) ?_
      refine aw_gl (v := .ref (a + 21)) a 9 h0 eo_M_9 fgX7_149 rfl (by decide +kernel) ?_
      refine aw_b (pc' := 35) (lv' := [(2, .int r7), (0, .ref a), (1, .int i0)]) (st' := [.int i0, .ref (a + 21)]) [(34, .iload_n 1, 1, .null)] (by decide +kernel) rfl ?_
      obtain ⟨g11, hm⟩ := gd_x hm
      refine aw_ial a 21 h0 rfl g11 (by decide +kernel) ?_
      refine aw_b (pc' := 39) (lv' := [(2, .int r7), (0, .ref a), (1, .int i0)]) (st' := [.float (FP.i2f r7), .float (FP.i2f (s 21 (ix_ i0)))]) [(36, .i2f, 1, .null), (37, .iload_n 2, 1, .null), (38, .i2f, 1, .null)] (by decide +kernel) rfl ?_
      obtain ⟨g12, hm⟩ := gd_x hm
      refine aw_fdiv (n32_x g12) (by decide +kernel) ?_
      obtain rfl := Option.some.inj hm
      subst hQ
      exact aw_fret rfl (Nat.le_of_ble_eq_true rfl) (Nat.le_of_ble_eq_true rfl) (by decide +kernel) ⟨rfl, hs⟩
    · have hm := (if_pos hc).symm.trans hm
      refine aw_fc0 (by decide +kernel) ?_
      refine aw_b (pc' := 40) (lv' := [(2, .int r7), (0, .ref a), (1, .int i0)]) (st' := [.float FP.fconst0]) [(21, .goto 19, 3, .null)] (by decide +kernel) rfl ?_
      obtain rfl := Option.some.inj hm
      subst hQ
      exact aw_fret rfl (Nat.le_of_ble_eq_true rfl) (Nat.le_of_ble_eq_true rfl) (by decide +kernel) ⟨rfl, hs⟩
  · have hm := tb_e hv hm
    obtain rfl := Option.some.inj hm
    subst hQ
    exact ⟨rfl, hs.step0 z⟩
def mX7_run : mt_ := (yX7_run, cX7_run, 3, some .int, [], { frames := 7, locals := 145, cells := 1, slots := 6 })
theorem ckX7_run : cokV_ mX7_run := ⟨⟨(uw_mem 1314 (by decide +kernel) (by decide +kernel)), (uw_mem 103 (by decide +kernel) (by decide +kernel)), by decide +kernel, by decide +kernel⟩, (uw_mem 1312 (by decide +kernel) (by decide +kernel)), (uw_mem 1313 (by decide +kernel) (by decide +kernel))⟩
theorem nkX7_run : nok_ mX7_run 1 := by decide +kernel
theorem mtX7_353 : ml_ RX7 353 Lib.Math.min.name Lib.Math.min.code 2 .int := ⟨(uw_mem 1315 (by decide +kernel) (by decide +kernel)), (uw_mem 574 (by decide +kernel) (by decide +kernel)), (uw_mem 113 (by decide +kernel) (by decide +kernel)), (uw_mem 575 (by decide +kernel) (by decide +kernel))⟩
theorem lkX7_356 : Cond.methodLink RX7 356 yX2_makeRound ∈ uw_ := (uw_mem 1316 (by decide +kernel) (by decide +kernel))
def fX7_run_x27_45 (s_x27_45 : st_) : Option (st_ × (Int32 ⊕ Nat)) :=
  some (s_x27_45, (.inl (s_x27_45 9 9)))
def fX7_run_k27 (x : st_) : Option (st_ × (Int32 ⊕ Nat)) :=
  fX7_run_x27_45 x
def fX7_run_b27 (i0 : Int32) (v2_b27 : Int32) (s_b27 : st_) : Option ((Int32 × st_) ⊕ (st_)) :=
  if i0 ≤ v2_b27 then (some (.inr s_b27))
  else (bn_ (fX2_makeRound (sb_ s_b27 8)) fun r7 =>
  bd_ (mg_ s_b27 8 75 r7) fun s11 =>
  some (.inl ((v2_b27 + (1 : Int32)), s11)))
def fX7_run_l27 (i0 : Int32) : Nat → (Int32 × st_) → Option (st_) :=
  it_ (fun v => fX7_run_b27 i0 v.1 v.2)
def fX7_run (s : st_) (i0 : Int32) : Option (st_ × (Int32 ⊕ Nat)) :=
  bn_ (fX7_requireWithin i0 (1 : Int32) (if ((1000 : Int32) - (s 9 9)) < (200 : Int32) then ((1000 : Int32) - (s 9 9)) else (200 : Int32))) fun r1 =>
  tb_ r1 (fun x5 =>
  bn_ (fX7_run_l27 i0 FU_ ((0 : Int32), s)) (fX7_run_k27))
  (fun c6 => some (s, (.inr c6)))
theorem kX7_run {E : ev_} {H : Heap} {a : Nat} {s : st_} {i0 : Int32} {r : st_ × (Int32 ⊕ Nat)} (hm : fX7_run s i0 = some r) (h0 : has_ E H a ly_M s) (hf : ev_fr E a) : sp_ E mX7_run [.ref a, .int i0] H (po1 (thr_ (fun x => some (.int x)) r.2) (fun Hn => sm_ H Hn a 119 ∧ has_ E Hn a ly_M r.1)) := by
  refine sp_of (by decide +kernel) rfl rfl ?_
  generalize hQ : po1 _ _ = Q
  have hs : sm_ H H a 119 := sm_.rfl'
  unfold fX7_run at hm
  refine aw_lv (lv' := [(0, .ref a), (1, .int i0)]) [0, 1] rfl ?_
  refine aw_b (pc' := 9) (lv' := [(0, .ref a), (1, .int i0)]) (st' := [.ref a, .int (1000 : Int32), .int (200 : Int32), .int (1 : Int32), .int i0]) [(0, .iload_n 1, 1, .null), (1, .iconst 1, 1, .int (1 : Int32)), (2, .sipush 200, 3, .int (200 : Int32)), (5, .sipush 1000, 3, .int (1000 : Int32)), (8, .aload_n 0, 1, .null)] (by decide +kernel) rfl ?_
  refine aw_gl (v := .ref (a + 8)) a 0 h0 eo_M_0 fgX7_30 rfl (by decide +kernel) ?_
  refine aw_gl (v := .ref (a + 9)) a 8 h0 eo_M_8 fgX7_80 rfl (by decide +kernel) ?_
  refine aw_gl (v := .int (s 9 9)) a 9 h0 eo_M_9 fgX7_269 rfl (by decide +kernel) ?_
  refine aw_b (pc' := 19) (lv' := [(0, .ref a), (1, .int i0)]) (st' := [.int ((1000 : Int32) - (s 9 9)), .int (200 : Int32), .int (1 : Int32), .int i0]) [(18, .isub, 1, .null)] (by decide +kernel) rfl ?_
  refine aw_mn (rest := [.int (1 : Int32), .int i0]) mtX7_353 rfl (Nat.le_of_ble_eq_true rfl) (Nat.zero_le _) (Nat.zero_le _) (by decide +kernel) ?_
  obtain ⟨r1, e2, hm⟩ := bn_x hm
  refine aw_cts (rest := []) (u := 1) (u6 := 6) (kX7_requireWithin e2) rfl ckX7_requireWithin lkX7_196 nkX7_requireWithin rfl rfl rfl rfl rfl (Nat.le_of_ble_eq_true rfl) (Nat.le_of_ble_eq_true rfl) (Nat.le_of_ble_eq_true rfl) (by decide +kernel) (fun x5 H3 hv z4 => ?_) (fun c6 H3 hv z => ?_)
  · have hm := tb_i hv hm
    have h0 := h0.kept0 z4
    have hs := hs.step0 z4
    show aw E _ Q 25 _ [] _ _ _
    refine aw_b (pc' := 27) (lv' := [(2, .int (0 : Int32)), (0, .ref a), (1, .int i0)]) (st' := []) [(25, .iconst 0, 1, .int (0 : Int32)), (26, .istore_n 2, 1, .null)] (by decide +kernel) rfl ?_
    obtain ⟨x27, hx27, hr27⟩ := bn_x hm
    have X27_45 : ∀ (s_x27_45 : st_) (H_x27_45 : Heap), has_ E H_x27_45 a ly_M s_x27_45 → sm_ H H_x27_45 a 119 → fX7_run_x27_45 s_x27_45 = some r → aw E mX7_run Q 45 [(0, .ref a)] [] H_x27_45 1 6 := by
      intro s_x27_45 H_x27_45 h0 hs hm
      unfold fX7_run_x27_45 at hm
      refine aw_b (pc' := 46) (lv' := [(0, .ref a)]) (st' := [.ref a]) [(45, .aload_n 0, 1, .null)] (by decide +kernel) rfl ?_
      refine aw_gl (v := .ref (a + 8)) a 0 h0 eo_M_0 fgX7_30 rfl (by decide +kernel) ?_
      refine aw_gl (v := .ref (a + 9)) a 8 h0 eo_M_8 fgX7_80 rfl (by decide +kernel) ?_
      refine aw_gl (v := .int (s_x27_45 9 9)) a 9 h0 eo_M_9 fgX7_269 rfl (by decide +kernel) ?_
      obtain rfl := Option.some.inj hm
      subst hQ
      exact aw_iret rfl (Nat.le_of_ble_eq_true rfl) (Nat.le_of_ble_eq_true rfl) (by decide +kernel) ⟨rfl, hs, h0⟩
    have L27 : ∀ (fu : Nat) (v2_b27 : Int32) (s_b27 : st_) (H_b27 : Heap), has_ E H_b27 a ly_M s_b27 → sm_ H H_b27 a 119 → fX7_run_l27 i0 fu (v2_b27, s_b27) = some x27 → aw E mX7_run Q 27 [(0, .ref a), (1, .int i0), (2, .int v2_b27)] [] H_b27 1 6 := by
      intro fu
      induction fu with
      | zero =>
        intro v2_b27 s_b27 H_b27 h0 hs hm
        exact (it_0 hm).elim
      | succ fu ih27 =>
        intro v2_b27 s_b27 H_b27 h0 hs hm
        obtain ⟨y27, hm, hk27⟩ := it_s hm
        have hm : fX7_run_b27 i0 v2_b27 s_b27 = some y27 := hm
        unfold fX7_run_b27 at hm
        refine aw_b (pc' := 29) (lv' := [(0, .ref a), (1, .int i0), (2, .int v2_b27)]) (st' := [.int i0, .int v2_b27]) [(27, .iload_n 2, 1, .null), (28, .iload_n 1, 1, .null)] (by decide +kernel) rfl ?_
        refine aw_ic_ge (off := 16) 45 (by decide) (by decide +kernel) (fun hc => ?_) (fun hc => ?_)
        · have hm := (if_pos hc).symm.trans hm
          cases hm
          refine aw_lv (lv' := [(0, .ref a)]) [0] rfl ?_
          exact X27_45 s_b27 H_b27 h0 hs ((congrArg fX7_run_k27 (show (s_b27) = x27 from hk27)).trans hr27)
        · have hm := (if_neg hc).symm.trans hm
          refine aw_b (pc' := 33) (lv' := [(0, .ref a), (1, .int i0), (2, .int v2_b27)]) (st' := [.ref a]) [(32, .aload_n 0, 1, .null)] (by decide +kernel) rfl ?_
          refine aw_gl (v := .ref (a + 8)) a 0 h0 eo_M_0 fgX7_30 rfl (by decide +kernel) ?_
          obtain ⟨r7, e8, hm⟩ := bn_x hm
          refine aw_cv (rest := []) (st1 := []) a 8 (kX2_makeRound e8 (h0.sub su_M_8_G) (Nat.le_trans hf (Nat.le_add_right _ _))) rfl rfl ckX2_makeRound lkX7_356 h0 eo_M_8 ⟨_, _, rfl⟩ nkX2_makeRound rfl rfl rfl (Nat.le_of_ble_eq_true rfl) (Nat.le_of_ble_eq_true rfl) (Nat.le_of_ble_eq_true rfl) (by decide +kernel) (fun H9 z10 => ?_)
          obtain ⟨z10, hn⟩ := z10
          obtain ⟨s11, e12, hm⟩ := bd_x hm
          have h0 := h0.mg su_M_8_G hn z10 rfl e12
          have hs := hs.step z10 (by omega) (by omega)
          refine aw_b (pc' := 27) (lv' := [(2, .int (v2_b27 + (1 : Int32))), (0, .ref a), (1, .int i0)]) (st' := []) [(39, .iinc 2 1, 3, .int (1 : Int32)), (42, .goto (-15), 3, .null)] (by decide +kernel) rfl ?_
          cases hm
          refine aw_lv (lv' := [(0, .ref a), (1, .int i0), (2, .int (v2_b27 + (1 : Int32)))]) [1, 2, 0] rfl ?_
          exact ih27 (v2_b27 + (1 : Int32)) s11 H9 h0 hs hk27
    refine aw_lv (lv' := [(0, .ref a), (1, .int i0), (2, .int (0 : Int32))]) [1, 2, 0] rfl ?_
    exact L27 FU_ (0 : Int32) s H3 h0 hs hx27
  · have hm := tb_e hv hm
    obtain rfl := Option.some.inj hm
    subst hQ
    exact ⟨rfl, hs.step0 z, h0.kept0 z⟩
def mX7_runToBreach : mt_ := (yX7_runToBreach, cX7_runToBreach, 4, some .int, [], { frames := 7, locals := 145, cells := 1, slots := 6 })
theorem ckX7_runToBreach : cokV_ mX7_runToBreach := ⟨⟨(uw_mem 1355 (by decide +kernel) (by decide +kernel)), (uw_mem 103 (by decide +kernel) (by decide +kernel)), by decide +kernel, by decide +kernel⟩, (uw_mem 1353 (by decide +kernel) (by decide +kernel)), (uw_mem 1354 (by decide +kernel) (by decide +kernel))⟩
theorem nkX7_runToBreach : nok_ mX7_runToBreach 1 := by decide +kernel
theorem lkX7_359 : Cond.methodLink RX7 359 yX1_isBreach ∈ uw_ := (uw_mem 892 (by decide +kernel) (by decide +kernel))
def fX7_runToBreach_x29_64 (s_x29_64 : st_) : Option (st_ × (Int32 ⊕ Nat)) :=
  some (s_x29_64, (.inl (-1 : Int32)))
def fX7_runToBreach_x29_54 (v3_x29_54 : Int32) (s_x29_54 : st_) : Option (st_ × (Int32 ⊕ Nat)) :=
  some (s_x29_54, (.inl (v3_x29_54 + (1 : Int32))))
def fX7_runToBreach_k29 (x : (Int32 × st_) ⊕ (st_)) : Option (st_ × (Int32 ⊕ Nat)) :=
  Sum.elim (fun z => fX7_runToBreach_x29_54 z.1 z.2) (fun z => fX7_runToBreach_x29_64 z) x
def fX7_runToBreach_b29 (s : st_) (i0 : Int32) (v3_b29 : Int32) (s_b29 : st_) : Option ((Int32 × st_) ⊕ ((Int32 × st_) ⊕ (st_))) :=
  if (if ((1000 : Int32) - (s 9 9)) < i0 then ((1000 : Int32) - (s 9 9)) else i0) ≤ v3_b29 then (some (.inr (.inr s_b29)))
  else (bn_ (fX2_makeRound (sb_ s_b29 8)) fun r7 =>
  bd_ (mg_ s_b29 8 75 r7) fun s11 =>
  bn_ (fX1_isBreach (sb_ s11 9)) fun r13 =>
  if r13 = (0 : Int32) then (some (.inl ((v3_b29 + (1 : Int32)), s11)))
  else (some (.inr (.inl (v3_b29, s11)))))
def fX7_runToBreach_l29 (s : st_) (i0 : Int32) : Nat → (Int32 × st_) → Option ((Int32 × st_) ⊕ (st_)) :=
  it_ (fun v => fX7_runToBreach_b29 s i0 v.1 v.2)
def fX7_runToBreach (s : st_) (i0 : Int32) : Option (st_ × (Int32 ⊕ Nat)) :=
  bn_ (fX7_requireWithin i0 (1 : Int32) (200 : Int32)) fun r1 =>
  tb_ r1 (fun x5 =>
  bn_ (fX7_runToBreach_l29 s i0 FU_ ((0 : Int32), s)) (fX7_runToBreach_k29))
  (fun c6 => some (s, (.inr c6)))
theorem kX7_runToBreach {E : ev_} {H : Heap} {a : Nat} {s : st_} {i0 : Int32} {r : st_ × (Int32 ⊕ Nat)} (hm : fX7_runToBreach s i0 = some r) (h0 : has_ E H a ly_M s) (hf : ev_fr E a) : sp_ E mX7_runToBreach [.ref a, .int i0] H (po1 (thr_ (fun x => some (.int x)) r.2) (fun Hn => sm_ H Hn a 119 ∧ has_ E Hn a ly_M r.1)) := by
  refine sp_of (by decide +kernel) rfl rfl ?_
  generalize hQ : po1 _ _ = Q
  have hs : sm_ H H a 119 := sm_.rfl'
  unfold fX7_runToBreach at hm
  refine aw_lv (lv' := [(0, .ref a), (1, .int i0)]) [0, 1] rfl ?_
  refine aw_b (pc' := 5) (lv' := [(0, .ref a), (1, .int i0)]) (st' := [.int (200 : Int32), .int (1 : Int32), .int i0]) [(0, .iload_n 1, 1, .null), (1, .iconst 1, 1, .int (1 : Int32)), (2, .sipush 200, 3, .int (200 : Int32))] (by decide +kernel) rfl ?_
  obtain ⟨r1, e2, hm⟩ := bn_x hm
  refine aw_cts (rest := []) (u := 1) (u6 := 6) (kX7_requireWithin e2) rfl ckX7_requireWithin lkX7_196 nkX7_requireWithin rfl rfl rfl rfl rfl (Nat.le_of_ble_eq_true rfl) (Nat.le_of_ble_eq_true rfl) (Nat.le_of_ble_eq_true rfl) (by decide +kernel) (fun x5 H3 hv z4 => ?_) (fun c6 H3 hv z => ?_)
  · have hm := tb_i hv hm
    have h0 := h0.kept0 z4
    have hs := hs.step0 z4
    show aw E _ Q 8 _ [] _ _ _
    refine aw_b (pc' := 13) (lv' := [(0, .ref a), (1, .int i0)]) (st' := [.ref a, .int (1000 : Int32), .int i0]) [(8, .iload_n 1, 1, .null), (9, .sipush 1000, 3, .int (1000 : Int32)), (12, .aload_n 0, 1, .null)] (by decide +kernel) rfl ?_
    refine aw_gl (v := .ref (a + 8)) a 0 h0 eo_M_0 fgX7_30 rfl (by decide +kernel) ?_
    refine aw_gl (v := .ref (a + 9)) a 8 h0 eo_M_8 fgX7_80 rfl (by decide +kernel) ?_
    refine aw_gl (v := .int (s 9 9)) a 9 h0 eo_M_9 fgX7_269 rfl (by decide +kernel) ?_
    refine aw_b (pc' := 23) (lv' := [(0, .ref a), (1, .int i0)]) (st' := [.int ((1000 : Int32) - (s 9 9)), .int i0]) [(22, .isub, 1, .null)] (by decide +kernel) rfl ?_
    refine aw_mn (rest := []) mtX7_353 rfl (Nat.le_of_ble_eq_true rfl) (Nat.le_of_ble_eq_true rfl) (Nat.le_of_ble_eq_true rfl) (by decide +kernel) ?_
    refine aw_b (pc' := 29) (lv' := [(3, .int (0 : Int32)), (2, .int (if ((1000 : Int32) - (s 9 9)) < i0 then ((1000 : Int32) - (s 9 9)) else i0)), (0, .ref a), (1, .int i0)]) (st' := []) [(26, .istore_n 2, 1, .null), (27, .iconst 0, 1, .int (0 : Int32)), (28, .istore_n 3, 1, .null)] (by decide +kernel) rfl ?_
    obtain ⟨x29, hx29, hr29⟩ := bn_x hm
    have X29_64 : ∀ (s_x29_64 : st_) (H_x29_64 : Heap), has_ E H_x29_64 a ly_M s_x29_64 → sm_ H H_x29_64 a 119 → fX7_runToBreach_x29_64 s_x29_64 = some r → aw E mX7_runToBreach Q 64 [] [] H_x29_64 1 6 := by
      intro s_x29_64 H_x29_64 h0 hs hm
      unfold fX7_runToBreach_x29_64 at hm
      refine aw_b (pc' := 65) (lv' := []) (st' := [.int (-1 : Int32)]) [(64, .iconst (-1), 1, .int (-1 : Int32))] (by decide +kernel) rfl ?_
      obtain rfl := Option.some.inj hm
      subst hQ
      exact aw_iret rfl (Nat.le_of_ble_eq_true rfl) (Nat.le_of_ble_eq_true rfl) (by decide +kernel) ⟨rfl, hs, h0⟩
    have X29_54 : ∀ (v3_x29_54 : Int32) (s_x29_54 : st_) (H_x29_54 : Heap), has_ E H_x29_54 a ly_M s_x29_54 → sm_ H H_x29_54 a 119 → fX7_runToBreach_x29_54 v3_x29_54 s_x29_54 = some r → aw E mX7_runToBreach Q 54 [(3, .int v3_x29_54)] [] H_x29_54 1 6 := by
      intro v3_x29_54 s_x29_54 H_x29_54 h0 hs hm
      unfold fX7_runToBreach_x29_54 at hm
      refine aw_b (pc' := 57) (lv' := [(3, .int v3_x29_54)]) (st' := [.int (v3_x29_54 + (1 : Int32))]) [(54, .iload_n 3, 1, .null), (55, .iconst 1, 1, .int (1 : Int32)), (56, .iadd, 1, .null)] (by decide +kernel) rfl ?_
      obtain rfl := Option.some.inj hm
      subst hQ
      exact aw_iret rfl (Nat.le_of_ble_eq_true rfl) (Nat.le_of_ble_eq_true rfl) (by decide +kernel) ⟨rfl, hs, h0⟩
    have L29 : ∀ (fu : Nat) (v3_b29 : Int32) (s_b29 : st_) (H_b29 : Heap), has_ E H_b29 a ly_M s_b29 → sm_ H H_b29 a 119 → fX7_runToBreach_l29 s i0 fu (v3_b29, s_b29) = some x29 → aw E mX7_runToBreach Q 29 [(0, .ref a), (2, .int (if ((1000 : Int32) - (s 9 9)) < i0 then ((1000 : Int32) - (s 9 9)) else i0)), (3, .int v3_b29)] [] H_b29 1 6 := by
      intro fu
      induction fu with
      | zero =>
        intro v3_b29 s_b29 H_b29 h0 hs hm
        exact (it_0 hm).elim
      | succ fu ih29 =>
        intro v3_b29 s_b29 H_b29 h0 hs hm
        obtain ⟨y29, hm, hk29⟩ := it_s hm
        have hm : fX7_runToBreach_b29 s i0 v3_b29 s_b29 = some y29 := hm
        unfold fX7_runToBreach_b29 at hm
        refine aw_b (pc' := 31) (lv' := [(0, .ref a), (2, .int (if ((1000 : Int32) - (s 9 9)) < i0 then ((1000 : Int32) - (s 9 9)) else i0)), (3, .int v3_b29)]) (st' := [.int (if ((1000 : Int32) - (s 9 9)) < i0 then ((1000 : Int32) - (s 9 9)) else i0), .int v3_b29]) [(29, .iload_n 3, 1, .null), (30, .iload_n 2, 1, .null)] (by decide +kernel) rfl ?_
        refine aw_ic_ge (off := 33) 64 (by decide) (by decide +kernel) (fun hc => ?_) (fun hc => ?_)
        · have hm := (if_pos hc).symm.trans hm
          cases hm
          refine aw_lv (lv' := []) [] rfl ?_
          exact X29_64 s_b29 H_b29 h0 hs ((congrArg fX7_runToBreach_k29 (show (.inr s_b29) = x29 from hk29)).trans hr29)
        · have hm := (if_neg hc).symm.trans hm
          refine aw_b (pc' := 35) (lv' := [(0, .ref a), (2, .int (if ((1000 : Int32) - (s 9 9)) < i0 then ((1000 : Int32) - (s 9 9)) else i0)), (3, .int v3_b29)]) (st' := [.ref a]) [(34, .aload_n 0, 1, .null)] (by decide +kernel) rfl ?_
          refine aw_gl (v := .ref (a + 8)) a 0 h0 eo_M_0 fgX7_30 rfl (by decide +kernel) ?_
          obtain ⟨r7, e8, hm⟩ := bn_x hm
          refine aw_cv (rest := []) (st1 := []) a 8 (kX2_makeRound e8 (h0.sub su_M_8_G) (Nat.le_trans hf (Nat.le_add_right _ _))) rfl rfl ckX2_makeRound lkX7_356 h0 eo_M_8 ⟨_, _, rfl⟩ nkX2_makeRound rfl rfl rfl (Nat.le_of_ble_eq_true rfl) (Nat.le_of_ble_eq_true rfl) (Nat.le_of_ble_eq_true rfl) (by decide +kernel) (fun H9 z10 => ?_)
          obtain ⟨z10, hn⟩ := z10
          obtain ⟨s11, e12, hm⟩ := bd_x hm
          have h0 := h0.mg su_M_8_G hn z10 rfl e12
          have hs := hs.step z10 (by omega) (by omega)
          refine aw_b (pc' := 42) (lv' := [(0, .ref a), (2, .int (if ((1000 : Int32) - (s 9 9)) < i0 then ((1000 : Int32) - (s 9 9)) else i0)), (3, .int v3_b29)]) (st' := [.ref a]) [(41, .aload_n 0, 1, .null)] (by decide +kernel) rfl ?_
          refine aw_gl (v := .ref (a + 8)) a 0 h0 eo_M_0 fgX7_30 rfl (by decide +kernel) ?_
          refine aw_gl (v := .ref (a + 9)) a 8 h0 eo_M_8 fgX7_80 rfl (by decide +kernel) ?_
          obtain ⟨r13, e14, hm⟩ := bn_x hm
          refine aw_cv (rest := []) (st1 := [.int r13]) a 9 (kX1_isBreach e14 (h0.sub su_M_9_D)) rfl rfl ckX1_isBreach lkX7_359 h0 eo_M_9 ⟨_, _, rfl⟩ nkX1_isBreach rfl rfl rfl (Nat.le_of_ble_eq_true rfl) (Nat.le_of_ble_eq_true rfl) (Nat.le_of_ble_eq_true rfl) (by decide +kernel) (fun H15 z16 => ?_)
          have h0 := h0.kept0 z16
          have hs := hs.step0 z16
          refine aw_if_eq (off := 7) 58 (by decide) (by decide +kernel) (fun hc => ?_) (fun hc => ?_)
          · have hm := (if_pos hc).symm.trans hm
            refine aw_b (pc' := 29) (lv' := [(3, .int (v3_b29 + (1 : Int32))), (0, .ref a), (2, .int (if ((1000 : Int32) - (s 9 9)) < i0 then ((1000 : Int32) - (s 9 9)) else i0))]) (st' := []) [(58, .iinc 3 1, 3, .int (1 : Int32)), (61, .goto (-32), 3, .null)] (by decide +kernel) rfl ?_
            cases hm
            refine aw_lv (lv' := [(0, .ref a), (2, .int (if ((1000 : Int32) - (s 9 9)) < i0 then ((1000 : Int32) - (s 9 9)) else i0)), (3, .int (v3_b29 + (1 : Int32)))]) [1, 2, 0] rfl ?_
            exact ih29 (v3_b29 + (1 : Int32)) s11 H15 h0 hs hk29
          · have hm := (if_neg hc).symm.trans hm
            cases hm
            refine aw_lv (lv' := [(3, .int v3_b29)]) [2] rfl ?_
            exact X29_54 v3_b29 s11 H15 h0 hs ((congrArg fX7_runToBreach_k29 (show (.inl (v3_b29, s11)) = x29 from hk29)).trans hr29)
    refine aw_lv (lv' := [(0, .ref a), (2, .int (if ((1000 : Int32) - (s 9 9)) < i0 then ((1000 : Int32) - (s 9 9)) else i0)), (3, .int (0 : Int32))]) [2, 1, 0] rfl ?_
    exact L29 FU_ (0 : Int32) s H3 h0 hs hx29
  · have hm := tb_e hv hm
    obtain rfl := Option.some.inj hm
    subst hQ
    exact ⟨rfl, hs.step0 z, h0.kept0 z⟩
def mX7_hurtOf : mt_ := (yX7_hurtOf, cX7_hurtOf, 2, some .int, [], { frames := 8, locals := 143, cells := 1, slots := 6 })
theorem ckX7_hurtOf : cokV_ mX7_hurtOf := ⟨⟨(uw_mem 1362 (by decide +kernel) (by decide +kernel)), (uw_mem 103 (by decide +kernel) (by decide +kernel)), by decide +kernel, by decide +kernel⟩, (uw_mem 1360 (by decide +kernel) (by decide +kernel)), (uw_mem 1361 (by decide +kernel) (by decide +kernel))⟩
theorem nkX7_hurtOf : nok_ mX7_hurtOf 1 := by decide +kernel
theorem lkX7_362 : Cond.methodLink RX7 362 yX1_foreseeHurts ∈ uw_ := (uw_mem 779 (by decide +kernel) (by decide +kernel))
theorem fgX7_365 : fok_ RX7 365 1 5 := ⟨_, _, _, rfl, by decide, (uw_mem 363 (by decide +kernel) (by decide +kernel)), wkX1⟩
def fX7_hurtOf (s : st_) (i0 : Int32) : Option (st_ × (Int32 ⊕ Nat)) :=
  bn_ (fX7_requireCylinder s i0) fun r1 =>
  tb_ r1 (fun x5 =>
  bn_ (fX1_isFull (sb_ s 9)) fun r7 =>
  if r7 = (0 : Int32) then (bn_ (fX1_comingRule (sb_ s 9)) fun r11 =>
  bn_ (fX1_foreseeHurts (sb_ s 9) r11) fun r15 =>
  bd_ (mg_ s 9 33 r15) fun s19 =>
  gd_ (ib_ i0 100) <|
  some (s19, (.inl (s19 22 (ix_ i0)))))
  else (some (s, (.inl (-2000000000 : Int32)))))
  (fun c6 => some (s, (.inr c6)))
theorem kX7_hurtOf {E : ev_} {H : Heap} {a : Nat} {s : st_} {i0 : Int32} {r : st_ × (Int32 ⊕ Nat)} (hm : fX7_hurtOf s i0 = some r) (h0 : has_ E H a ly_M s) (hf : ev_fr E a) : sp_ E mX7_hurtOf [.ref a, .int i0] H (po1 (thr_ (fun x => some (.int x)) r.2) (fun Hn => sm_ H Hn a 119 ∧ has_ E Hn a ly_M r.1)) := by
  refine sp_of (by decide +kernel) rfl rfl ?_
  generalize hQ : po1 _ _ = Q
  have hs : sm_ H H a 119 := sm_.rfl'
  unfold fX7_hurtOf at hm
  refine aw_lv (lv' := [(0, .ref a), (1, .int i0)]) [0, 1] rfl ?_
  refine aw_b (pc' := 2) (lv' := [(0, .ref a), (1, .int i0)]) (st' := [.int i0, .ref a]) [(0, .aload_n 0, 1, .null), (1, .iload_n 1, 1, .null)] (by decide +kernel) rfl ?_
  obtain ⟨r1, e2, hm⟩ := bn_x hm
  refine aw_ct (rest := []) (u := 1) (u6 := 6) a 0 (kX7_requireCylinder e2 h0) rfl ckX7_requireCylinder lkX7_179 h0 eo_M_0 ⟨_, _, rfl⟩ nkX7_requireCylinder rfl rfl rfl rfl rfl (Nat.le_of_ble_eq_true rfl) (Nat.le_of_ble_eq_true rfl) (Nat.le_of_ble_eq_true rfl) (by decide +kernel) (fun x5 H3 hv z4 => ?_) (fun c6 H3 hv z => ?_)
  · have hm := tb_i hv hm
    have h0 := h0.kept0 z4
    have hs := hs.step0 z4
    show aw E _ Q 5 _ [] _ _ _
    refine aw_b (pc' := 6) (lv' := [(0, .ref a), (1, .int i0)]) (st' := [.ref a]) [(5, .aload_n 0, 1, .null)] (by decide +kernel) rfl ?_
    refine aw_gl (v := .ref (a + 8)) a 0 h0 eo_M_0 fgX7_30 rfl (by decide +kernel) ?_
    refine aw_gl (v := .ref (a + 9)) a 8 h0 eo_M_8 fgX7_80 rfl (by decide +kernel) ?_
    obtain ⟨r7, e8, hm⟩ := bn_x hm
    refine aw_cv (rest := []) (st1 := [.int r7]) a 9 (kX1_isFull e8 (h0.sub su_M_9_D)) rfl rfl ckX1_isFull lkX7_182 h0 eo_M_9 ⟨_, _, rfl⟩ nkX1_isFull rfl rfl rfl (Nat.le_of_ble_eq_true rfl) (Nat.le_of_ble_eq_true rfl) (Nat.le_of_ble_eq_true rfl) (by decide +kernel) (fun H9 z10 => ?_)
    have h0 := h0.kept0 z10
    have hs := hs.step0 z10
    refine aw_if_eq (off := 7) 22 (by decide) (by decide +kernel) (fun hc => ?_) (fun hc => ?_)
    · have hm := (if_pos hc).symm.trans hm
      refine aw_b (pc' := 23) (lv' := [(0, .ref a), (1, .int i0)]) (st' := [.ref a]) [(22, .aload_n 0, 1, .null)] (by decide +kernel) rfl ?_
      refine aw_gl (v := .ref (a + 8)) a 0 h0 eo_M_0 fgX7_30 rfl (by decide +kernel) ?_
      refine aw_gl (v := .ref (a + 9)) a 8 h0 eo_M_8 fgX7_80 rfl (by decide +kernel) ?_
      refine aw_b (pc' := 30) (lv' := [(0, .ref a), (1, .int i0)]) (st' := [.ref a, .ref (a + 9)]) [(29, .aload_n 0, 1, .null)] (by decide +kernel) rfl ?_
      refine aw_gl (v := .ref (a + 8)) a 0 h0 eo_M_0 fgX7_30 rfl (by decide +kernel) ?_
      refine aw_gl (v := .ref (a + 9)) a 8 h0 eo_M_8 fgX7_80 rfl (by decide +kernel) ?_
      obtain ⟨r11, e12, hm⟩ := bn_x hm
      refine aw_cv (rest := [.ref (a + 9)]) (st1 := [.int r11, .ref (a + 9)]) a 9 (kX1_comingRule e12 (h0.sub su_M_9_D)) rfl rfl ckX1_comingRule lkX7_261 h0 eo_M_9 ⟨_, _, rfl⟩ nkX1_comingRule rfl rfl rfl (Nat.le_of_ble_eq_true rfl) (Nat.le_of_ble_eq_true rfl) (Nat.le_of_ble_eq_true rfl) (by decide +kernel) (fun H13 z14 => ?_)
      have h0 := h0.kept0 z14
      have hs := hs.step0 z14
      obtain ⟨r15, e16, hm⟩ := bn_x hm
      refine aw_cv (rest := []) (st1 := []) a 9 (kX1_foreseeHurts e16 (h0.sub su_M_9_D) (Nat.le_trans hf (Nat.le_add_right _ _))) rfl rfl ckX1_foreseeHurts lkX7_362 h0 eo_M_9 ⟨_, _, rfl⟩ nkX1_foreseeHurts rfl rfl rfl (Nat.le_of_ble_eq_true rfl) (Nat.le_of_ble_eq_true rfl) (Nat.le_of_ble_eq_true rfl) (by decide +kernel) (fun H17 z18 => ?_)
      obtain ⟨z18, hn⟩ := z18
      obtain ⟨s19, e20, hm⟩ := bd_x hm
      have h0 := h0.mg su_M_9_D hn z18 rfl e20
      have hs := hs.step z18 (by omega) (by omega)
      refine aw_b (pc' := 43) (lv' := [(0, .ref a), (1, .int i0)]) (st' := [.ref a]) [(42, .aload_n 0, 1, .null)] (by decide +kernel) rfl ?_
      refine aw_gl (v := .ref (a + 8)) a 0 h0 eo_M_0 fgX7_30 rfl (by decide +kernel) ?_
      refine aw_gl (v := .ref (a + 9)) a 8 h0 eo_M_8 fgX7_80 rfl (by decide +kernel) ?_
      refine aw_gl (v := .ref (a + 22)) a 9 h0 eo_M_9 fgX7_365 rfl (by decide +kernel) ?_
      refine aw_b (pc' := 53) (lv' := [(0, .ref a), (1, .int i0)]) (st' := [.int i0, .ref (a + 22)]) [(52, .iload_n 1, 1, .null)] (by decide +kernel) rfl ?_
      obtain ⟨g21, hm⟩ := gd_x hm
      refine aw_ial a 22 h0 rfl g21 (by decide +kernel) ?_
      obtain rfl := Option.some.inj hm
      subst hQ
      exact aw_iret rfl (Nat.le_of_ble_eq_true rfl) (Nat.le_of_ble_eq_true rfl) (by decide +kernel) ⟨rfl, hs, h0⟩
    · have hm := (if_neg hc).symm.trans hm
      refine aw_ldcw (v := (-2000000000 : Int32)) kwX7_302 (by decide +kernel) ?_
      obtain rfl := Option.some.inj hm
      subst hQ
      exact aw_iret rfl (Nat.le_of_ble_eq_true rfl) (Nat.le_of_ble_eq_true rfl) (by decide +kernel) ⟨rfl, hs, h0⟩
  · have hm := tb_e hv hm
    obtain rfl := Option.some.inj hm
    subst hQ
    exact ⟨rfl, hs.step0 z, h0.kept0 z⟩
def mX7_worst : mt_ := (yX7_worst, cX7_worst, 1, some .int, [], { frames := 4, locals := 104, cells := 0, slots := 0 })
theorem ckX7_worst : cokV_ mX7_worst := ⟨⟨(uw_mem 774 (by decide +kernel) (by decide +kernel)), (uw_mem 103 (by decide +kernel) (by decide +kernel)), by decide +kernel, by decide +kernel⟩, (uw_mem 772 (by decide +kernel) (by decide +kernel)), (uw_mem 773 (by decide +kernel) (by decide +kernel))⟩
theorem nkX7_worst : nok_ mX7_worst 0 := by decide +kernel
theorem lkX7_368 : Cond.methodLink RX7 368 yX1_mostHurtful ∈ uw_ := (uw_mem 809 (by decide +kernel) (by decide +kernel))
def fX7_worst (s : st_) : Option (st_ × Int32) :=
  bn_ (fX1_isFull (sb_ s 9)) fun r1 =>
  if r1 = (0 : Int32) then (bn_ (fX1_comingRule (sb_ s 9)) fun r5 =>
  bn_ (fX1_foreseeHurts (sb_ s 9) r5) fun r9 =>
  bd_ (mg_ s 9 33 r9) fun s13 =>
  bn_ (fX1_mostHurtful (sb_ s13 9)) fun r15 =>
  some (s13, r15))
  else (some (s, (-1 : Int32)))
theorem kX7_worst {E : ev_} {H : Heap} {a : Nat} {s : st_} {r : st_ × Int32} (hm : fX7_worst s = some r) (h0 : has_ E H a ly_M s) (hf : ev_fr E a) : sp_ E mX7_worst [.ref a] H (po1 (.inl (some (.int r.2))) (fun Hn => sm_ H Hn a 119 ∧ has_ E Hn a ly_M r.1)) := by
  refine sp_of (by decide +kernel) rfl rfl ?_
  generalize hQ : po1 _ _ = Q
  have hs : sm_ H H a 119 := sm_.rfl'
  unfold fX7_worst at hm
  refine aw_lv (lv' := [(0, .ref a)]) [0] rfl ?_
  refine aw_b (pc' := 1) (lv' := [(0, .ref a)]) (st' := [.ref a]) [(0, .aload_n 0, 1, .null)] (by decide +kernel) rfl ?_
  refine aw_gl (v := .ref (a + 8)) a 0 h0 eo_M_0 fgX7_30 rfl (by decide +kernel) ?_
  refine aw_gl (v := .ref (a + 9)) a 8 h0 eo_M_8 fgX7_80 rfl (by decide +kernel) ?_
  obtain ⟨r1, e2, hm⟩ := bn_x hm
  refine aw_cv (rest := []) (st1 := [.int r1]) a 9 (kX1_isFull e2 (h0.sub su_M_9_D)) rfl rfl ckX1_isFull lkX7_182 h0 eo_M_9 ⟨_, _, rfl⟩ nkX1_isFull rfl rfl rfl (Nat.le_of_ble_eq_true rfl) (Nat.zero_le _) (Nat.zero_le _) (by decide +kernel) (fun H3 z4 => ?_)
  have h0 := h0.kept0 z4
  have hs := hs.step0 z4
  refine aw_if_eq (off := 5) 15 (by decide) (by decide +kernel) (fun hc => ?_) (fun hc => ?_)
  · have hm := (if_pos hc).symm.trans hm
    refine aw_b (pc' := 16) (lv' := [(0, .ref a)]) (st' := [.ref a]) [(15, .aload_n 0, 1, .null)] (by decide +kernel) rfl ?_
    refine aw_gl (v := .ref (a + 8)) a 0 h0 eo_M_0 fgX7_30 rfl (by decide +kernel) ?_
    refine aw_gl (v := .ref (a + 9)) a 8 h0 eo_M_8 fgX7_80 rfl (by decide +kernel) ?_
    refine aw_b (pc' := 23) (lv' := [(0, .ref a)]) (st' := [.ref a, .ref (a + 9)]) [(22, .aload_n 0, 1, .null)] (by decide +kernel) rfl ?_
    refine aw_gl (v := .ref (a + 8)) a 0 h0 eo_M_0 fgX7_30 rfl (by decide +kernel) ?_
    refine aw_gl (v := .ref (a + 9)) a 8 h0 eo_M_8 fgX7_80 rfl (by decide +kernel) ?_
    obtain ⟨r5, e6, hm⟩ := bn_x hm
    refine aw_cv (rest := [.ref (a + 9)]) (st1 := [.int r5, .ref (a + 9)]) a 9 (kX1_comingRule e6 (h0.sub su_M_9_D)) rfl rfl ckX1_comingRule lkX7_261 h0 eo_M_9 ⟨_, _, rfl⟩ nkX1_comingRule rfl rfl rfl (Nat.le_of_ble_eq_true rfl) (Nat.zero_le _) (Nat.zero_le _) (by decide +kernel) (fun H7 z8 => ?_)
    have h0 := h0.kept0 z8
    have hs := hs.step0 z8
    obtain ⟨r9, e10, hm⟩ := bn_x hm
    refine aw_cv (rest := []) (st1 := []) a 9 (kX1_foreseeHurts e10 (h0.sub su_M_9_D) (Nat.le_trans hf (Nat.le_add_right _ _))) rfl rfl ckX1_foreseeHurts lkX7_362 h0 eo_M_9 ⟨_, _, rfl⟩ nkX1_foreseeHurts rfl rfl rfl (Nat.le_of_ble_eq_true rfl) (Nat.zero_le _) (Nat.zero_le _) (by decide +kernel) (fun H11 z12 => ?_)
    obtain ⟨z12, hn⟩ := z12
    obtain ⟨s13, e14, hm⟩ := bd_x hm
    have h0 := h0.mg su_M_9_D hn z12 rfl e14
    have hs := hs.step z12 (by omega) (by omega)
    refine aw_b (pc' := 36) (lv' := [(0, .ref a)]) (st' := [.ref a]) [(35, .aload_n 0, 1, .null)] (by decide +kernel) rfl ?_
    refine aw_gl (v := .ref (a + 8)) a 0 h0 eo_M_0 fgX7_30 rfl (by decide +kernel) ?_
    refine aw_gl (v := .ref (a + 9)) a 8 h0 eo_M_8 fgX7_80 rfl (by decide +kernel) ?_
    obtain ⟨r15, e16, hm⟩ := bn_x hm
    refine aw_cv (rest := []) (st1 := [.int r15]) a 9 (kX1_mostHurtful e16 (h0.sub su_M_9_D)) rfl rfl ckX1_mostHurtful lkX7_368 h0 eo_M_9 ⟨_, _, rfl⟩ nkX1_mostHurtful rfl rfl rfl (Nat.le_of_ble_eq_true rfl) (Nat.zero_le _) (Nat.zero_le _) (by decide +kernel) (fun H17 z18 => ?_)
    have h0 := h0.kept0 z18
    have hs := hs.step0 z18
    obtain rfl := Option.some.inj hm
    subst hQ
    exact aw_iret rfl (Nat.zero_le _) (Nat.zero_le _) (by decide +kernel) ⟨rfl, hs, h0⟩
  · have hm := (if_neg hc).symm.trans hm
    refine aw_b (pc' := 14) (lv' := [(0, .ref a)]) (st' := [.int (-1 : Int32)]) [(13, .iconst (-1), 1, .int (-1 : Int32))] (by decide +kernel) rfl ?_
    obtain rfl := Option.some.inj hm
    subst hQ
    exact aw_iret rfl (Nat.zero_le _) (Nat.zero_le _) (by decide +kernel) ⟨rfl, hs, h0⟩
def mX7_regretIn : mt_ := (yX7_regretIn, cX7_regretIn, 2, some .int, [], { frames := 7, locals := 147, cells := 1, slots := 6 })
theorem ckX7_regretIn : cokV_ mX7_regretIn := ⟨⟨(uw_mem 1369 (by decide +kernel) (by decide +kernel)), (uw_mem 103 (by decide +kernel) (by decide +kernel)), by decide +kernel, by decide +kernel⟩, (uw_mem 1367 (by decide +kernel) (by decide +kernel)), (uw_mem 1368 (by decide +kernel) (by decide +kernel))⟩
theorem nkX7_regretIn : nok_ mX7_regretIn 1 := by decide +kernel
theorem fgX7_37 : fok_ RX7 37 7 5 := ⟨_, _, _, rfl, by decide, (uw_mem 540 (by decide +kernel) (by decide +kernel)), wkX7⟩
theorem lkX7_371 : Cond.methodLink RX7 371 yX1_copyFrom ∈ uw_ := (uw_mem 817 (by decide +kernel) (by decide +kernel))
theorem su_M_83_D : sub_ ly_M 83 ly_D := sub_of rfl
theorem eo_M_83 : eo_ ly_M 83 1 fsX1 := rfl
theorem lkX7_375 : Cond.methodLink RX7 375 yX1_letPass ∈ uw_ := (uw_mem 827 (by decide +kernel) (by decide +kernel))
def fX7_regretIn (s : st_) (i0 : Int32) : Option (st_ × (Int32 ⊕ Nat)) :=
  bn_ (fX7_requireWithin i0 (1 : Int32) (200 : Int32)) fun r1 =>
  tb_ r1 (fun x5 =>
  bn_ (fX1_copyFrom (sb_ s 83) (sb_ s 9)) fun r7 =>
  bd_ (mg_ s 83 33 r7) fun s11 =>
  bn_ (fX1_letPass (sb_ s11 83) i0) fun r13 =>
  bd_ (mg_ s11 83 33 r13) fun s17 =>
  bn_ (fX1_regretNow (sb_ s17 83)) fun r19 =>
  some (s17, (.inl r19)))
  (fun c6 => some (s, (.inr c6)))
theorem kX7_regretIn {E : ev_} {H : Heap} {a : Nat} {s : st_} {i0 : Int32} {r : st_ × (Int32 ⊕ Nat)} (hm : fX7_regretIn s i0 = some r) (h0 : has_ E H a ly_M s) (hf : ev_fr E a) : sp_ E mX7_regretIn [.ref a, .int i0] H (po1 (thr_ (fun x => some (.int x)) r.2) (fun Hn => sm_ H Hn a 119 ∧ has_ E Hn a ly_M r.1)) := by
  refine sp_of (by decide +kernel) rfl rfl ?_
  generalize hQ : po1 _ _ = Q
  have hs : sm_ H H a 119 := sm_.rfl'
  unfold fX7_regretIn at hm
  refine aw_lv (lv' := [(0, .ref a), (1, .int i0)]) [0, 1] rfl ?_
  refine aw_b (pc' := 5) (lv' := [(0, .ref a), (1, .int i0)]) (st' := [.int (200 : Int32), .int (1 : Int32), .int i0]) [(0, .iload_n 1, 1, .null), (1, .iconst 1, 1, .int (1 : Int32)), (2, .sipush 200, 3, .int (200 : Int32))] (by decide +kernel) rfl ?_
  obtain ⟨r1, e2, hm⟩ := bn_x hm
  refine aw_cts (rest := []) (u := 1) (u6 := 6) (kX7_requireWithin e2) rfl ckX7_requireWithin lkX7_196 nkX7_requireWithin rfl rfl rfl rfl rfl (Nat.le_of_ble_eq_true rfl) (Nat.le_of_ble_eq_true rfl) (Nat.le_of_ble_eq_true rfl) (by decide +kernel) (fun x5 H3 hv z4 => ?_) (fun c6 H3 hv z => ?_)
  · have hm := tb_i hv hm
    have h0 := h0.kept0 z4
    have hs := hs.step0 z4
    show aw E _ Q 8 _ [] _ _ _
    refine aw_b (pc' := 9) (lv' := [(0, .ref a), (1, .int i0)]) (st' := [.ref a]) [(8, .aload_n 0, 1, .null)] (by decide +kernel) rfl ?_
    refine aw_gl (v := .ref (a + 83)) a 0 h0 eo_M_0 fgX7_37 rfl (by decide +kernel) ?_
    refine aw_b (pc' := 13) (lv' := [(0, .ref a), (1, .int i0)]) (st' := [.ref a, .ref (a + 83)]) [(12, .aload_n 0, 1, .null)] (by decide +kernel) rfl ?_
    refine aw_gl (v := .ref (a + 8)) a 0 h0 eo_M_0 fgX7_30 rfl (by decide +kernel) ?_
    refine aw_gl (v := .ref (a + 9)) a 8 h0 eo_M_8 fgX7_80 rfl (by decide +kernel) ?_
    obtain ⟨r7, e8, hm⟩ := bn_x hm
    refine aw_cv (rest := []) (st1 := []) a 83 (kX1_copyFrom e8 (h0.sub su_M_83_D) (h0.sub su_M_9_D) (Nat.le_trans hf (Nat.le_add_right _ _)) (by omega)) rfl rfl ckX1_copyFrom lkX7_371 h0 eo_M_83 ⟨_, _, rfl⟩ nkX1_copyFrom rfl rfl rfl (Nat.le_of_ble_eq_true rfl) (Nat.le_of_ble_eq_true rfl) (Nat.le_of_ble_eq_true rfl) (by decide +kernel) (fun H9 z10 => ?_)
    obtain ⟨z10, hn⟩ := z10
    obtain ⟨s11, e12, hm⟩ := bd_x hm
    have h0 := h0.mg su_M_83_D hn z10 rfl e12
    have hs := hs.step z10 (by omega) (by omega)
    refine aw_b (pc' := 23) (lv' := [(0, .ref a), (1, .int i0)]) (st' := [.ref a]) [(22, .aload_n 0, 1, .null)] (by decide +kernel) rfl ?_
    refine aw_gl (v := .ref (a + 83)) a 0 h0 eo_M_0 fgX7_37 rfl (by decide +kernel) ?_
    refine aw_b (pc' := 27) (lv' := [(0, .ref a), (1, .int i0)]) (st' := [.int i0, .ref (a + 83)]) [(26, .iload_n 1, 1, .null)] (by decide +kernel) rfl ?_
    obtain ⟨r13, e14, hm⟩ := bn_x hm
    refine aw_cv (rest := []) (st1 := []) a 83 (kX1_letPass e14 (h0.sub su_M_83_D) (Nat.le_trans hf (Nat.le_add_right _ _))) rfl rfl ckX1_letPass lkX7_375 h0 eo_M_83 ⟨_, _, rfl⟩ nkX1_letPass rfl rfl rfl (Nat.le_of_ble_eq_true rfl) (Nat.le_of_ble_eq_true rfl) (Nat.le_of_ble_eq_true rfl) (by decide +kernel) (fun H15 z16 => ?_)
    obtain ⟨z16, hn⟩ := z16
    obtain ⟨s17, e18, hm⟩ := bd_x hm
    have h0 := h0.mg su_M_83_D hn z16 rfl e18
    have hs := hs.step z16 (by omega) (by omega)
    refine aw_b (pc' := 31) (lv' := [(0, .ref a), (1, .int i0)]) (st' := [.ref a]) [(30, .aload_n 0, 1, .null)] (by decide +kernel) rfl ?_
    refine aw_gl (v := .ref (a + 83)) a 0 h0 eo_M_0 fgX7_37 rfl (by decide +kernel) ?_
    obtain ⟨r19, e20, hm⟩ := bn_x hm
    refine aw_cv (rest := []) (st1 := [.int r19]) a 83 (kX1_regretNow e20 (h0.sub su_M_83_D)) rfl rfl ckX1_regretNow lkX7_272 h0 eo_M_83 ⟨_, _, rfl⟩ nkX1_regretNow rfl rfl rfl (Nat.le_of_ble_eq_true rfl) (Nat.le_of_ble_eq_true rfl) (Nat.le_of_ble_eq_true rfl) (by decide +kernel) (fun H21 z22 => ?_)
    have h0 := h0.kept0 z22
    have hs := hs.step0 z22
    obtain rfl := Option.some.inj hm
    subst hQ
    exact aw_iret rfl (Nat.le_of_ble_eq_true rfl) (Nat.le_of_ble_eq_true rfl) (by decide +kernel) ⟨rfl, hs, h0⟩
  · have hm := tb_e hv hm
    obtain rfl := Option.some.inj hm
    subst hQ
    exact ⟨rfl, hs.step0 z, h0.kept0 z⟩
def mX7_costIn : mt_ := (yX7_costIn, cX7_costIn, 3, some .int, [], { frames := 7, locals := 147, cells := 2, slots := 12 })
theorem ckX7_costIn : cokV_ mX7_costIn := ⟨⟨(uw_mem 1376 (by decide +kernel) (by decide +kernel)), (uw_mem 103 (by decide +kernel) (by decide +kernel)), by decide +kernel, by decide +kernel⟩, (uw_mem 1374 (by decide +kernel) (by decide +kernel)), (uw_mem 1375 (by decide +kernel) (by decide +kernel))⟩
theorem nkX7_costIn : nok_ mX7_costIn 2 := by decide +kernel
theorem eoa_M_83 : ∀ r, aro_ r → eo_ ly_M (83 + r) 0 fsX0 := by
  intro r h
  rcases h with rfl | ⟨k, hk, rfl⟩
  · rfl
  · match k, hk with
    | 0, _ => rfl
    | 1, _ => rfl
    | 2, _ => rfl
    | 3, _ => rfl
    | 4, _ => rfl
    | 5, _ => rfl
theorem wta_M_83 : ∀ r, aro_ r → ly_M[(83 + r) + 1]? = some (ia_ 20) ∧ ly_M[(83 + r) + 2]? = some (ia_ 20) := by
  intro r h
  rcases h with rfl | ⟨k, hk, rfl⟩
  · exact ⟨rfl, rfl⟩
  · match k, hk with
    | 0, _ => exact ⟨rfl, rfl⟩
    | 1, _ => exact ⟨rfl, rfl⟩
    | 2, _ => exact ⟨rfl, rfl⟩
    | 3, _ => exact ⟨rfl, rfl⟩
    | 4, _ => exact ⟨rfl, rfl⟩
    | 5, _ => exact ⟨rfl, rfl⟩
theorem soa_M_83 : ∀ r, aro_ r → sub_ ly_M (83 + r) ly_A := by
  intro r h
  rcases h with rfl | ⟨k, hk, rfl⟩
  · exact sub_of rfl
  · match k, hk with
    | 0, _ => exact sub_of rfl
    | 1, _ => exact sub_of rfl
    | 2, _ => exact sub_of rfl
    | 3, _ => exact sub_of rfl
    | 4, _ => exact sub_of rfl
    | 5, _ => exact sub_of rfl
def fX7_costIn (s : st_) (i0 : Int32) (i1 : Int32) : Option (st_ × (Int32 ⊕ Nat)) :=
  bn_ (fX7_requireArm s i0) fun r1 =>
  tb_ r1 (fun x5 =>
  bn_ (fX7_requireWithin i1 (1 : Int32) (200 : Int32)) fun r7 =>
  tb_ r7 (fun x11 =>
  bn_ (fX1_copyFrom (sb_ s 83) (sb_ s 9)) fun r13 =>
  bd_ (mg_ s 83 33 r13) fun s17 =>
  bn_ (fX1_letPass (sb_ s17 83) i1) fun r19 =>
  bd_ (mg_ s17 83 33 r19) fun s23 =>
  bn_ (fX1_armOf (sb_ s23 83) i0) fun r25 =>
  bn_ (fX1_armOf (sb_ s23 9) i0) fun r29 =>
  some (s23, (.inl ((s23 (83 + r25) 5) - (s23 (9 + r29) 5)))))
  (fun c12 => some (s, (.inr c12))))
  (fun c6 => some (s, (.inr c6)))
theorem kX7_costIn {E : ev_} {H : Heap} {a : Nat} {s : st_} {i0 : Int32} {i1 : Int32} {r : st_ × (Int32 ⊕ Nat)} (hm : fX7_costIn s i0 i1 = some r) (h0 : has_ E H a ly_M s) (hf : ev_fr E a) : sp_ E mX7_costIn [.ref a, .int i0, .int i1] H (po1 (thr_ (fun x => some (.int x)) r.2) (fun Hn => sm_ H Hn a 119 ∧ has_ E Hn a ly_M r.1)) := by
  refine sp_of (by decide +kernel) rfl rfl ?_
  generalize hQ : po1 _ _ = Q
  have hs : sm_ H H a 119 := sm_.rfl'
  unfold fX7_costIn at hm
  refine aw_lv (lv' := [(0, .ref a), (1, .int i0), (2, .int i1)]) [0, 1, 2] rfl ?_
  refine aw_b (pc' := 2) (lv' := [(0, .ref a), (1, .int i0), (2, .int i1)]) (st' := [.int i0, .ref a]) [(0, .aload_n 0, 1, .null), (1, .iload_n 1, 1, .null)] (by decide +kernel) rfl ?_
  obtain ⟨r1, e2, hm⟩ := bn_x hm
  refine aw_ct (rest := []) (u := 1) (u6 := 6) a 0 (kX7_requireArm e2 h0) rfl ckX7_requireArm lkX7_214 h0 eo_M_0 ⟨_, _, rfl⟩ nkX7_requireArm rfl rfl rfl rfl rfl (Nat.le_of_ble_eq_true rfl) (Nat.le_of_ble_eq_true rfl) (Nat.le_of_ble_eq_true rfl) (by decide +kernel) (fun x5 H3 hv z4 => ?_) (fun c6 H3 hv z => ?_)
  · have hm := tb_i hv hm
    have h0 := h0.kept0 z4
    have hs := hs.step0 z4
    show aw E _ Q 5 _ [] _ _ _
    refine aw_b (pc' := 10) (lv' := [(0, .ref a), (1, .int i0), (2, .int i1)]) (st' := [.int (200 : Int32), .int (1 : Int32), .int i1]) [(5, .iload_n 2, 1, .null), (6, .iconst 1, 1, .int (1 : Int32)), (7, .sipush 200, 3, .int (200 : Int32))] (by decide +kernel) rfl ?_
    obtain ⟨r7, e8, hm⟩ := bn_x hm
    refine aw_cts (rest := []) (u := 1) (u6 := 6) (kX7_requireWithin e8) rfl ckX7_requireWithin lkX7_196 nkX7_requireWithin rfl rfl rfl rfl rfl (Nat.le_of_ble_eq_true rfl) (Nat.le_of_ble_eq_true rfl) (Nat.le_of_ble_eq_true rfl) (by decide +kernel) (fun x11 H9 hv z10 => ?_) (fun c12 H9 hv z => ?_)
    · have hm := tb_i hv hm
      have h0 := h0.kept0 z10
      have hs := hs.step0 z10
      show aw E _ Q 13 _ [] _ _ _
      refine aw_b (pc' := 14) (lv' := [(0, .ref a), (1, .int i0), (2, .int i1)]) (st' := [.ref a]) [(13, .aload_n 0, 1, .null)] (by decide +kernel) rfl ?_
      refine aw_gl (v := .ref (a + 83)) a 0 h0 eo_M_0 fgX7_37 rfl (by decide +kernel) ?_
      refine aw_b (pc' := 18) (lv' := [(0, .ref a), (1, .int i0), (2, .int i1)]) (st' := [.ref a, .ref (a + 83)]) [(17, .aload_n 0, 1, .null)] (by decide +kernel) rfl ?_
      refine aw_gl (v := .ref (a + 8)) a 0 h0 eo_M_0 fgX7_30 rfl (by decide +kernel) ?_
      refine aw_gl (v := .ref (a + 9)) a 8 h0 eo_M_8 fgX7_80 rfl (by decide +kernel) ?_
      obtain ⟨r13, e14, hm⟩ := bn_x hm
      refine aw_cv (rest := []) (st1 := []) a 83 (kX1_copyFrom e14 (h0.sub su_M_83_D) (h0.sub su_M_9_D) (Nat.le_trans hf (Nat.le_add_right _ _)) (by omega)) rfl rfl ckX1_copyFrom lkX7_371 h0 eo_M_83 ⟨_, _, rfl⟩ nkX1_copyFrom rfl rfl rfl (Nat.le_of_ble_eq_true rfl) (Nat.le_of_ble_eq_true rfl) (Nat.le_of_ble_eq_true rfl) (by decide +kernel) (fun H15 z16 => ?_)
      obtain ⟨z16, hn⟩ := z16
      obtain ⟨s17, e18, hm⟩ := bd_x hm
      have h0 := h0.mg su_M_83_D hn z16 rfl e18
      have hs := hs.step z16 (by omega) (by omega)
      refine aw_b (pc' := 28) (lv' := [(0, .ref a), (1, .int i0), (2, .int i1)]) (st' := [.ref a]) [(27, .aload_n 0, 1, .null)] (by decide +kernel) rfl ?_
      refine aw_gl (v := .ref (a + 83)) a 0 h0 eo_M_0 fgX7_37 rfl (by decide +kernel) ?_
      refine aw_b (pc' := 32) (lv' := [(0, .ref a), (1, .int i0), (2, .int i1)]) (st' := [.int i1, .ref (a + 83)]) [(31, .iload_n 2, 1, .null)] (by decide +kernel) rfl ?_
      obtain ⟨r19, e20, hm⟩ := bn_x hm
      refine aw_cv (rest := []) (st1 := []) a 83 (kX1_letPass e20 (h0.sub su_M_83_D) (Nat.le_trans hf (Nat.le_add_right _ _))) rfl rfl ckX1_letPass lkX7_375 h0 eo_M_83 ⟨_, _, rfl⟩ nkX1_letPass rfl rfl rfl (Nat.le_of_ble_eq_true rfl) (Nat.le_of_ble_eq_true rfl) (Nat.le_of_ble_eq_true rfl) (by decide +kernel) (fun H21 z22 => ?_)
      obtain ⟨z22, hn⟩ := z22
      obtain ⟨s23, e24, hm⟩ := bd_x hm
      have h0 := h0.mg su_M_83_D hn z22 rfl e24
      have hs := hs.step z22 (by omega) (by omega)
      refine aw_b (pc' := 36) (lv' := [(0, .ref a), (1, .int i0), (2, .int i1)]) (st' := [.ref a]) [(35, .aload_n 0, 1, .null)] (by decide +kernel) rfl ?_
      refine aw_gl (v := .ref (a + 83)) a 0 h0 eo_M_0 fgX7_37 rfl (by decide +kernel) ?_
      refine aw_b (pc' := 40) (lv' := [(0, .ref a), (1, .int i0), (2, .int i1)]) (st' := [.int i0, .ref (a + 83)]) [(39, .iload_n 1, 1, .null)] (by decide +kernel) rfl ?_
      obtain ⟨r25, e26, hm⟩ := bn_x hm
      refine aw_cv (rest := []) (st1 := [.ref (a + (83 + r25))]) a 83 (kX1_armOf e26 (h0.sub su_M_83_D)) rfl (by rw [Nat.add_assoc]; rfl) ckX1_armOf lkX7_217 h0 eo_M_83 ⟨_, _, rfl⟩ nkX1_armOf rfl rfl rfl (Nat.le_of_ble_eq_true rfl) (Nat.le_of_ble_eq_true rfl) (Nat.le_of_ble_eq_true rfl) (by decide +kernel) (fun H27 z28 => ?_)
      obtain ⟨z28, hor25⟩ := z28
      have h0 := h0.kept0 z28
      have hs := hs.step0 z28
      refine aw_gl (v := .int (s23 (83 + r25) 5)) a (83 + r25) h0 (eoa_M_83 _ hor25) fgX7_166 rfl (by decide +kernel) ?_
      refine aw_b (pc' := 47) (lv' := [(0, .ref a), (1, .int i0), (2, .int i1)]) (st' := [.ref a, .int (s23 (83 + r25) 5)]) [(46, .aload_n 0, 1, .null)] (by decide +kernel) rfl ?_
      refine aw_gl (v := .ref (a + 8)) a 0 h0 eo_M_0 fgX7_30 rfl (by decide +kernel) ?_
      refine aw_gl (v := .ref (a + 9)) a 8 h0 eo_M_8 fgX7_80 rfl (by decide +kernel) ?_
      refine aw_b (pc' := 54) (lv' := [(0, .ref a), (1, .int i0), (2, .int i1)]) (st' := [.int i0, .ref (a + 9), .int (s23 (83 + r25) 5)]) [(53, .iload_n 1, 1, .null)] (by decide +kernel) rfl ?_
      obtain ⟨r29, e30, hm⟩ := bn_x hm
      refine aw_cv (rest := [.int (s23 (83 + r25) 5)]) (st1 := [.ref (a + (9 + r29)), .int (s23 (83 + r25) 5)]) a 9 (kX1_armOf e30 (h0.sub su_M_9_D)) rfl (by rw [Nat.add_assoc]; rfl) ckX1_armOf lkX7_217 h0 eo_M_9 ⟨_, _, rfl⟩ nkX1_armOf rfl rfl rfl (Nat.le_of_ble_eq_true rfl) (Nat.le_of_ble_eq_true rfl) (Nat.le_of_ble_eq_true rfl) (by decide +kernel) (fun H31 z32 => ?_)
      obtain ⟨z32, hor29⟩ := z32
      have h0 := h0.kept0 z32
      have hs := hs.step0 z32
      refine aw_gl (v := .int (s23 (9 + r29) 5)) a (9 + r29) h0 (eoa_M_9 _ hor29) fgX7_166 rfl (by decide +kernel) ?_
      refine aw_b (pc' := 61) (lv' := [(0, .ref a), (1, .int i0), (2, .int i1)]) (st' := [.int ((s23 (83 + r25) 5) - (s23 (9 + r29) 5))]) [(60, .isub, 1, .null)] (by decide +kernel) rfl ?_
      obtain rfl := Option.some.inj hm
      subst hQ
      exact aw_iret rfl (Nat.le_of_ble_eq_true rfl) (Nat.le_of_ble_eq_true rfl) (by decide +kernel) ⟨rfl, hs, h0⟩
    · have hm := tb_e hv hm
      obtain rfl := Option.some.inj hm
      subst hQ
      exact ⟨rfl, hs.step0 z, h0.kept0 z⟩
  · have hm := tb_e hv hm
    obtain rfl := Option.some.inj hm
    subst hQ
    exact ⟨rfl, hs.step0 z, h0.kept0 z⟩
def mX7_breachIn : mt_ := (yX7_breachIn, cX7_breachIn, 2, some .int, [], { frames := 6, locals := 147, cells := 0, slots := 0 })
theorem ckX7_breachIn : cokV_ mX7_breachIn := ⟨⟨(uw_mem 816 (by decide +kernel) (by decide +kernel)), (uw_mem 103 (by decide +kernel) (by decide +kernel)), by decide +kernel, by decide +kernel⟩, (uw_mem 814 (by decide +kernel) (by decide +kernel)), (uw_mem 815 (by decide +kernel) (by decide +kernel))⟩
theorem nkX7_breachIn : nok_ mX7_breachIn 0 := by decide +kernel
def fX7_breachIn_x35_68 (s_x35_68 : st_) : Option (st_ × Int32) :=
  some (s_x35_68, (-1 : Int32))
def fX7_breachIn_x35_60 (v1_x35_60 : Int32) (s_x35_60 : st_) : Option (st_ × Int32) :=
  some (s_x35_60, v1_x35_60)
def fX7_breachIn_k35 (x : (Int32 × st_) ⊕ (st_)) : Option (st_ × Int32) :=
  Sum.elim (fun z => fX7_breachIn_x35_60 z.1 z.2) (fun z => fX7_breachIn_x35_68 z) x
def fX7_breachIn_b35 (v1_b35 : Int32) (s_b35 : st_) : Option ((Int32 × st_) ⊕ ((Int32 × st_) ⊕ (st_))) :=
  if (200 : Int32) < v1_b35 then (some (.inr (.inr s_b35)))
  else (bn_ (fX1_letPass (sb_ s_b35 83) (1 : Int32)) fun r7 =>
  bd_ (mg_ s_b35 83 33 r7) fun s11 =>
  bn_ (fX1_isBreach (sb_ s11 83)) fun r13 =>
  if r13 = (0 : Int32) then (some (.inl ((v1_b35 + (1 : Int32)), s11)))
  else (some (.inr (.inl (v1_b35, s11)))))
def fX7_breachIn_l35 : Nat → (Int32 × st_) → Option ((Int32 × st_) ⊕ (st_)) :=
  it_ (fun v => fX7_breachIn_b35 v.1 v.2)
def fX7_breachIn (s : st_) : Option (st_ × Int32) :=
  if (s 10 17) = (-1 : Int32) then (some (s, (-1 : Int32)))
  else (bn_ (fX1_copyFrom (sb_ s 83) (sb_ s 9)) fun r1 =>
  bd_ (mg_ s 83 33 r1) fun s5 =>
  bn_ (fX7_breachIn_l35 FU_ ((1 : Int32), s5)) (fX7_breachIn_k35))
theorem kX7_breachIn {E : ev_} {H : Heap} {a : Nat} {s : st_} {r : st_ × Int32} (hm : fX7_breachIn s = some r) (h0 : has_ E H a ly_M s) (hf : ev_fr E a) : sp_ E mX7_breachIn [.ref a] H (po1 (.inl (some (.int r.2))) (fun Hn => sm_ H Hn a 119 ∧ has_ E Hn a ly_M r.1)) := by
  refine sp_of (by decide +kernel) rfl rfl ?_
  generalize hQ : po1 _ _ = Q
  have hs : sm_ H H a 119 := sm_.rfl'
  unfold fX7_breachIn at hm
  refine aw_lv (lv' := [(0, .ref a)]) [0] rfl ?_
  refine aw_b (pc' := 1) (lv' := [(0, .ref a)]) (st' := [.ref a]) [(0, .aload_n 0, 1, .null)] (by decide +kernel) rfl ?_
  refine aw_gl (v := .ref (a + 8)) a 0 h0 eo_M_0 fgX7_30 rfl (by decide +kernel) ?_
  refine aw_gl (v := .ref (a + 9)) a 8 h0 eo_M_8 fgX7_80 rfl (by decide +kernel) ?_
  refine aw_gl (v := .ref (a + 10)) a 9 h0 eo_M_9 fgX7_83 rfl (by decide +kernel) ?_
  refine aw_gl (v := .int (s 10 17)) a 10 h0 eo_M_10 fgX7_119 rfl (by decide +kernel) ?_
  refine aw_b (pc' := 14) (lv' := [(0, .ref a)]) (st' := [.int (-1 : Int32), .int (s 10 17)]) [(13, .iconst (-1), 1, .int (-1 : Int32))] (by decide +kernel) rfl ?_
  refine aw_ic_ne (off := 5) 19 (by decide) (by decide +kernel) (fun hc => ?_) (fun hc => ?_)
  · have hm := (if_neg hc).symm.trans hm
    refine aw_b (pc' := 20) (lv' := [(0, .ref a)]) (st' := [.ref a]) [(19, .aload_n 0, 1, .null)] (by decide +kernel) rfl ?_
    refine aw_gl (v := .ref (a + 83)) a 0 h0 eo_M_0 fgX7_37 rfl (by decide +kernel) ?_
    refine aw_b (pc' := 24) (lv' := [(0, .ref a)]) (st' := [.ref a, .ref (a + 83)]) [(23, .aload_n 0, 1, .null)] (by decide +kernel) rfl ?_
    refine aw_gl (v := .ref (a + 8)) a 0 h0 eo_M_0 fgX7_30 rfl (by decide +kernel) ?_
    refine aw_gl (v := .ref (a + 9)) a 8 h0 eo_M_8 fgX7_80 rfl (by decide +kernel) ?_
    obtain ⟨r1, e2, hm⟩ := bn_x hm
    refine aw_cv (rest := []) (st1 := []) a 83 (kX1_copyFrom e2 (h0.sub su_M_83_D) (h0.sub su_M_9_D) (Nat.le_trans hf (Nat.le_add_right _ _)) (by omega)) rfl rfl ckX1_copyFrom lkX7_371 h0 eo_M_83 ⟨_, _, rfl⟩ nkX1_copyFrom rfl rfl rfl (Nat.le_of_ble_eq_true rfl) (Nat.zero_le _) (Nat.zero_le _) (by decide +kernel) (fun H3 z4 => ?_)
    obtain ⟨z4, hn⟩ := z4
    obtain ⟨s5, e6, hm⟩ := bd_x hm
    have h0 := h0.mg su_M_83_D hn z4 rfl e6
    have hs := hs.step z4 (by omega) (by omega)
    refine aw_b (pc' := 35) (lv' := [(1, .int (1 : Int32)), (0, .ref a)]) (st' := []) [(33, .iconst 1, 1, .int (1 : Int32)), (34, .istore_n 1, 1, .null)] (by decide +kernel) rfl ?_
    obtain ⟨x35, hx35, hr35⟩ := bn_x hm
    have X35_68 : ∀ (s_x35_68 : st_) (H_x35_68 : Heap), has_ E H_x35_68 a ly_M s_x35_68 → sm_ H H_x35_68 a 119 → fX7_breachIn_x35_68 s_x35_68 = some r → aw E mX7_breachIn Q 68 [] [] H_x35_68 0 0 := by
      intro s_x35_68 H_x35_68 h0 hs hm
      unfold fX7_breachIn_x35_68 at hm
      refine aw_b (pc' := 69) (lv' := []) (st' := [.int (-1 : Int32)]) [(68, .iconst (-1), 1, .int (-1 : Int32))] (by decide +kernel) rfl ?_
      obtain rfl := Option.some.inj hm
      subst hQ
      exact aw_iret rfl (Nat.zero_le _) (Nat.zero_le _) (by decide +kernel) ⟨rfl, hs, h0⟩
    have X35_60 : ∀ (v1_x35_60 : Int32) (s_x35_60 : st_) (H_x35_60 : Heap), has_ E H_x35_60 a ly_M s_x35_60 → sm_ H H_x35_60 a 119 → fX7_breachIn_x35_60 v1_x35_60 s_x35_60 = some r → aw E mX7_breachIn Q 60 [(1, .int v1_x35_60)] [] H_x35_60 0 0 := by
      intro v1_x35_60 s_x35_60 H_x35_60 h0 hs hm
      unfold fX7_breachIn_x35_60 at hm
      refine aw_b (pc' := 61) (lv' := [(1, .int v1_x35_60)]) (st' := [.int v1_x35_60]) [(60, .iload_n 1, 1, .null)] (by decide +kernel) rfl ?_
      obtain rfl := Option.some.inj hm
      subst hQ
      exact aw_iret rfl (Nat.zero_le _) (Nat.zero_le _) (by decide +kernel) ⟨rfl, hs, h0⟩
    have L35 : ∀ (fu : Nat) (v1_b35 : Int32) (s_b35 : st_) (H_b35 : Heap), has_ E H_b35 a ly_M s_b35 → sm_ H H_b35 a 119 → fX7_breachIn_l35 fu (v1_b35, s_b35) = some x35 → aw E mX7_breachIn Q 35 [(0, .ref a), (1, .int v1_b35)] [] H_b35 0 0 := by
      intro fu
      induction fu with
      | zero =>
        intro v1_b35 s_b35 H_b35 h0 hs hm
        exact (it_0 hm).elim
      | succ fu ih35 =>
        intro v1_b35 s_b35 H_b35 h0 hs hm
        obtain ⟨y35, hm, hk35⟩ := it_s hm
        have hm : fX7_breachIn_b35 v1_b35 s_b35 = some y35 := hm
        unfold fX7_breachIn_b35 at hm
        refine aw_b (pc' := 39) (lv' := [(0, .ref a), (1, .int v1_b35)]) (st' := [.int (200 : Int32), .int v1_b35]) [(35, .iload_n 1, 1, .null), (36, .sipush 200, 3, .int (200 : Int32))] (by decide +kernel) rfl ?_
        refine aw_ic_gt (off := 29) 68 (by decide) (by decide +kernel) (fun hc => ?_) (fun hc => ?_)
        · have hm := (if_pos hc).symm.trans hm
          cases hm
          refine aw_lv (lv' := []) [] rfl ?_
          exact X35_68 s_b35 H_b35 h0 hs ((congrArg fX7_breachIn_k35 (show (.inr s_b35) = x35 from hk35)).trans hr35)
        · have hm := (if_neg hc).symm.trans hm
          refine aw_b (pc' := 43) (lv' := [(0, .ref a), (1, .int v1_b35)]) (st' := [.ref a]) [(42, .aload_n 0, 1, .null)] (by decide +kernel) rfl ?_
          refine aw_gl (v := .ref (a + 83)) a 0 h0 eo_M_0 fgX7_37 rfl (by decide +kernel) ?_
          refine aw_b (pc' := 47) (lv' := [(0, .ref a), (1, .int v1_b35)]) (st' := [.int (1 : Int32), .ref (a + 83)]) [(46, .iconst 1, 1, .int (1 : Int32))] (by decide +kernel) rfl ?_
          obtain ⟨r7, e8, hm⟩ := bn_x hm
          refine aw_cv (rest := []) (st1 := []) a 83 (kX1_letPass e8 (h0.sub su_M_83_D) (Nat.le_trans hf (Nat.le_add_right _ _))) rfl rfl ckX1_letPass lkX7_375 h0 eo_M_83 ⟨_, _, rfl⟩ nkX1_letPass rfl rfl rfl (Nat.le_of_ble_eq_true rfl) (Nat.zero_le _) (Nat.zero_le _) (by decide +kernel) (fun H9 z10 => ?_)
          obtain ⟨z10, hn⟩ := z10
          obtain ⟨s11, e12, hm⟩ := bd_x hm
          have h0 := h0.mg su_M_83_D hn z10 rfl e12
          have hs := hs.step z10 (by omega) (by omega)
          refine aw_b (pc' := 51) (lv' := [(0, .ref a), (1, .int v1_b35)]) (st' := [.ref a]) [(50, .aload_n 0, 1, .null)] (by decide +kernel) rfl ?_
          refine aw_gl (v := .ref (a + 83)) a 0 h0 eo_M_0 fgX7_37 rfl (by decide +kernel) ?_
          obtain ⟨r13, e14, hm⟩ := bn_x hm
          refine aw_cv (rest := []) (st1 := [.int r13]) a 83 (kX1_isBreach e14 (h0.sub su_M_83_D)) rfl rfl ckX1_isBreach lkX7_359 h0 eo_M_83 ⟨_, _, rfl⟩ nkX1_isBreach rfl rfl rfl (Nat.le_of_ble_eq_true rfl) (Nat.zero_le _) (Nat.zero_le _) (by decide +kernel) (fun H15 z16 => ?_)
          have h0 := h0.kept0 z16
          have hs := hs.step0 z16
          refine aw_if_eq (off := 5) 62 (by decide) (by decide +kernel) (fun hc => ?_) (fun hc => ?_)
          · have hm := (if_pos hc).symm.trans hm
            refine aw_b (pc' := 35) (lv' := [(1, .int (v1_b35 + (1 : Int32))), (0, .ref a)]) (st' := []) [(62, .iinc 1 1, 3, .int (1 : Int32)), (65, .goto (-30), 3, .null)] (by decide +kernel) rfl ?_
            cases hm
            refine aw_lv (lv' := [(0, .ref a), (1, .int (v1_b35 + (1 : Int32)))]) [1, 0] rfl ?_
            exact ih35 (v1_b35 + (1 : Int32)) s11 H15 h0 hs hk35
          · have hm := (if_neg hc).symm.trans hm
            cases hm
            refine aw_lv (lv' := [(1, .int v1_b35)]) [1] rfl ?_
            exact X35_60 v1_b35 s11 H15 h0 hs ((congrArg fX7_breachIn_k35 (show (.inl (v1_b35, s11)) = x35 from hk35)).trans hr35)
    refine aw_lv (lv' := [(0, .ref a), (1, .int (1 : Int32))]) [1, 0] rfl ?_
    exact L35 FU_ (1 : Int32) s5 H3 h0 hs hx35
  · have hm := (if_pos hc).symm.trans hm
    refine aw_b (pc' := 18) (lv' := [(0, .ref a)]) (st' := [.int (-1 : Int32)]) [(17, .iconst (-1), 1, .int (-1 : Int32))] (by decide +kernel) rfl ?_
    obtain rfl := Option.some.inj hm
    subst hQ
    exact aw_iret rfl (Nat.zero_le _) (Nat.zero_le _) (by decide +kernel) ⟨rfl, hs, h0⟩
def mX7_regretKeeping : mt_ := (yX7_regretKeeping, cX7_regretKeeping, 3, some .int, [], { frames := 7, locals := 147, cells := 2, slots := 12 })
theorem ckX7_regretKeeping : cokV_ mX7_regretKeeping := ⟨⟨(uw_mem 1383 (by decide +kernel) (by decide +kernel)), (uw_mem 103 (by decide +kernel) (by decide +kernel)), by decide +kernel, by decide +kernel⟩, (uw_mem 1381 (by decide +kernel) (by decide +kernel)), (uw_mem 1382 (by decide +kernel) (by decide +kernel))⟩
theorem nkX7_regretKeeping : nok_ mX7_regretKeeping 2 := by decide +kernel
theorem su_M_84_S : sub_ ly_M 84 ly_S := sub_of rfl
theorem eo_M_84 : eo_ ly_M 84 5 fsX5 := rfl
def fX7_regretKeeping (s : st_) (i0 : Int32) (i1 : Int32) : Option (st_ × (Int32 ⊕ Nat)) :=
  bn_ (fX7_requireRule s i0) fun r1 =>
  tb_ r1 (fun x5 =>
  bn_ (fX7_requireWithin i1 (1 : Int32) (200 : Int32)) fun r7 =>
  tb_ r7 (fun x11 =>
  bn_ (fX1_copyFrom (sb_ s 83) (sb_ s 9)) fun r13 =>
  bd_ (mg_ s 83 33 r13) fun s17 =>
  bn_ (fX5_takeMaster (sb_ s17 84) (2 : Int32) i0) fun r19 =>
  bd_ (mg_ s17 84 4 r19) fun s23 =>
  bn_ (fX1_letPass (sb_ s23 83) i1) fun r25 =>
  bd_ (mg_ s23 83 33 r25) fun s29 =>
  bn_ (fX1_regretNow (sb_ s29 83)) fun r31 =>
  some (s29, (.inl r31)))
  (fun c12 => some (s, (.inr c12))))
  (fun c6 => some (s, (.inr c6)))
theorem kX7_regretKeeping {E : ev_} {H : Heap} {a : Nat} {s : st_} {i0 : Int32} {i1 : Int32} {r : st_ × (Int32 ⊕ Nat)} (hm : fX7_regretKeeping s i0 i1 = some r) (h0 : has_ E H a ly_M s) (hf : ev_fr E a) : sp_ E mX7_regretKeeping [.ref a, .int i0, .int i1] H (po1 (thr_ (fun x => some (.int x)) r.2) (fun Hn => sm_ H Hn a 119 ∧ has_ E Hn a ly_M r.1)) := by
  refine sp_of (by decide +kernel) rfl rfl ?_
  generalize hQ : po1 _ _ = Q
  have hs : sm_ H H a 119 := sm_.rfl'
  unfold fX7_regretKeeping at hm
  refine aw_lv (lv' := [(0, .ref a), (1, .int i0), (2, .int i1)]) [0, 1, 2] rfl ?_
  refine aw_b (pc' := 2) (lv' := [(0, .ref a), (1, .int i0), (2, .int i1)]) (st' := [.int i0, .ref a]) [(0, .aload_n 0, 1, .null), (1, .iload_n 1, 1, .null)] (by decide +kernel) rfl ?_
  obtain ⟨r1, e2, hm⟩ := bn_x hm
  refine aw_ct (rest := []) (u := 1) (u6 := 6) a 0 (kX7_requireRule e2 h0) rfl ckX7_requireRule lkX7_138 h0 eo_M_0 ⟨_, _, rfl⟩ nkX7_requireRule rfl rfl rfl rfl rfl (Nat.le_of_ble_eq_true rfl) (Nat.le_of_ble_eq_true rfl) (Nat.le_of_ble_eq_true rfl) (by decide +kernel) (fun x5 H3 hv z4 => ?_) (fun c6 H3 hv z => ?_)
  · have hm := tb_i hv hm
    have h0 := h0.kept0 z4
    have hs := hs.step0 z4
    show aw E _ Q 5 _ [] _ _ _
    refine aw_b (pc' := 10) (lv' := [(0, .ref a), (1, .int i0), (2, .int i1)]) (st' := [.int (200 : Int32), .int (1 : Int32), .int i1]) [(5, .iload_n 2, 1, .null), (6, .iconst 1, 1, .int (1 : Int32)), (7, .sipush 200, 3, .int (200 : Int32))] (by decide +kernel) rfl ?_
    obtain ⟨r7, e8, hm⟩ := bn_x hm
    refine aw_cts (rest := []) (u := 1) (u6 := 6) (kX7_requireWithin e8) rfl ckX7_requireWithin lkX7_196 nkX7_requireWithin rfl rfl rfl rfl rfl (Nat.le_of_ble_eq_true rfl) (Nat.le_of_ble_eq_true rfl) (Nat.le_of_ble_eq_true rfl) (by decide +kernel) (fun x11 H9 hv z10 => ?_) (fun c12 H9 hv z => ?_)
    · have hm := tb_i hv hm
      have h0 := h0.kept0 z10
      have hs := hs.step0 z10
      show aw E _ Q 13 _ [] _ _ _
      refine aw_b (pc' := 14) (lv' := [(0, .ref a), (1, .int i0), (2, .int i1)]) (st' := [.ref a]) [(13, .aload_n 0, 1, .null)] (by decide +kernel) rfl ?_
      refine aw_gl (v := .ref (a + 83)) a 0 h0 eo_M_0 fgX7_37 rfl (by decide +kernel) ?_
      refine aw_b (pc' := 18) (lv' := [(0, .ref a), (1, .int i0), (2, .int i1)]) (st' := [.ref a, .ref (a + 83)]) [(17, .aload_n 0, 1, .null)] (by decide +kernel) rfl ?_
      refine aw_gl (v := .ref (a + 8)) a 0 h0 eo_M_0 fgX7_30 rfl (by decide +kernel) ?_
      refine aw_gl (v := .ref (a + 9)) a 8 h0 eo_M_8 fgX7_80 rfl (by decide +kernel) ?_
      obtain ⟨r13, e14, hm⟩ := bn_x hm
      refine aw_cv (rest := []) (st1 := []) a 83 (kX1_copyFrom e14 (h0.sub su_M_83_D) (h0.sub su_M_9_D) (Nat.le_trans hf (Nat.le_add_right _ _)) (by omega)) rfl rfl ckX1_copyFrom lkX7_371 h0 eo_M_83 ⟨_, _, rfl⟩ nkX1_copyFrom rfl rfl rfl (Nat.le_of_ble_eq_true rfl) (Nat.le_of_ble_eq_true rfl) (Nat.le_of_ble_eq_true rfl) (by decide +kernel) (fun H15 z16 => ?_)
      obtain ⟨z16, hn⟩ := z16
      obtain ⟨s17, e18, hm⟩ := bd_x hm
      have h0 := h0.mg su_M_83_D hn z16 rfl e18
      have hs := hs.step z16 (by omega) (by omega)
      refine aw_b (pc' := 28) (lv' := [(0, .ref a), (1, .int i0), (2, .int i1)]) (st' := [.ref a]) [(27, .aload_n 0, 1, .null)] (by decide +kernel) rfl ?_
      refine aw_gl (v := .ref (a + 83)) a 0 h0 eo_M_0 fgX7_37 rfl (by decide +kernel) ?_
      refine aw_gl (v := .ref (a + 84)) a 83 h0 eo_M_83 fgX7_83 rfl (by decide +kernel) ?_
      refine aw_b (pc' := 36) (lv' := [(0, .ref a), (1, .int i0), (2, .int i1)]) (st' := [.int i0, .int (2 : Int32), .ref (a + 84)]) [(34, .iconst 2, 1, .int (2 : Int32)), (35, .iload_n 1, 1, .null)] (by decide +kernel) rfl ?_
      obtain ⟨r19, e20, hm⟩ := bn_x hm
      refine aw_cv (rest := []) (st1 := []) a 84 (kX5_takeMaster e20 (h0.sub su_M_84_S) (Nat.le_trans hf (Nat.le_add_right _ _))) rfl rfl ckX5_takeMaster lkX7_200 h0 eo_M_84 ⟨_, _, rfl⟩ nkX5_takeMaster rfl rfl rfl (Nat.le_of_ble_eq_true rfl) (Nat.le_of_ble_eq_true rfl) (Nat.le_of_ble_eq_true rfl) (by decide +kernel) (fun H21 z22 => ?_)
      obtain ⟨z22, hn⟩ := z22
      obtain ⟨s23, e24, hm⟩ := bd_x hm
      have h0 := h0.mg su_M_84_S hn z22 rfl e24
      have hs := hs.step z22 (by omega) (by omega)
      refine aw_b (pc' := 40) (lv' := [(0, .ref a), (1, .int i0), (2, .int i1)]) (st' := [.ref a]) [(39, .aload_n 0, 1, .null)] (by decide +kernel) rfl ?_
      refine aw_gl (v := .ref (a + 83)) a 0 h0 eo_M_0 fgX7_37 rfl (by decide +kernel) ?_
      refine aw_b (pc' := 44) (lv' := [(0, .ref a), (1, .int i0), (2, .int i1)]) (st' := [.int i1, .ref (a + 83)]) [(43, .iload_n 2, 1, .null)] (by decide +kernel) rfl ?_
      obtain ⟨r25, e26, hm⟩ := bn_x hm
      refine aw_cv (rest := []) (st1 := []) a 83 (kX1_letPass e26 (h0.sub su_M_83_D) (Nat.le_trans hf (Nat.le_add_right _ _))) rfl rfl ckX1_letPass lkX7_375 h0 eo_M_83 ⟨_, _, rfl⟩ nkX1_letPass rfl rfl rfl (Nat.le_of_ble_eq_true rfl) (Nat.le_of_ble_eq_true rfl) (Nat.le_of_ble_eq_true rfl) (by decide +kernel) (fun H27 z28 => ?_)
      obtain ⟨z28, hn⟩ := z28
      obtain ⟨s29, e30, hm⟩ := bd_x hm
      have h0 := h0.mg su_M_83_D hn z28 rfl e30
      have hs := hs.step z28 (by omega) (by omega)
      refine aw_b (pc' := 48) (lv' := [(0, .ref a), (1, .int i0), (2, .int i1)]) (st' := [.ref a]) [(47, .aload_n 0, 1, .null)] (by decide +kernel) rfl ?_
      refine aw_gl (v := .ref (a + 83)) a 0 h0 eo_M_0 fgX7_37 rfl (by decide +kernel) ?_
      obtain ⟨r31, e32, hm⟩ := bn_x hm
      refine aw_cv (rest := []) (st1 := [.int r31]) a 83 (kX1_regretNow e32 (h0.sub su_M_83_D)) rfl rfl ckX1_regretNow lkX7_272 h0 eo_M_83 ⟨_, _, rfl⟩ nkX1_regretNow rfl rfl rfl (Nat.le_of_ble_eq_true rfl) (Nat.le_of_ble_eq_true rfl) (Nat.le_of_ble_eq_true rfl) (by decide +kernel) (fun H33 z34 => ?_)
      have h0 := h0.kept0 z34
      have hs := hs.step0 z34
      obtain rfl := Option.some.inj hm
      subst hQ
      exact aw_iret rfl (Nat.le_of_ble_eq_true rfl) (Nat.le_of_ble_eq_true rfl) (by decide +kernel) ⟨rfl, hs, h0⟩
    · have hm := tb_e hv hm
      obtain rfl := Option.some.inj hm
      subst hQ
      exact ⟨rfl, hs.step0 z, h0.kept0 z⟩
  · have hm := tb_e hv hm
    obtain rfl := Option.some.inj hm
    subst hQ
    exact ⟨rfl, hs.step0 z, h0.kept0 z⟩
def mX7_regretAgainst : mt_ := (yX7_regretAgainst, cX7_regretAgainst, 3, some .int, [], { frames := 7, locals := 147, cells := 2, slots := 12 })
theorem ckX7_regretAgainst : cokV_ mX7_regretAgainst := ⟨⟨(uw_mem 1390 (by decide +kernel) (by decide +kernel)), (uw_mem 103 (by decide +kernel) (by decide +kernel)), by decide +kernel, by decide +kernel⟩, (uw_mem 1388 (by decide +kernel) (by decide +kernel)), (uw_mem 1389 (by decide +kernel) (by decide +kernel))⟩
theorem nkX7_regretAgainst : nok_ mX7_regretAgainst 2 := by decide +kernel
def fX7_regretAgainst (s : st_) (i0 : Int32) (i1 : Int32) : Option (st_ × (Int32 ⊕ Nat)) :=
  bn_ (fX7_requireWithin i0 (0 : Int32) (5 : Int32)) fun r1 =>
  tb_ r1 (fun x5 =>
  bn_ (fX7_requireWithin i1 (1 : Int32) (200 : Int32)) fun r7 =>
  tb_ r7 (fun x11 =>
  bn_ (fX1_copyFrom (sb_ s 83) (sb_ s 9)) fun r13 =>
  bd_ (mg_ s 83 33 r13) fun s17 =>
  bd_ (pt_ s17 84 11 i0) fun s19 =>
  bn_ (fX1_letPass (sb_ s19 83) i1) fun r23 =>
  bd_ (mg_ s19 83 33 r23) fun s27 =>
  bn_ (fX1_regretNow (sb_ s27 83)) fun r29 =>
  some (s27, (.inl r29)))
  (fun c12 => some (s, (.inr c12))))
  (fun c6 => some (s, (.inr c6)))
theorem kX7_regretAgainst {E : ev_} {H : Heap} {a : Nat} {s : st_} {i0 : Int32} {i1 : Int32} {r : st_ × (Int32 ⊕ Nat)} (hm : fX7_regretAgainst s i0 i1 = some r) (h0 : has_ E H a ly_M s) (hf : ev_fr E a) : sp_ E mX7_regretAgainst [.ref a, .int i0, .int i1] H (po1 (thr_ (fun x => some (.int x)) r.2) (fun Hn => sm_ H Hn a 119 ∧ has_ E Hn a ly_M r.1)) := by
  refine sp_of (by decide +kernel) rfl rfl ?_
  generalize hQ : po1 _ _ = Q
  have hs : sm_ H H a 119 := sm_.rfl'
  unfold fX7_regretAgainst at hm
  refine aw_lv (lv' := [(0, .ref a), (1, .int i0), (2, .int i1)]) [0, 1, 2] rfl ?_
  refine aw_b (pc' := 3) (lv' := [(0, .ref a), (1, .int i0), (2, .int i1)]) (st' := [.int (5 : Int32), .int (0 : Int32), .int i0]) [(0, .iload_n 1, 1, .null), (1, .iconst 0, 1, .int (0 : Int32)), (2, .iconst 5, 1, .int (5 : Int32))] (by decide +kernel) rfl ?_
  obtain ⟨r1, e2, hm⟩ := bn_x hm
  refine aw_cts (rest := []) (u := 1) (u6 := 6) (kX7_requireWithin e2) rfl ckX7_requireWithin lkX7_196 nkX7_requireWithin rfl rfl rfl rfl rfl (Nat.le_of_ble_eq_true rfl) (Nat.le_of_ble_eq_true rfl) (Nat.le_of_ble_eq_true rfl) (by decide +kernel) (fun x5 H3 hv z4 => ?_) (fun c6 H3 hv z => ?_)
  · have hm := tb_i hv hm
    have h0 := h0.kept0 z4
    have hs := hs.step0 z4
    show aw E _ Q 6 _ [] _ _ _
    refine aw_b (pc' := 11) (lv' := [(0, .ref a), (1, .int i0), (2, .int i1)]) (st' := [.int (200 : Int32), .int (1 : Int32), .int i1]) [(6, .iload_n 2, 1, .null), (7, .iconst 1, 1, .int (1 : Int32)), (8, .sipush 200, 3, .int (200 : Int32))] (by decide +kernel) rfl ?_
    obtain ⟨r7, e8, hm⟩ := bn_x hm
    refine aw_cts (rest := []) (u := 1) (u6 := 6) (kX7_requireWithin e8) rfl ckX7_requireWithin lkX7_196 nkX7_requireWithin rfl rfl rfl rfl rfl (Nat.le_of_ble_eq_true rfl) (Nat.le_of_ble_eq_true rfl) (Nat.le_of_ble_eq_true rfl) (by decide +kernel) (fun x11 H9 hv z10 => ?_) (fun c12 H9 hv z => ?_)
    · have hm := tb_i hv hm
      have h0 := h0.kept0 z10
      have hs := hs.step0 z10
      show aw E _ Q 14 _ [] _ _ _
      refine aw_b (pc' := 15) (lv' := [(0, .ref a), (1, .int i0), (2, .int i1)]) (st' := [.ref a]) [(14, .aload_n 0, 1, .null)] (by decide +kernel) rfl ?_
      refine aw_gl (v := .ref (a + 83)) a 0 h0 eo_M_0 fgX7_37 rfl (by decide +kernel) ?_
      refine aw_b (pc' := 19) (lv' := [(0, .ref a), (1, .int i0), (2, .int i1)]) (st' := [.ref a, .ref (a + 83)]) [(18, .aload_n 0, 1, .null)] (by decide +kernel) rfl ?_
      refine aw_gl (v := .ref (a + 8)) a 0 h0 eo_M_0 fgX7_30 rfl (by decide +kernel) ?_
      refine aw_gl (v := .ref (a + 9)) a 8 h0 eo_M_8 fgX7_80 rfl (by decide +kernel) ?_
      obtain ⟨r13, e14, hm⟩ := bn_x hm
      refine aw_cv (rest := []) (st1 := []) a 83 (kX1_copyFrom e14 (h0.sub su_M_83_D) (h0.sub su_M_9_D) (Nat.le_trans hf (Nat.le_add_right _ _)) (by omega)) rfl rfl ckX1_copyFrom lkX7_371 h0 eo_M_83 ⟨_, _, rfl⟩ nkX1_copyFrom rfl rfl rfl (Nat.le_of_ble_eq_true rfl) (Nat.le_of_ble_eq_true rfl) (Nat.le_of_ble_eq_true rfl) (by decide +kernel) (fun H15 z16 => ?_)
      obtain ⟨z16, hn⟩ := z16
      obtain ⟨s17, e18, hm⟩ := bd_x hm
      have h0 := h0.mg su_M_83_D hn z16 rfl e18
      have hs := hs.step z16 (by omega) (by omega)
      refine aw_b (pc' := 29) (lv' := [(0, .ref a), (1, .int i0), (2, .int i1)]) (st' := [.ref a]) [(28, .aload_n 0, 1, .null)] (by decide +kernel) rfl ?_
      refine aw_gl (v := .ref (a + 83)) a 0 h0 eo_M_0 fgX7_37 rfl (by decide +kernel) ?_
      refine aw_gl (v := .ref (a + 84)) a 83 h0 eo_M_83 fgX7_83 rfl (by decide +kernel) ?_
      refine aw_b (pc' := 36) (lv' := [(0, .ref a), (1, .int i0), (2, .int i1)]) (st' := [.int i0, .ref (a + 84)]) [(35, .iload_n 1, 1, .null)] (by decide +kernel) rfl ?_
      obtain ⟨s19, e20, hm⟩ := bd_x hm
      refine aw_pl a 84 h0 eo_M_84 fsq_5_11 fpX7_113 hf rfl rfl e20 (by decide +kernel) (fun H21 h0 z22 => ?_)
      have hs := hs.step z22 (by omega) (by omega)
      refine aw_b (pc' := 40) (lv' := [(0, .ref a), (1, .int i0), (2, .int i1)]) (st' := [.ref a]) [(39, .aload_n 0, 1, .null)] (by decide +kernel) rfl ?_
      refine aw_gl (v := .ref (a + 83)) a 0 h0 eo_M_0 fgX7_37 rfl (by decide +kernel) ?_
      refine aw_b (pc' := 44) (lv' := [(0, .ref a), (1, .int i0), (2, .int i1)]) (st' := [.int i1, .ref (a + 83)]) [(43, .iload_n 2, 1, .null)] (by decide +kernel) rfl ?_
      obtain ⟨r23, e24, hm⟩ := bn_x hm
      refine aw_cv (rest := []) (st1 := []) a 83 (kX1_letPass e24 (h0.sub su_M_83_D) (Nat.le_trans hf (Nat.le_add_right _ _))) rfl rfl ckX1_letPass lkX7_375 h0 eo_M_83 ⟨_, _, rfl⟩ nkX1_letPass rfl rfl rfl (Nat.le_of_ble_eq_true rfl) (Nat.le_of_ble_eq_true rfl) (Nat.le_of_ble_eq_true rfl) (by decide +kernel) (fun H25 z26 => ?_)
      obtain ⟨z26, hn⟩ := z26
      obtain ⟨s27, e28, hm⟩ := bd_x hm
      have h0 := h0.mg su_M_83_D hn z26 rfl e28
      have hs := hs.step z26 (by omega) (by omega)
      refine aw_b (pc' := 48) (lv' := [(0, .ref a), (1, .int i0), (2, .int i1)]) (st' := [.ref a]) [(47, .aload_n 0, 1, .null)] (by decide +kernel) rfl ?_
      refine aw_gl (v := .ref (a + 83)) a 0 h0 eo_M_0 fgX7_37 rfl (by decide +kernel) ?_
      obtain ⟨r29, e30, hm⟩ := bn_x hm
      refine aw_cv (rest := []) (st1 := [.int r29]) a 83 (kX1_regretNow e30 (h0.sub su_M_83_D)) rfl rfl ckX1_regretNow lkX7_272 h0 eo_M_83 ⟨_, _, rfl⟩ nkX1_regretNow rfl rfl rfl (Nat.le_of_ble_eq_true rfl) (Nat.le_of_ble_eq_true rfl) (Nat.le_of_ble_eq_true rfl) (by decide +kernel) (fun H31 z32 => ?_)
      have h0 := h0.kept0 z32
      have hs := hs.step0 z32
      obtain rfl := Option.some.inj hm
      subst hQ
      exact aw_iret rfl (Nat.le_of_ble_eq_true rfl) (Nat.le_of_ble_eq_true rfl) (by decide +kernel) ⟨rfl, hs, h0⟩
    · have hm := tb_e hv hm
      obtain rfl := Option.some.inj hm
      subst hQ
      exact ⟨rfl, hs.step0 z, h0.kept0 z⟩
  · have hm := tb_e hv hm
    obtain rfl := Option.some.inj hm
    subst hQ
    exact ⟨rfl, hs.step0 z, h0.kept0 z⟩
def mX7_rivalIn : mt_ := (yX7_rivalIn, cX7_rivalIn, 2, some .int, [], { frames := 7, locals := 147, cells := 1, slots := 6 })
theorem ckX7_rivalIn : cokV_ mX7_rivalIn := ⟨⟨(uw_mem 1397 (by decide +kernel) (by decide +kernel)), (uw_mem 103 (by decide +kernel) (by decide +kernel)), by decide +kernel, by decide +kernel⟩, (uw_mem 1395 (by decide +kernel) (by decide +kernel)), (uw_mem 1396 (by decide +kernel) (by decide +kernel))⟩
theorem nkX7_rivalIn : nok_ mX7_rivalIn 1 := by decide +kernel
theorem eo_M_88 : eo_ ly_M 88 0 fsX0 := rfl
theorem eo_M_91 : eo_ ly_M 91 0 fsX0 := rfl
def fX7_rivalIn (s : st_) (i0 : Int32) : Option (st_ × (Int32 ⊕ Nat)) :=
  bn_ (fX7_requireWithin i0 (1 : Int32) (200 : Int32)) fun r1 =>
  tb_ r1 (fun x5 =>
  bn_ (fX5_hasRival (sb_ s 10)) fun r7 =>
  if r7 = (0 : Int32) then (some (s, (.inl (-2000000000 : Int32))))
  else (bn_ (fX1_copyFrom (sb_ s 83) (sb_ s 9)) fun r11 =>
  bd_ (mg_ s 83 33 r11) fun s15 =>
  bn_ (fX1_letPass (sb_ s15 83) i0) fun r17 =>
  bd_ (mg_ s15 83 33 r17) fun s21 =>
  some (s21, (.inl ((s21 88 5) - (s21 91 5))))))
  (fun c6 => some (s, (.inr c6)))
theorem kX7_rivalIn {E : ev_} {H : Heap} {a : Nat} {s : st_} {i0 : Int32} {r : st_ × (Int32 ⊕ Nat)} (hm : fX7_rivalIn s i0 = some r) (h0 : has_ E H a ly_M s) (hf : ev_fr E a) : sp_ E mX7_rivalIn [.ref a, .int i0] H (po1 (thr_ (fun x => some (.int x)) r.2) (fun Hn => sm_ H Hn a 119 ∧ has_ E Hn a ly_M r.1)) := by
  refine sp_of (by decide +kernel) rfl rfl ?_
  generalize hQ : po1 _ _ = Q
  have hs : sm_ H H a 119 := sm_.rfl'
  unfold fX7_rivalIn at hm
  refine aw_lv (lv' := [(0, .ref a), (1, .int i0)]) [0, 1] rfl ?_
  refine aw_b (pc' := 5) (lv' := [(0, .ref a), (1, .int i0)]) (st' := [.int (200 : Int32), .int (1 : Int32), .int i0]) [(0, .iload_n 1, 1, .null), (1, .iconst 1, 1, .int (1 : Int32)), (2, .sipush 200, 3, .int (200 : Int32))] (by decide +kernel) rfl ?_
  obtain ⟨r1, e2, hm⟩ := bn_x hm
  refine aw_cts (rest := []) (u := 1) (u6 := 6) (kX7_requireWithin e2) rfl ckX7_requireWithin lkX7_196 nkX7_requireWithin rfl rfl rfl rfl rfl (Nat.le_of_ble_eq_true rfl) (Nat.le_of_ble_eq_true rfl) (Nat.le_of_ble_eq_true rfl) (by decide +kernel) (fun x5 H3 hv z4 => ?_) (fun c6 H3 hv z => ?_)
  · have hm := tb_i hv hm
    have h0 := h0.kept0 z4
    have hs := hs.step0 z4
    show aw E _ Q 8 _ [] _ _ _
    refine aw_b (pc' := 9) (lv' := [(0, .ref a), (1, .int i0)]) (st' := [.ref a]) [(8, .aload_n 0, 1, .null)] (by decide +kernel) rfl ?_
    refine aw_gl (v := .ref (a + 8)) a 0 h0 eo_M_0 fgX7_30 rfl (by decide +kernel) ?_
    refine aw_gl (v := .ref (a + 9)) a 8 h0 eo_M_8 fgX7_80 rfl (by decide +kernel) ?_
    refine aw_gl (v := .ref (a + 10)) a 9 h0 eo_M_9 fgX7_83 rfl (by decide +kernel) ?_
    obtain ⟨r7, e8, hm⟩ := bn_x hm
    refine aw_cv (rest := []) (st1 := [.int r7]) a 10 (kX5_hasRival e8 (h0.sub su_M_10_S)) rfl rfl ckX5_hasRival lkX7_299 h0 eo_M_10 ⟨_, _, rfl⟩ nkX5_hasRival rfl rfl rfl (Nat.le_of_ble_eq_true rfl) (Nat.le_of_ble_eq_true rfl) (Nat.le_of_ble_eq_true rfl) (by decide +kernel) (fun H9 z10 => ?_)
    have h0 := h0.kept0 z10
    have hs := hs.step0 z10
    refine aw_if_ne (off := 7) 28 (by decide) (by decide +kernel) (fun hc => ?_) (fun hc => ?_)
    · have hm := (if_neg hc).symm.trans hm
      refine aw_b (pc' := 29) (lv' := [(0, .ref a), (1, .int i0)]) (st' := [.ref a]) [(28, .aload_n 0, 1, .null)] (by decide +kernel) rfl ?_
      refine aw_gl (v := .ref (a + 83)) a 0 h0 eo_M_0 fgX7_37 rfl (by decide +kernel) ?_
      refine aw_b (pc' := 33) (lv' := [(0, .ref a), (1, .int i0)]) (st' := [.ref a, .ref (a + 83)]) [(32, .aload_n 0, 1, .null)] (by decide +kernel) rfl ?_
      refine aw_gl (v := .ref (a + 8)) a 0 h0 eo_M_0 fgX7_30 rfl (by decide +kernel) ?_
      refine aw_gl (v := .ref (a + 9)) a 8 h0 eo_M_8 fgX7_80 rfl (by decide +kernel) ?_
      obtain ⟨r11, e12, hm⟩ := bn_x hm
      refine aw_cv (rest := []) (st1 := []) a 83 (kX1_copyFrom e12 (h0.sub su_M_83_D) (h0.sub su_M_9_D) (Nat.le_trans hf (Nat.le_add_right _ _)) (by omega)) rfl rfl ckX1_copyFrom lkX7_371 h0 eo_M_83 ⟨_, _, rfl⟩ nkX1_copyFrom rfl rfl rfl (Nat.le_of_ble_eq_true rfl) (Nat.le_of_ble_eq_true rfl) (Nat.le_of_ble_eq_true rfl) (by decide +kernel) (fun H13 z14 => ?_)
      obtain ⟨z14, hn⟩ := z14
      obtain ⟨s15, e16, hm⟩ := bd_x hm
      have h0 := h0.mg su_M_83_D hn z14 rfl e16
      have hs := hs.step z14 (by omega) (by omega)
      refine aw_b (pc' := 43) (lv' := [(0, .ref a), (1, .int i0)]) (st' := [.ref a]) [(42, .aload_n 0, 1, .null)] (by decide +kernel) rfl ?_
      refine aw_gl (v := .ref (a + 83)) a 0 h0 eo_M_0 fgX7_37 rfl (by decide +kernel) ?_
      refine aw_b (pc' := 47) (lv' := [(0, .ref a), (1, .int i0)]) (st' := [.int i0, .ref (a + 83)]) [(46, .iload_n 1, 1, .null)] (by decide +kernel) rfl ?_
      obtain ⟨r17, e18, hm⟩ := bn_x hm
      refine aw_cv (rest := []) (st1 := []) a 83 (kX1_letPass e18 (h0.sub su_M_83_D) (Nat.le_trans hf (Nat.le_add_right _ _))) rfl rfl ckX1_letPass lkX7_375 h0 eo_M_83 ⟨_, _, rfl⟩ nkX1_letPass rfl rfl rfl (Nat.le_of_ble_eq_true rfl) (Nat.le_of_ble_eq_true rfl) (Nat.le_of_ble_eq_true rfl) (by decide +kernel) (fun H19 z20 => ?_)
      obtain ⟨z20, hn⟩ := z20
      obtain ⟨s21, e22, hm⟩ := bd_x hm
      have h0 := h0.mg su_M_83_D hn z20 rfl e22
      have hs := hs.step z20 (by omega) (by omega)
      refine aw_b (pc' := 51) (lv' := [(0, .ref a), (1, .int i0)]) (st' := [.ref a]) [(50, .aload_n 0, 1, .null)] (by decide +kernel) rfl ?_
      refine aw_gl (v := .ref (a + 83)) a 0 h0 eo_M_0 fgX7_37 rfl (by decide +kernel) ?_
      refine aw_gl (v := .ref (a + 88)) a 83 h0 eo_M_83 fgX7_189 rfl (by decide +kernel) ?_
      refine aw_gl (v := .int (s21 88 5)) a 88 h0 eo_M_88 fgX7_166 rfl (by decide +kernel) ?_
      refine aw_b (pc' := 61) (lv' := [(0, .ref a), (1, .int i0)]) (st' := [.ref a, .int (s21 88 5)]) [(60, .aload_n 0, 1, .null)] (by decide +kernel) rfl ?_
      refine aw_gl (v := .ref (a + 83)) a 0 h0 eo_M_0 fgX7_37 rfl (by decide +kernel) ?_
      refine aw_gl (v := .ref (a + 91)) a 83 h0 eo_M_83 fgX7_306 rfl (by decide +kernel) ?_
      refine aw_gl (v := .int (s21 91 5)) a 91 h0 eo_M_91 fgX7_166 rfl (by decide +kernel) ?_
      refine aw_b (pc' := 71) (lv' := [(0, .ref a), (1, .int i0)]) (st' := [.int ((s21 88 5) - (s21 91 5))]) [(70, .isub, 1, .null)] (by decide +kernel) rfl ?_
      obtain rfl := Option.some.inj hm
      subst hQ
      exact aw_iret rfl (Nat.le_of_ble_eq_true rfl) (Nat.le_of_ble_eq_true rfl) (by decide +kernel) ⟨rfl, hs, h0⟩
    · have hm := (if_pos hc).symm.trans hm
      refine aw_ldcw (v := (-2000000000 : Int32)) kwX7_302 (by decide +kernel) ?_
      obtain rfl := Option.some.inj hm
      subst hQ
      exact aw_iret rfl (Nat.le_of_ble_eq_true rfl) (Nat.le_of_ble_eq_true rfl) (by decide +kernel) ⟨rfl, hs, h0⟩
  · have hm := tb_e hv hm
    obtain rfl := Option.some.inj hm
    subst hQ
    exact ⟨rfl, hs.step0 z, h0.kept0 z⟩
def mX7_budgetFor : mt_ := (yX7_budgetFor, cX7_budgetFor, 3, some .int, [], { frames := 6, locals := 147, cells := 0, slots := 0 })
theorem ckX7_budgetFor : cokV_ mX7_budgetFor := ⟨⟨(uw_mem 908 (by decide +kernel) (by decide +kernel)), (uw_mem 103 (by decide +kernel) (by decide +kernel)), by decide +kernel, by decide +kernel⟩, (uw_mem 906 (by decide +kernel) (by decide +kernel)), (uw_mem 907 (by decide +kernel) (by decide +kernel))⟩
theorem nkX7_budgetFor : nok_ mX7_budgetFor 1 := by decide +kernel
def fX7_budgetFor_x2_69 (s_x2_69 : st_) : Option (st_ × Int32) :=
  some (s_x2_69, (-1 : Int32))
def fX7_budgetFor_x2_61 (v2_x2_61 : Int32) (s_x2_61 : st_) : Option (st_ × Int32) :=
  some (s_x2_61, v2_x2_61)
def fX7_budgetFor_k2 (x : (Int32 × st_) ⊕ (st_)) : Option (st_ × Int32) :=
  Sum.elim (fun z => fX7_budgetFor_x2_61 z.1 z.2) (fun z => fX7_budgetFor_x2_69 z) x
def fX7_budgetFor_b2 (i0 : Int32) (v2_b2 : Int32) (s_b2 : st_) : Option ((Int32 × st_) ⊕ ((Int32 × st_) ⊕ (st_))) :=
  if (20 : Int32) < v2_b2 then (some (.inr (.inr s_b2)))
  else (bn_ (fX1_copyFrom (sb_ s_b2 83) (sb_ s_b2 9)) fun r1 =>
  bd_ (mg_ s_b2 83 33 r1) fun s5 =>
  bd_ (pt_ s5 84 11 (5 : Int32)) fun s7 =>
  bn_ (fX1_takeBudget (sb_ s7 83) v2_b2) fun r11 =>
  bd_ (mg_ s7 83 33 r11) fun s15 =>
  bn_ (fX1_letPass (sb_ s15 83) (20 : Int32)) fun r17 =>
  bd_ (mg_ s15 83 33 r17) fun s21 =>
  bn_ (fX1_regretNow (sb_ s21 83)) fun r23 =>
  if r23 < i0 then (some (.inl ((v2_b2 + (1 : Int32)), s21)))
  else (some (.inr (.inl (v2_b2, s21)))))
def fX7_budgetFor_l2 (i0 : Int32) : Nat → (Int32 × st_) → Option ((Int32 × st_) ⊕ (st_)) :=
  it_ (fun v => fX7_budgetFor_b2 i0 v.1 v.2)
def fX7_budgetFor (s : st_) (i0 : Int32) : Option (st_ × Int32) :=
  bn_ (fX7_budgetFor_l2 i0 FU_ ((0 : Int32), s)) (fX7_budgetFor_k2)
theorem kX7_budgetFor {E : ev_} {H : Heap} {a : Nat} {s : st_} {i0 : Int32} {r : st_ × Int32} (hm : fX7_budgetFor s i0 = some r) (h0 : has_ E H a ly_M s) (hf : ev_fr E a) : sp_ E mX7_budgetFor [.ref a, .int i0] H (po1 (.inl (some (.int r.2))) (fun Hn => sm_ H Hn a 119 ∧ has_ E Hn a ly_M r.1)) := by
  refine sp_of (by decide +kernel) rfl rfl ?_
  generalize hQ : po1 _ _ = Q
  have hs : sm_ H H a 119 := sm_.rfl'
  unfold fX7_budgetFor at hm
  refine aw_lv (lv' := [(0, .ref a), (1, .int i0)]) [0, 1] rfl ?_
  refine aw_b (pc' := 2) (lv' := [(2, .int (0 : Int32)), (0, .ref a), (1, .int i0)]) (st' := []) [(0, .iconst 0, 1, .int (0 : Int32)), (1, .istore_n 2, 1, .null)] (by decide +kernel) rfl ?_
  obtain ⟨x2, hx2, hr2⟩ := bn_x hm
  have X2_69 : ∀ (s_x2_69 : st_) (H_x2_69 : Heap), has_ E H_x2_69 a ly_M s_x2_69 → sm_ H H_x2_69 a 119 → fX7_budgetFor_x2_69 s_x2_69 = some r → aw E mX7_budgetFor Q 69 [] [] H_x2_69 0 0 := by
    intro s_x2_69 H_x2_69 h0 hs hm
    unfold fX7_budgetFor_x2_69 at hm
    refine aw_b (pc' := 70) (lv' := []) (st' := [.int (-1 : Int32)]) [(69, .iconst (-1), 1, .int (-1 : Int32))] (by decide +kernel) rfl ?_
    obtain rfl := Option.some.inj hm
    subst hQ
    exact aw_iret rfl (Nat.zero_le _) (Nat.zero_le _) (by decide +kernel) ⟨rfl, hs, h0⟩
  have X2_61 : ∀ (v2_x2_61 : Int32) (s_x2_61 : st_) (H_x2_61 : Heap), has_ E H_x2_61 a ly_M s_x2_61 → sm_ H H_x2_61 a 119 → fX7_budgetFor_x2_61 v2_x2_61 s_x2_61 = some r → aw E mX7_budgetFor Q 61 [(2, .int v2_x2_61)] [] H_x2_61 0 0 := by
    intro v2_x2_61 s_x2_61 H_x2_61 h0 hs hm
    unfold fX7_budgetFor_x2_61 at hm
    refine aw_b (pc' := 62) (lv' := [(2, .int v2_x2_61)]) (st' := [.int v2_x2_61]) [(61, .iload_n 2, 1, .null)] (by decide +kernel) rfl ?_
    obtain rfl := Option.some.inj hm
    subst hQ
    exact aw_iret rfl (Nat.zero_le _) (Nat.zero_le _) (by decide +kernel) ⟨rfl, hs, h0⟩
  have L2 : ∀ (fu : Nat) (v2_b2 : Int32) (s_b2 : st_) (H_b2 : Heap), has_ E H_b2 a ly_M s_b2 → sm_ H H_b2 a 119 → fX7_budgetFor_l2 i0 fu (v2_b2, s_b2) = some x2 → aw E mX7_budgetFor Q 2 [(0, .ref a), (1, .int i0), (2, .int v2_b2)] [] H_b2 0 0 := by
    intro fu
    induction fu with
    | zero =>
      intro v2_b2 s_b2 H_b2 h0 hs hm
      exact (it_0 hm).elim
    | succ fu ih2 =>
      intro v2_b2 s_b2 H_b2 h0 hs hm
      obtain ⟨y2, hm, hk2⟩ := it_s hm
      have hm : fX7_budgetFor_b2 i0 v2_b2 s_b2 = some y2 := hm
      unfold fX7_budgetFor_b2 at hm
      refine aw_b (pc' := 5) (lv' := [(0, .ref a), (1, .int i0), (2, .int v2_b2)]) (st' := [.int (20 : Int32), .int v2_b2]) [(2, .iload_n 2, 1, .null), (3, .bipush 20, 2, .int (20 : Int32))] (by decide +kernel) rfl ?_
      refine aw_ic_gt (off := 64) 69 (by decide) (by decide +kernel) (fun hc => ?_) (fun hc => ?_)
      · have hm := (if_pos hc).symm.trans hm
        cases hm
        refine aw_lv (lv' := []) [] rfl ?_
        exact X2_69 s_b2 H_b2 h0 hs ((congrArg fX7_budgetFor_k2 (show (.inr s_b2) = x2 from hk2)).trans hr2)
      · have hm := (if_neg hc).symm.trans hm
        refine aw_b (pc' := 9) (lv' := [(0, .ref a), (1, .int i0), (2, .int v2_b2)]) (st' := [.ref a]) [(8, .aload_n 0, 1, .null)] (by decide +kernel) rfl ?_
        refine aw_gl (v := .ref (a + 83)) a 0 h0 eo_M_0 fgX7_37 rfl (by decide +kernel) ?_
        refine aw_b (pc' := 13) (lv' := [(0, .ref a), (1, .int i0), (2, .int v2_b2)]) (st' := [.ref a, .ref (a + 83)]) [(12, .aload_n 0, 1, .null)] (by decide +kernel) rfl ?_
        refine aw_gl (v := .ref (a + 8)) a 0 h0 eo_M_0 fgX7_30 rfl (by decide +kernel) ?_
        refine aw_gl (v := .ref (a + 9)) a 8 h0 eo_M_8 fgX7_80 rfl (by decide +kernel) ?_
        obtain ⟨r1, e2, hm⟩ := bn_x hm
        refine aw_cv (rest := []) (st1 := []) a 83 (kX1_copyFrom e2 (h0.sub su_M_83_D) (h0.sub su_M_9_D) (Nat.le_trans hf (Nat.le_add_right _ _)) (by omega)) rfl rfl ckX1_copyFrom lkX7_371 h0 eo_M_83 ⟨_, _, rfl⟩ nkX1_copyFrom rfl rfl rfl (Nat.le_of_ble_eq_true rfl) (Nat.zero_le _) (Nat.zero_le _) (by decide +kernel) (fun H3 z4 => ?_)
        obtain ⟨z4, hn⟩ := z4
        obtain ⟨s5, e6, hm⟩ := bd_x hm
        have h0 := h0.mg su_M_83_D hn z4 rfl e6
        have hs := hs.step z4 (by omega) (by omega)
        refine aw_b (pc' := 23) (lv' := [(0, .ref a), (1, .int i0), (2, .int v2_b2)]) (st' := [.ref a]) [(22, .aload_n 0, 1, .null)] (by decide +kernel) rfl ?_
        refine aw_gl (v := .ref (a + 83)) a 0 h0 eo_M_0 fgX7_37 rfl (by decide +kernel) ?_
        refine aw_gl (v := .ref (a + 84)) a 83 h0 eo_M_83 fgX7_83 rfl (by decide +kernel) ?_
        refine aw_b (pc' := 30) (lv' := [(0, .ref a), (1, .int i0), (2, .int v2_b2)]) (st' := [.int (5 : Int32), .ref (a + 84)]) [(29, .iconst 5, 1, .int (5 : Int32))] (by decide +kernel) rfl ?_
        obtain ⟨s7, e8, hm⟩ := bd_x hm
        refine aw_pl a 84 h0 eo_M_84 fsq_5_11 fpX7_113 hf rfl rfl e8 (by decide +kernel) (fun H9 h0 z10 => ?_)
        have hs := hs.step z10 (by omega) (by omega)
        refine aw_b (pc' := 34) (lv' := [(0, .ref a), (1, .int i0), (2, .int v2_b2)]) (st' := [.ref a]) [(33, .aload_n 0, 1, .null)] (by decide +kernel) rfl ?_
        refine aw_gl (v := .ref (a + 83)) a 0 h0 eo_M_0 fgX7_37 rfl (by decide +kernel) ?_
        refine aw_b (pc' := 38) (lv' := [(0, .ref a), (1, .int i0), (2, .int v2_b2)]) (st' := [.int v2_b2, .ref (a + 83)]) [(37, .iload_n 2, 1, .null)] (by decide +kernel) rfl ?_
        obtain ⟨r11, e12, hm⟩ := bn_x hm
        refine aw_cv (rest := []) (st1 := []) a 83 (kX1_takeBudget e12 (h0.sub su_M_83_D) (Nat.le_trans hf (Nat.le_add_right _ _))) rfl rfl ckX1_takeBudget lkX7_204 h0 eo_M_83 ⟨_, _, rfl⟩ nkX1_takeBudget rfl rfl rfl (Nat.le_of_ble_eq_true rfl) (Nat.zero_le _) (Nat.zero_le _) (by decide +kernel) (fun H13 z14 => ?_)
        obtain ⟨z14, hn⟩ := z14
        obtain ⟨s15, e16, hm⟩ := bd_x hm
        have h0 := h0.mg su_M_83_D hn z14 rfl e16
        have hs := hs.step z14 (by omega) (by omega)
        refine aw_b (pc' := 42) (lv' := [(0, .ref a), (1, .int i0), (2, .int v2_b2)]) (st' := [.ref a]) [(41, .aload_n 0, 1, .null)] (by decide +kernel) rfl ?_
        refine aw_gl (v := .ref (a + 83)) a 0 h0 eo_M_0 fgX7_37 rfl (by decide +kernel) ?_
        refine aw_b (pc' := 47) (lv' := [(0, .ref a), (1, .int i0), (2, .int v2_b2)]) (st' := [.int (20 : Int32), .ref (a + 83)]) [(45, .bipush 20, 2, .int (20 : Int32))] (by decide +kernel) rfl ?_
        obtain ⟨r17, e18, hm⟩ := bn_x hm
        refine aw_cv (rest := []) (st1 := []) a 83 (kX1_letPass e18 (h0.sub su_M_83_D) (Nat.le_trans hf (Nat.le_add_right _ _))) rfl rfl ckX1_letPass lkX7_375 h0 eo_M_83 ⟨_, _, rfl⟩ nkX1_letPass rfl rfl rfl (Nat.le_of_ble_eq_true rfl) (Nat.zero_le _) (Nat.zero_le _) (by decide +kernel) (fun H19 z20 => ?_)
        obtain ⟨z20, hn⟩ := z20
        obtain ⟨s21, e22, hm⟩ := bd_x hm
        have h0 := h0.mg su_M_83_D hn z20 rfl e22
        have hs := hs.step z20 (by omega) (by omega)
        refine aw_b (pc' := 51) (lv' := [(0, .ref a), (1, .int i0), (2, .int v2_b2)]) (st' := [.ref a]) [(50, .aload_n 0, 1, .null)] (by decide +kernel) rfl ?_
        refine aw_gl (v := .ref (a + 83)) a 0 h0 eo_M_0 fgX7_37 rfl (by decide +kernel) ?_
        obtain ⟨r23, e24, hm⟩ := bn_x hm
        refine aw_cv (rest := []) (st1 := [.int r23]) a 83 (kX1_regretNow e24 (h0.sub su_M_83_D)) rfl rfl ckX1_regretNow lkX7_272 h0 eo_M_83 ⟨_, _, rfl⟩ nkX1_regretNow rfl rfl rfl (Nat.le_of_ble_eq_true rfl) (Nat.zero_le _) (Nat.zero_le _) (by decide +kernel) (fun H25 z26 => ?_)
        have h0 := h0.kept0 z26
        have hs := hs.step0 z26
        refine aw_b (pc' := 58) (lv' := [(0, .ref a), (1, .int i0), (2, .int v2_b2)]) (st' := [.int i0, .int r23]) [(57, .iload_n 1, 1, .null)] (by decide +kernel) rfl ?_
        refine aw_ic_lt (off := 5) 63 (by decide) (by decide +kernel) (fun hc => ?_) (fun hc => ?_)
        · have hm := (if_pos hc).symm.trans hm
          refine aw_b (pc' := 2) (lv' := [(2, .int (v2_b2 + (1 : Int32))), (0, .ref a), (1, .int i0)]) (st' := []) [(63, .iinc 2 1, 3, .int (1 : Int32)), (66, .goto (-64), 3, .null)] (by decide +kernel) rfl ?_
          cases hm
          refine aw_lv (lv' := [(0, .ref a), (1, .int i0), (2, .int (v2_b2 + (1 : Int32)))]) [1, 2, 0] rfl ?_
          exact ih2 (v2_b2 + (1 : Int32)) s21 H25 h0 hs hk2
        · have hm := (if_neg hc).symm.trans hm
          cases hm
          refine aw_lv (lv' := [(2, .int v2_b2)]) [2] rfl ?_
          exact X2_61 v2_b2 s21 H25 h0 hs ((congrArg fX7_budgetFor_k2 (show (.inl (v2_b2, s21)) = x2 from hk2)).trans hr2)
  refine aw_lv (lv' := [(0, .ref a), (1, .int i0), (2, .int (0 : Int32))]) [1, 2, 0] rfl ?_
  exact L2 FU_ (0 : Int32) s H h0 hs hx2
def mX7_saveSnapshot : mt_ := (yX7_saveSnapshot, cX7_saveSnapshot, 2, some .int, [], { frames := 7, locals := 122, cells := 1, slots := 6 })
theorem ckX7_saveSnapshot : cokV_ mX7_saveSnapshot := ⟨⟨(uw_mem 1404 (by decide +kernel) (by decide +kernel)), (uw_mem 103 (by decide +kernel) (by decide +kernel)), by decide +kernel, by decide +kernel⟩, (uw_mem 1402 (by decide +kernel) (by decide +kernel)), (uw_mem 1403 (by decide +kernel) (by decide +kernel))⟩
theorem nkX7_saveSnapshot : nok_ mX7_saveSnapshot 1 := by decide +kernel
theorem fgX7_48 : fok_ RX7 48 7 7 := ⟨_, _, _, rfl, by decide, (uw_mem 542 (by decide +kernel) (by decide +kernel)), wkX7⟩
def mX7_restoreSnapshot : mt_ := (yX7_restoreSnapshot, cX7_restoreSnapshot, 2, some .int, [], { frames := 7, locals := 122, cells := 1, slots := 6 })
theorem ckX7_restoreSnapshot : cokV_ mX7_restoreSnapshot := ⟨⟨(uw_mem 1421 (by decide +kernel) (by decide +kernel)), (uw_mem 103 (by decide +kernel) (by decide +kernel)), by decide +kernel, by decide +kernel⟩, (uw_mem 1419 (by decide +kernel) (by decide +kernel)), (uw_mem 1420 (by decide +kernel) (by decide +kernel))⟩
theorem nkX7_restoreSnapshot : nok_ mX7_restoreSnapshot 1 := by decide +kernel
