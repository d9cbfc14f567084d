/-! mirrors of methods, and that the methods do as they say: printed by wip/whole/gen_parts.py out of the listing -/
def mX8_round : mt_ := (yX8_round, cX8_round, 6, none, [], { frames := 11, locals := 251, cells := 0, slots := 0 })
theorem ckX8_round : cokV_ mX8_round := ⟨⟨(uw_mem 1985 (by decide +kernel) (by decide +kernel)), (uw_mem 112 (by decide +kernel) (by decide +kernel)), by decide +kernel, by decide +kernel⟩, (uw_mem 1984 (by decide +kernel) (by decide +kernel)), (uw_mem 86 (by decide +kernel) (by decide +kernel))⟩
theorem nkX8_round : nok_ mX8_round 0 := by decide +kernel
theorem lkX8_365 : Cond.methodLink RX8 365 yX8_rivalTakes ∈ uw_ := (uw_mem 2010 (by decide +kernel) (by decide +kernel))
theorem lkX8_371 : Cond.methodLink RX8 371 yX8_adds ∈ uw_ := (uw_mem 2014 (by decide +kernel) (by decide +kernel))
theorem lkX8_375 : Cond.methodLink RX8 375 yX8_serves ∈ uw_ := (uw_mem 2018 (by decide +kernel) (by decide +kernel))
theorem lkX8_378 : Cond.methodLink RX8 378 yX8_weighs ∈ uw_ := (uw_mem 2030 (by decide +kernel) (by decide +kernel))
theorem lkX8_381 : Cond.methodLink RX8 381 yX8_judges ∈ uw_ := (uw_mem 2035 (by decide +kernel) (by decide +kernel))
theorem lkX8_368 : Cond.methodLink RX8 368 yX8_swapAt ∈ uw_ := (uw_mem 1946 (by decide +kernel) (by decide +kernel))
theorem lkX8_363 : Cond.methodLink RX8 363 yX8_foe ∈ uw_ := (uw_mem 1986 (by decide +kernel) (by decide +kernel))
def fX8_round_x200_242 (r13 : st_ × Int32) (s_x200_242 : st_) : Option (st_) :=
  bn_ (fX8_weighs s_x200_242) fun r40 =>
  bn_ (fX8_bestRule r40) fun r44 =>
  gd_ (ib_ ((1748 : Int32) + (r13.1 1 (ix_ (16 : Int32)))) 12584) <|
  bd_ (pt_ r40 1 (ix_ ((1748 : Int32) + (r13.1 1 (ix_ (16 : Int32))))) r44) fun s49 =>
  gd_ (ib_ (16 : Int32) 12584) <|
  gd_ (ib_ (16 : Int32) 12584) <|
  bd_ (pt_ s49 1 (ix_ (16 : Int32)) ((s49 1 (ix_ (16 : Int32))) + (1 : Int32))) fun s55 =>
  bn_ (fX8_judges s55) fun r59 =>
  some r59
def fX8_round_k200 (r13 : st_ × Int32) (x : st_) : Option (st_) :=
  fX8_round_x200_242 r13 x
def fX8_round_b200 (r13 : st_ × Int32) (v5_b200 : Int32) (s_b200 : st_) : Option ((Int32 × st_) ⊕ (st_)) :=
  gd_ (ib_ (4 : Int32) 12584) <|
  if (s_b200 1 (ix_ (4 : Int32))) ≤ v5_b200 then (some (.inr s_b200))
  else (bn_ (fX8_serves s_b200 v5_b200 v5_b200) fun r64 =>
  gd_ (ib_ (((2948 : Int32) + ((1200 : Int32) * v5_b200)) + (r13.1 1 (ix_ (16 : Int32)))) 12584) <|
  bd_ (pt_ r64.1 1 (ix_ (((2948 : Int32) + ((1200 : Int32) * v5_b200)) + (r13.1 1 (ix_ (16 : Int32))))) r64.2) fun s69 =>
  some (.inl ((v5_b200 + (1 : Int32)), s69)))
def fX8_round_l200 (r13 : st_ × Int32) : Nat → (Int32 × st_) → Option (st_) :=
  it_ (fun v => fX8_round_b200 r13 v.1 v.2)
def fX8_round_j197 (r13 : st_ × Int32) (s_j197 : st_) : Option (st_) :=
  bn_ (fX8_round_l200 r13 FU_ ((0 : Int32), s_j197)) (fX8_round_k200 r13)
def fX8_round_j195 (r13 : st_ × Int32) (s36 : st_) (r74 : st_ × Int32) (z3_j195 : Int32) : Option (st_) :=
  gd_ (ib_ (24 : Int32) 12584) <|
  bd_ (pt_ r74.1 1 (ix_ (24 : Int32)) ((s36 1 (ix_ (24 : Int32))) + z3_j195)) fun s79 =>
  fX8_round_j197 r13 s79
def fX8_round_x79_118 (r9 : Int32) (r13 : st_ × Int32) (s_x79_118 : st_) : Option (st_) :=
  gd_ (ib_ ((548 : Int32) + (r13.1 1 (ix_ (16 : Int32)))) 12584) <|
  bd_ (pt_ s_x79_118 1 (ix_ ((548 : Int32) + (r13.1 1 (ix_ (16 : Int32))))) r9) fun s19 =>
  bn_ (fX8_adds s19 r9 (3 : Int32) (1 : Int32)) fun r23 =>
  bn_ (fX8_serves r23 (6 : Int32) r9) fun r27 =>
  bn_ (fX8_adds r27.1 r9 (4 : Int32) r27.2) fun r31 =>
  gd_ (ib_ ((10148 : Int32) + (r13.1 1 (ix_ (16 : Int32)))) 12584) <|
  bd_ (pt_ r31 1 (ix_ ((10148 : Int32) + (r13.1 1 (ix_ (16 : Int32))))) r27.2) fun s36 =>
  if r13.2 = (-1 : Int32) then (fX8_round_j197 r13 s36)
  else (gd_ (ib_ (24 : Int32) 12584) <|
  bn_ (fX8_serves s36 (7 : Int32) r13.2) fun r74 =>
  if r27.2 ≤ r74.2 then (fX8_round_j195 r13 s36 r74 (0 : Int32))
  else (fX8_round_j195 r13 s36 r74 (1 : Int32)))
def fX8_round_k79 (r9 : Int32) (r13 : st_ × Int32) (x : st_) : Option (st_) :=
  fX8_round_x79_118 r9 r13 x
def fX8_round_b79 (r9 : Int32) (v4_b79 : Int32) (s_b79 : st_) : Option ((Int32 × st_) ⊕ (st_)) :=
  gd_ (ib_ (4 : Int32) 12584) <|
  if (s_b79 1 (ix_ (4 : Int32))) ≤ v4_b79 then (some (.inr s_b79))
  else (bn_ (fX8_swapAt r9 v4_b79) fun r84 =>
  gd_ (ib_ r84 12584) <|
  bn_ (fX8_wouldCost s_b79 (6 : Int32) v4_b79) fun r89 =>
  gd_ (ib_ r84 12584) <|
  bd_ (pt_ r89.1 1 (ix_ r84) ((s_b79 1 (ix_ r84)) + r89.2)) fun s94 =>
  some (.inl ((v4_b79 + (1 : Int32)), s94)))
def fX8_round_l79 (r9 : Int32) : Nat → (Int32 × st_) → Option (st_) :=
  it_ (fun v => fX8_round_b79 r9 v.1 v.2)
def fX8_round_j38 (s_j38 : st_) : Option (st_) :=
  gd_ (ib_ (5 : Int32) 12584) <|
  gd_ (ib_ (6 : Int32) 12584) <|
  gd_ (ib_ (8 : Int32) 12584) <|
  bn_ (fX8_takenBy s_j38 (s_j38 1 (ix_ (5 : Int32))) (s_j38 1 (ix_ (6 : Int32))) (s_j38 1 (ix_ (8 : Int32)))) fun r9 =>
  bn_ (fX8_rivalTakes s_j38) fun r13 =>
  gd_ (ib_ (16 : Int32) 12584) <|
  bn_ (fX8_round_l79 r9 FU_ ((0 : Int32), r13.1)) (fX8_round_k79 r9 r13)
def fX8_round_j11 (s_j11 : st_) : Option (st_) :=
  gd_ (ib_ (5 : Int32) 12584) <|
  if (s_j11 1 (ix_ (5 : Int32))) = (0 : Int32) then (gd_ (ib_ (8 : Int32) 12584) <|
  bn_ (fX8_drawn s_j11 (s_j11 1 (ix_ (8 : Int32)))) fun r99 =>
  gd_ (ib_ (8 : Int32) 12584) <|
  bd_ (pt_ s_j11 1 (ix_ (8 : Int32)) r99) fun s104 =>
  fX8_round_j38 s104)
  else (fX8_round_j38 s_j11)
def fX8_round (s : st_) : Option (st_) :=
  bn_ (fX8_isFull s) fun r1 =>
  if r1 = (0 : Int32) then (bn_ (fX8_foe s) fun r108 =>
  fX8_round_j11 r108)
  else (fX8_round_j11 s)
set_option maxRecDepth 8000 in
theorem kX8_round {E : ev_} {H : Heap} {a : Nat} {s : st_} {r : st_} (hm : fX8_round s = some r) (h0 : has_ E H a ly_O s) (hf : ev_fr E a) : sp_ E mX8_round [.ref a] H (po1 (.inl (none)) (fun Hn => sm_ H Hn a 10 ∧ has_ E Hn a ly_O r)) := by
  refine sp_of (by decide +kernel) rfl rfl ?_
  generalize hQ : po1 _ _ = Q
  have hs : sm_ H H a 10 := sm_.rfl'
  unfold fX8_round at hm
  refine aw_lv (lv' := [(0, .ref a)]) [0] rfl ?_
  refine aw_b (pc' := 1) (lv' := [(0, .ref a)]) (st' := [.ref a]) [(0, .aload_n 0, 1, .null)] (by decide +kernel) rfl ?_
  obtain ⟨r1, e2, hm⟩ := bn_x hm
  refine aw_cv (rest := []) (st1 := [.int r1]) a 0 (kX8_isFull e2 h0) rfl rfl ckX8_isFull lkX8_245 h0 eo_O_0 ⟨_, _, rfl⟩ nkX8_isFull rfl rfl rfl (Nat.le_of_ble_eq_true rfl) (Nat.zero_le _) (Nat.zero_le _) (by decide +kernel) (fun H3 z4 => ?_)
  have h0 := h0.kept0 z4
  have hs := hs.step0 z4
  have J11 : ∀ (s_j11 : st_) (H_j11 : Heap), has_ E H_j11 a ly_O s_j11 → sm_ H H_j11 a 10 → fX8_round_j11 s_j11 = some r → aw E mX8_round Q 11 [(0, .ref a)] [] H_j11 0 0 := by
    intro s_j11 H_j11 h0 hs hm
    unfold fX8_round_j11 at hm
    refine aw_b (pc' := 12) (lv' := [(0, .ref a)]) (st' := [.ref a]) [(11, .aload_n 0, 1, .null)] (by decide +kernel) rfl ?_
    refine aw_gl (v := .ref (a + 1)) a 0 h0 eo_O_0 fgX8_9 rfl (by decide +kernel) ?_
    refine aw_b (pc' := 16) (lv' := [(0, .ref a)]) (st' := [.int (5 : Int32), .ref (a + 1)]) [(15, .iconst 5, 1, .int (5 : Int32))] (by decide +kernel) rfl ?_
    obtain ⟨g5, hm⟩ := gd_x hm
    refine aw_ial a 1 h0 rfl g5 (by decide +kernel) ?_
    have J38 : ∀ (s_j38 : st_) (H_j38 : Heap), has_ E H_j38 a ly_O s_j38 → sm_ H H_j38 a 10 → fX8_round_j38 s_j38 = some r → aw E mX8_round Q 38 [(0, .ref a)] [] H_j38 0 0 := by
      intro s_j38 H_j38 h0 hs hm
      unfold fX8_round_j38 at hm
      refine aw_b (pc' := 40) (lv' := [(0, .ref a)]) (st' := [.ref a, .ref a]) [(38, .aload_n 0, 1, .null), (39, .aload_n 0, 1, .null)] (by decide +kernel) rfl ?_
      refine aw_gl (v := .ref (a + 1)) a 0 h0 eo_O_0 fgX8_9 rfl (by decide +kernel) ?_
      refine aw_b (pc' := 44) (lv' := [(0, .ref a)]) (st' := [.int (5 : Int32), .ref (a + 1), .ref a]) [(43, .iconst 5, 1, .int (5 : Int32))] (by decide +kernel) rfl ?_
      obtain ⟨g6, hm⟩ := gd_x hm
      refine aw_ial a 1 h0 rfl g6 (by decide +kernel) ?_
      refine aw_b (pc' := 46) (lv' := [(0, .ref a)]) (st' := [.ref a, .int (s_j38 1 (ix_ (5 : Int32))), .ref a]) [(45, .aload_n 0, 1, .null)] (by decide +kernel) rfl ?_
      refine aw_gl (v := .ref (a + 1)) a 0 h0 eo_O_0 fgX8_9 rfl (by decide +kernel) ?_
      refine aw_b (pc' := 51) (lv' := [(0, .ref a)]) (st' := [.int (6 : Int32), .ref (a + 1), .int (s_j38 1 (ix_ (5 : Int32))), .ref a]) [(49, .bipush 6, 2, .int (6 : Int32))] (by decide +kernel) rfl ?_
      obtain ⟨g7, hm⟩ := gd_x hm
      refine aw_ial a 1 h0 rfl g7 (by decide +kernel) ?_
      refine aw_b (pc' := 53) (lv' := [(0, .ref a)]) (st' := [.ref a, .int (s_j38 1 (ix_ (6 : Int32))), .int (s_j38 1 (ix_ (5 : Int32))), .ref a]) [(52, .aload_n 0, 1, .null)] (by decide +kernel) rfl ?_
      refine aw_gl (v := .ref (a + 1)) a 0 h0 eo_O_0 fgX8_9 rfl (by decide +kernel) ?_
      refine aw_b (pc' := 58) (lv' := [(0, .ref a)]) (st' := [.int (8 : Int32), .ref (a + 1), .int (s_j38 1 (ix_ (6 : Int32))), .int (s_j38 1 (ix_ (5 : Int32))), .ref a]) [(56, .bipush 8, 2, .int (8 : Int32))] (by decide +kernel) rfl ?_
      obtain ⟨g8, hm⟩ := gd_x hm
      refine aw_ial a 1 h0 rfl g8 (by decide +kernel) ?_
      obtain ⟨r9, e10, hm⟩ := bn_x hm
      refine aw_cv (rest := []) (st1 := [.int r9]) a 0 (kX8_takenBy e10 h0) rfl rfl ckX8_takenBy lkX8_325 h0 eo_O_0 ⟨_, _, rfl⟩ nkX8_takenBy rfl rfl rfl (Nat.le_of_ble_eq_true rfl) (Nat.zero_le _) (Nat.zero_le _) (by decide +kernel) (fun H11 z12 => ?_)
      have h0 := h0.kept0 z12
      have hs := hs.step0 z12
      refine aw_b (pc' := 64) (lv' := [(1, .int r9), (0, .ref a)]) (st' := [.ref a]) [(62, .istore_n 1, 1, .null), (63, .aload_n 0, 1, .null)] (by decide +kernel) rfl ?_
      obtain ⟨r13, e14, hm⟩ := bn_x hm
      refine aw_cv (rest := []) (st1 := [.int r13.2]) a 0 (kX8_rivalTakes e14 h0 hf) rfl rfl ckX8_rivalTakes lkX8_365 h0 eo_O_0 ⟨_, _, rfl⟩ nkX8_rivalTakes rfl rfl rfl (Nat.le_of_ble_eq_true rfl) (Nat.zero_le _) (Nat.zero_le _) (by decide +kernel) (fun H15 z16 => ?_)
      obtain ⟨z16, hn⟩ := z16
      have h0 := hn
      have hs := hs.step z16 (by omega) (by omega)
      refine aw_b (pc' := 69) (lv' := [(2, .int r13.2), (1, .int r9), (0, .ref a)]) (st' := [.ref a]) [(67, .istore_n 2, 1, .null), (68, .aload_n 0, 1, .null)] (by decide +kernel) rfl ?_
      refine aw_gl (v := .ref (a + 1)) a 0 h0 eo_O_0 fgX8_9 rfl (by decide +kernel) ?_
      refine aw_b (pc' := 74) (lv' := [(2, .int r13.2), (1, .int r9), (0, .ref a)]) (st' := [.int (16 : Int32), .ref (a + 1)]) [(72, .bipush 16, 2, .int (16 : Int32))] (by decide +kernel) rfl ?_
      obtain ⟨g17, hm⟩ := gd_x hm
      refine aw_ial a 1 h0 rfl g17 (by decide +kernel) ?_
      refine aw_b (pc' := 79) (lv' := [(4, .int (0 : Int32)), (3, .int (r13.1 1 (ix_ (16 : Int32)))), (2, .int r13.2), (1, .int r9), (0, .ref a)]) (st' := []) [(75, .istore_n 3, 1, .null), (76, .iconst 0, 1, .int (0 : Int32)), (77, .istore 4, 2, .null)] (by decide +kernel) rfl ?_
      obtain ⟨x79, hx79, hr79⟩ := bn_x hm
      have X79_118 : ∀ (s_x79_118 : st_) (H_x79_118 : Heap), has_ E H_x79_118 a ly_O s_x79_118 → sm_ H H_x79_118 a 10 → fX8_round_x79_118 r9 r13 s_x79_118 = some r → aw E mX8_round Q 118 [(0, .ref a), (1, .int r9), (2, .int r13.2), (3, .int (r13.1 1 (ix_ (16 : Int32))))] [] H_x79_118 0 0 := by
        intro s_x79_118 H_x79_118 h0 hs hm
        unfold fX8_round_x79_118 at hm
        refine aw_b (pc' := 119) (lv' := [(0, .ref a), (1, .int r9), (2, .int r13.2), (3, .int (r13.1 1 (ix_ (16 : Int32))))]) (st' := [.ref a]) [(118, .aload_n 0, 1, .null)] (by decide +kernel) rfl ?_
        refine aw_gl (v := .ref (a + 1)) a 0 h0 eo_O_0 fgX8_9 rfl (by decide +kernel) ?_
        refine aw_b (pc' := 128) (lv' := [(0, .ref a), (1, .int r9), (2, .int r13.2), (3, .int (r13.1 1 (ix_ (16 : Int32))))]) (st' := [.int r9, .int ((548 : Int32) + (r13.1 1 (ix_ (16 : Int32)))), .ref (a + 1)]) [(122, .sipush 548, 3, .int (548 : Int32)), (125, .iload_n 3, 1, .null), (126, .iadd, 1, .null), (127, .iload_n 1, 1, .null)] (by decide +kernel) rfl ?_
        obtain ⟨g18, hm⟩ := gd_x hm
        obtain ⟨s19, e20, hm⟩ := bd_x hm
        refine aw_isl a 1 h0 rfl hf g18 e20 (by decide +kernel) (fun H21 h0 z22 => ?_)
        have hs := hs.step z22 (by omega) (by omega)
        refine aw_b (pc' := 133) (lv' := [(0, .ref a), (1, .int r9), (2, .int r13.2), (3, .int (r13.1 1 (ix_ (16 : Int32))))]) (st' := [.int (1 : Int32), .int (3 : Int32), .int r9, .ref a]) [(129, .aload_n 0, 1, .null), (130, .iload_n 1, 1, .null), (131, .iconst 3, 1, .int (3 : Int32)), (132, .iconst 1, 1, .int (1 : Int32))] (by decide +kernel) rfl ?_
        obtain ⟨r23, e24, hm⟩ := bn_x hm
        refine aw_cv (rest := []) (st1 := []) a 0 (kX8_adds e24 h0 hf) rfl rfl ckX8_adds lkX8_371 h0 eo_O_0 ⟨_, _, rfl⟩ nkX8_adds rfl rfl rfl (Nat.le_of_ble_eq_true rfl) (Nat.zero_le _) (Nat.zero_le _) (by decide +kernel) (fun H25 z26 => ?_)
        obtain ⟨z26, hn⟩ := z26
        have h0 := hn
        have hs := hs.step z26 (by omega) (by omega)
        refine aw_b (pc' := 140) (lv' := [(0, .ref a), (1, .int r9), (2, .int r13.2), (3, .int (r13.1 1 (ix_ (16 : Int32))))]) (st' := [.int r9, .int (6 : Int32), .ref a]) [(136, .aload_n 0, 1, .null), (137, .bipush 6, 2, .int (6 : Int32)), (139, .iload_n 1, 1, .null)] (by decide +kernel) rfl ?_
        obtain ⟨r27, e28, hm⟩ := bn_x hm
        refine aw_cv (rest := []) (st1 := [.int r27.2]) a 0 (kX8_serves e28 h0 hf) rfl rfl ckX8_serves lkX8_375 h0 eo_O_0 ⟨_, _, rfl⟩ nkX8_serves rfl rfl rfl (Nat.le_of_ble_eq_true rfl) (Nat.zero_le _) (Nat.zero_le _) (by decide +kernel) (fun H29 z30 => ?_)
        obtain ⟨z30, hn⟩ := z30
        have h0 := hn
        have hs := hs.step z30 (by omega) (by omega)
        refine aw_b (pc' := 150) (lv' := [(4, .int r27.2), (0, .ref a), (1, .int r9), (2, .int r13.2), (3, .int (r13.1 1 (ix_ (16 : Int32))))]) (st' := [.int r27.2, .int (4 : Int32), .int r9, .ref a]) [(143, .istore 4, 2, .null), (145, .aload_n 0, 1, .null), (146, .iload_n 1, 1, .null), (147, .iconst 4, 1, .int (4 : Int32)), (148, .iload 4, 2, .null)] (by decide +kernel) rfl ?_
        obtain ⟨r31, e32, hm⟩ := bn_x hm
        refine aw_cv (rest := []) (st1 := []) a 0 (kX8_adds e32 h0 hf) rfl rfl ckX8_adds lkX8_371 h0 eo_O_0 ⟨_, _, rfl⟩ nkX8_adds rfl rfl rfl (Nat.le_of_ble_eq_true rfl) (Nat.zero_le _) (Nat.zero_le _) (by decide +kernel) (fun H33 z34 => ?_)
        obtain ⟨z34, hn⟩ := z34
        have h0 := hn
        have hs := hs.step z34 (by omega) (by omega)
        refine aw_b (pc' := 154) (lv' := [(4, .int r27.2), (0, .ref a), (1, .int r9), (2, .int r13.2), (3, .int (r13.1 1 (ix_ (16 : Int32))))]) (st' := [.ref a]) [(153, .aload_n 0, 1, .null)] (by decide +kernel) rfl ?_
        refine aw_gl (v := .ref (a + 1)) a 0 h0 eo_O_0 fgX8_9 rfl (by decide +kernel) ?_
        refine aw_b (pc' := 164) (lv' := [(4, .int r27.2), (0, .ref a), (1, .int r9), (2, .int r13.2), (3, .int (r13.1 1 (ix_ (16 : Int32))))]) (st' := [.int r27.2, .int ((10148 : Int32) + (r13.1 1 (ix_ (16 : Int32)))), .ref (a + 1)]) [(157, .sipush 10148, 3, .int (10148 : Int32)), (160, .iload_n 3, 1, .null), (161, .iadd, 1, .null), (162, .iload 4, 2, .null)] (by decide +kernel) rfl ?_
        obtain ⟨g35, hm⟩ := gd_x hm
        obtain ⟨s36, e37, hm⟩ := bd_x hm
        refine aw_isl a 1 h0 rfl hf g35 e37 (by decide +kernel) (fun H38 h0 z39 => ?_)
        have hs := hs.step z39 (by omega) (by omega)
        refine aw_b (pc' := 167) (lv' := [(4, .int r27.2), (0, .ref a), (1, .int r9), (2, .int r13.2), (3, .int (r13.1 1 (ix_ (16 : Int32))))]) (st' := [.int (-1 : Int32), .int r13.2]) [(165, .iload_n 2, 1, .null), (166, .iconst (-1), 1, .int (-1 : Int32))] (by decide +kernel) rfl ?_
        have J197 : ∀ (s_j197 : st_) (H_j197 : Heap), has_ E H_j197 a ly_O s_j197 → sm_ H H_j197 a 10 → fX8_round_j197 r13 s_j197 = some r → aw E mX8_round Q 197 [(0, .ref a), (3, .int (r13.1 1 (ix_ (16 : Int32))))] [] H_j197 0 0 := by
          intro s_j197 H_j197 h0 hs hm
          unfold fX8_round_j197 at hm
          refine aw_b (pc' := 200) (lv' := [(5, .int (0 : Int32)), (0, .ref a), (3, .int (r13.1 1 (ix_ (16 : Int32))))]) (st' := []) [(197, .iconst 0, 1, .int (0 : Int32)), (198, .istore 5, 2, .null)] (by decide +kernel) rfl ?_
          obtain ⟨x200, hx200, hr200⟩ := bn_x hm
          have X200_242 : ∀ (s_x200_242 : st_) (H_x200_242 : Heap), has_ E H_x200_242 a ly_O s_x200_242 → sm_ H H_x200_242 a 10 → fX8_round_x200_242 r13 s_x200_242 = some r → aw E mX8_round Q 242 [(0, .ref a), (3, .int (r13.1 1 (ix_ (16 : Int32))))] [] H_x200_242 0 0 := by
            intro s_x200_242 H_x200_242 h0 hs hm
            unfold fX8_round_x200_242 at hm
            refine aw_b (pc' := 243) (lv' := [(0, .ref a), (3, .int (r13.1 1 (ix_ (16 : Int32))))]) (st' := [.ref a]) [(242, .aload_n 0, 1, .null)] (by decide +kernel) rfl ?_
            obtain ⟨r40, e41, hm⟩ := bn_x hm
            refine aw_cv (rest := []) (st1 := []) a 0 (kX8_weighs e41 h0 hf) rfl rfl ckX8_weighs lkX8_378 h0 eo_O_0 ⟨_, _, rfl⟩ nkX8_weighs rfl rfl rfl (Nat.le_of_ble_eq_true rfl) (Nat.zero_le _) (Nat.zero_le _) (by decide +kernel) (fun H42 z43 => ?_)
            obtain ⟨z43, hn⟩ := z43
            have h0 := hn
            have hs := hs.step z43 (by omega) (by omega)
            refine aw_b (pc' := 247) (lv' := [(0, .ref a), (3, .int (r13.1 1 (ix_ (16 : Int32))))]) (st' := [.ref a]) [(246, .aload_n 0, 1, .null)] (by decide +kernel) rfl ?_
            refine aw_gl (v := .ref (a + 1)) a 0 h0 eo_O_0 fgX8_9 rfl (by decide +kernel) ?_
            refine aw_b (pc' := 256) (lv' := [(0, .ref a), (3, .int (r13.1 1 (ix_ (16 : Int32))))]) (st' := [.ref a, .int ((1748 : Int32) + (r13.1 1 (ix_ (16 : Int32)))), .ref (a + 1)]) [(250, .sipush 1748, 3, .int (1748 : Int32)), (253, .iload_n 3, 1, .null), (254, .iadd, 1, .null), (255, .aload_n 0, 1, .null)] (by decide +kernel) rfl ?_
            obtain ⟨r44, e45, hm⟩ := bn_x hm
            refine aw_cv (rest := [.int ((1748 : Int32) + (r13.1 1 (ix_ (16 : Int32)))), .ref (a + 1)]) (st1 := [.int r44, .int ((1748 : Int32) + (r13.1 1 (ix_ (16 : Int32)))), .ref (a + 1)]) a 0 (kX8_bestRule e45 h0) rfl rfl ckX8_bestRule lkX8_310 h0 eo_O_0 ⟨_, _, rfl⟩ nkX8_bestRule rfl rfl rfl (Nat.le_of_ble_eq_true rfl) (Nat.zero_le _) (Nat.zero_le _) (by decide +kernel) (fun H46 z47 => ?_)
            have h0 := h0.kept0 z47
            have hs := hs.step0 z47
            obtain ⟨g48, hm⟩ := gd_x hm
            obtain ⟨s49, e50, hm⟩ := bd_x hm
            refine aw_isl a 1 h0 rfl hf g48 e50 (by decide +kernel) (fun H51 h0 z52 => ?_)
            have hs := hs.step z52 (by omega) (by omega)
            refine aw_b (pc' := 261) (lv' := [(0, .ref a), (3, .int (r13.1 1 (ix_ (16 : Int32))))]) (st' := [.ref a]) [(260, .aload_n 0, 1, .null)] (by decide +kernel) rfl ?_
            refine aw_gl (v := .ref (a + 1)) a 0 h0 eo_O_0 fgX8_9 rfl (by decide +kernel) ?_
            refine aw_b (pc' := 267) (lv' := [(0, .ref a), (3, .int (r13.1 1 (ix_ (16 : Int32))))]) (st' := [.int (16 : Int32), .ref (a + 1), .int (16 : Int32), .ref (a + 1)]) [(264, .bipush 16, 2, .int (16 : Int32)), (266, .dup2, 1, .null)] (by decide +kernel) rfl ?_
            obtain ⟨g53, hm⟩ := gd_x hm
            refine aw_ial a 1 h0 rfl g53 (by decide +kernel) ?_
            refine aw_b (pc' := 270) (lv' := [(0, .ref a), (3, .int (r13.1 1 (ix_ (16 : Int32))))]) (st' := [.int ((s49 1 (ix_ (16 : Int32))) + (1 : Int32)), .int (16 : Int32), .ref (a + 1)]) [(268, .iconst 1, 1, .int (1 : Int32)), (269, .iadd, 1, .null)] (by decide +kernel) rfl ?_
            obtain ⟨g54, hm⟩ := gd_x hm
            obtain ⟨s55, e56, hm⟩ := bd_x hm
            refine aw_isl a 1 h0 rfl hf g54 e56 (by decide +kernel) (fun H57 h0 z58 => ?_)
            have hs := hs.step z58 (by omega) (by omega)
            refine aw_b (pc' := 272) (lv' := [(0, .ref a), (3, .int (r13.1 1 (ix_ (16 : Int32))))]) (st' := [.ref a]) [(271, .aload_n 0, 1, .null)] (by decide +kernel) rfl ?_
            obtain ⟨r59, e60, hm⟩ := bn_x hm
            refine aw_cv (rest := []) (st1 := []) a 0 (kX8_judges e60 h0 hf) rfl rfl ckX8_judges lkX8_381 h0 eo_O_0 ⟨_, _, rfl⟩ nkX8_judges rfl rfl rfl (Nat.le_of_ble_eq_true rfl) (Nat.zero_le _) (Nat.zero_le _) (by decide +kernel) (fun H61 z62 => ?_)
            obtain ⟨z62, hn⟩ := z62
            have h0 := hn
            have hs := hs.step z62 (by omega) (by omega)
            obtain rfl := Option.some.inj hm
            subst hQ
            exact aw_vret rfl (Nat.zero_le _) (Nat.zero_le _) (by decide +kernel) ⟨rfl, hs, h0⟩
          have L200 : ∀ (fu : Nat) (v5_b200 : Int32) (s_b200 : st_) (H_b200 : Heap), has_ E H_b200 a ly_O s_b200 → sm_ H H_b200 a 10 → fX8_round_l200 r13 fu (v5_b200, s_b200) = some x200 → aw E mX8_round Q 200 [(0, .ref a), (3, .int (r13.1 1 (ix_ (16 : Int32)))), (5, .int v5_b200)] [] H_b200 0 0 := by
            intro fu
            induction fu with
            | zero =>
              intro v5_b200 s_b200 H_b200 h0 hs hm
              exact (it_0 hm).elim
            | succ fu ih200 =>
              intro v5_b200 s_b200 H_b200 h0 hs hm
              obtain ⟨y200, hm, hk200⟩ := it_s hm
              have hm : fX8_round_b200 r13 v5_b200 s_b200 = some y200 := hm
              unfold fX8_round_b200 at hm
              refine aw_b (pc' := 203) (lv' := [(0, .ref a), (3, .int (r13.1 1 (ix_ (16 : Int32)))), (5, .int v5_b200)]) (st' := [.ref a, .int v5_b200]) [(200, .iload 5, 2, .null), (202, .aload_n 0, 1, .null)] (by decide +kernel) rfl ?_
              refine aw_gl (v := .ref (a + 1)) a 0 h0 eo_O_0 fgX8_9 rfl (by decide +kernel) ?_
              refine aw_b (pc' := 207) (lv' := [(0, .ref a), (3, .int (r13.1 1 (ix_ (16 : Int32)))), (5, .int v5_b200)]) (st' := [.int (4 : Int32), .ref (a + 1), .int v5_b200]) [(206, .iconst 4, 1, .int (4 : Int32))] (by decide +kernel) rfl ?_
              obtain ⟨g63, hm⟩ := gd_x hm
              refine aw_ial a 1 h0 rfl g63 (by decide +kernel) ?_
              refine aw_ic_ge (off := 34) 242 (by decide) (by decide +kernel) (fun hc => ?_) (fun hc => ?_)
              · have hm := (if_pos hc).symm.trans hm
                cases hm
                refine aw_lv (lv' := [(0, .ref a), (3, .int (r13.1 1 (ix_ (16 : Int32))))]) [0, 1] rfl ?_
                exact X200_242 s_b200 H_b200 h0 hs ((congrArg (fX8_round_k200 r13) (show (s_b200) = x200 from hk200)).trans hr200)
              · have hm := (if_neg hc).symm.trans hm
                refine aw_b (pc' := 212) (lv' := [(0, .ref a), (3, .int (r13.1 1 (ix_ (16 : Int32)))), (5, .int v5_b200)]) (st' := [.ref a]) [(211, .aload_n 0, 1, .null)] (by decide +kernel) rfl ?_
                refine aw_gl (v := .ref (a + 1)) a 0 h0 eo_O_0 fgX8_9 rfl (by decide +kernel) ?_
                refine aw_b (pc' := 232) (lv' := [(0, .ref a), (3, .int (r13.1 1 (ix_ (16 : Int32)))), (5, .int v5_b200)]) (st' := [.int v5_b200, .int v5_b200, .ref a, .int (((2948 : Int32) + ((1200 : Int32) * v5_b200)) + (r13.1 1 (ix_ (16 : Int32)))), .ref (a + 1)]) [(215, .sipush 2948, 3, .int (2948 : Int32)), (218, .sipush 1200, 3, .int (1200 : Int32)), (221, .iload 5, 2, .null), (223, .imul, 1, .null), (224, .iadd, 1, .null), (225, .iload_n 3, 1, .null), (226, .iadd, 1, .null), (227, .aload_n 0, 1, .null), (228, .iload 5, 2, .null), (230, .iload 5, 2, .null)] (by decide +kernel) rfl ?_
                obtain ⟨r64, e65, hm⟩ := bn_x hm
                refine aw_cv (rest := [.int (((2948 : Int32) + ((1200 : Int32) * v5_b200)) + (r13.1 1 (ix_ (16 : Int32)))), .ref (a + 1)]) (st1 := [.int r64.2, .int (((2948 : Int32) + ((1200 : Int32) * v5_b200)) + (r13.1 1 (ix_ (16 : Int32)))), .ref (a + 1)]) a 0 (kX8_serves e65 h0 hf) rfl rfl ckX8_serves lkX8_375 h0 eo_O_0 ⟨_, _, rfl⟩ nkX8_serves rfl rfl rfl (Nat.le_of_ble_eq_true rfl) (Nat.zero_le _) (Nat.zero_le _) (by decide +kernel) (fun H66 z67 => ?_)
                obtain ⟨z67, hn⟩ := z67
                have h0 := hn
                have hs := hs.step z67 (by omega) (by omega)
                obtain ⟨g68, hm⟩ := gd_x hm
                obtain ⟨s69, e70, hm⟩ := bd_x hm
                refine aw_isl a 1 h0 rfl hf g68 e70 (by decide +kernel) (fun H71 h0 z72 => ?_)
                have hs := hs.step z72 (by omega) (by omega)
                refine aw_b (pc' := 200) (lv' := [(5, .int (v5_b200 + (1 : Int32))), (0, .ref a), (3, .int (r13.1 1 (ix_ (16 : Int32))))]) (st' := []) [(236, .iinc 5 1, 3, .int (1 : Int32)), (239, .goto (-39), 3, .null)] (by decide +kernel) rfl ?_
                cases hm
                refine aw_lv (lv' := [(0, .ref a), (3, .int (r13.1 1 (ix_ (16 : Int32)))), (5, .int (v5_b200 + (1 : Int32)))]) [1, 2, 0] rfl ?_
                exact ih200 (v5_b200 + (1 : Int32)) s69 H71 h0 hs hk200
          refine aw_lv (lv' := [(0, .ref a), (3, .int (r13.1 1 (ix_ (16 : Int32)))), (5, .int (0 : Int32))]) [1, 2, 0] rfl ?_
          exact L200 FU_ (0 : Int32) s_j197 H_j197 h0 hs hx200
        refine aw_ic_eq (off := 30) 197 (by decide) (by decide +kernel) (fun hc => ?_) (fun hc => ?_)
        · have hm := (if_pos hc).symm.trans hm
          refine aw_lv (lv' := [(0, .ref a), (3, .int (r13.1 1 (ix_ (16 : Int32))))]) [1, 4] rfl ?_
          exact J197 s36 H38 h0 hs hm
        · have hm := (if_neg hc).symm.trans hm
          refine aw_b (pc' := 171) (lv' := [(4, .int r27.2), (0, .ref a), (1, .int r9), (2, .int r13.2), (3, .int (r13.1 1 (ix_ (16 : Int32))))]) (st' := [.ref a]) [(170, .aload_n 0, 1, .null)] (by decide +kernel) rfl ?_
          refine aw_gl (v := .ref (a + 1)) a 0 h0 eo_O_0 fgX8_9 rfl (by decide +kernel) ?_
          refine aw_b (pc' := 177) (lv' := [(4, .int r27.2), (0, .ref a), (1, .int r9), (2, .int r13.2), (3, .int (r13.1 1 (ix_ (16 : Int32))))]) (st' := [.int (24 : Int32), .ref (a + 1), .int (24 : Int32), .ref (a + 1)]) [(174, .bipush 24, 2, .int (24 : Int32)), (176, .dup2, 1, .null)] (by decide +kernel) rfl ?_
          obtain ⟨g73, hm⟩ := gd_x hm
          refine aw_ial a 1 h0 rfl g73 (by decide +kernel) ?_
          refine aw_b (pc' := 182) (lv' := [(4, .int r27.2), (0, .ref a), (1, .int r9), (2, .int r13.2), (3, .int (r13.1 1 (ix_ (16 : Int32))))]) (st' := [.int r13.2, .int (7 : Int32), .ref a, .int (s36 1 (ix_ (24 : Int32))), .int (24 : Int32), .ref (a + 1)]) [(178, .aload_n 0, 1, .null), (179, .bipush 7, 2, .int (7 : Int32)), (181, .iload_n 2, 1, .null)] (by decide +kernel) rfl ?_
          obtain ⟨r74, e75, hm⟩ := bn_x hm
          refine aw_cv (rest := [.int (s36 1 (ix_ (24 : Int32))), .int (24 : Int32), .ref (a + 1)]) (st1 := [.int r74.2, .int (s36 1 (ix_ (24 : Int32))), .int (24 : Int32), .ref (a + 1)]) a 0 (kX8_serves e75 h0 hf) rfl rfl ckX8_serves lkX8_375 h0 eo_O_0 ⟨_, _, rfl⟩ nkX8_serves rfl rfl rfl (Nat.le_of_ble_eq_true rfl) (Nat.zero_le _) (Nat.zero_le _) (by decide +kernel) (fun H76 z77 => ?_)
          obtain ⟨z77, hn⟩ := z77
          have h0 := hn
          have hs := hs.step z77 (by omega) (by omega)
          refine aw_b (pc' := 187) (lv' := [(4, .int r27.2), (0, .ref a), (1, .int r9), (2, .int r13.2), (3, .int (r13.1 1 (ix_ (16 : Int32))))]) (st' := [.int r27.2, .int r74.2, .int (s36 1 (ix_ (24 : Int32))), .int (24 : Int32), .ref (a + 1)]) [(185, .iload 4, 2, .null)] (by decide +kernel) rfl ?_
          have J195 : ∀ (z3_j195 : Int32) (H_j195 : Heap), has_ E H_j195 a ly_O r74.1 → sm_ H H_j195 a 10 → fX8_round_j195 r13 s36 r74 z3_j195 = some r → aw E mX8_round Q 195 [(0, .ref a), (3, .int (r13.1 1 (ix_ (16 : Int32))))] [.int z3_j195, .int (s36 1 (ix_ (24 : Int32))), .int (24 : Int32), .ref (a + 1)] H_j195 0 0 := by
            intro z3_j195 H_j195 h0 hs hm
            unfold fX8_round_j195 at hm
            refine aw_b (pc' := 196) (lv' := [(0, .ref a), (3, .int (r13.1 1 (ix_ (16 : Int32))))]) (st' := [.int ((s36 1 (ix_ (24 : Int32))) + z3_j195), .int (24 : Int32), .ref (a + 1)]) [(195, .iadd, 1, .null)] (by decide +kernel) rfl ?_
            obtain ⟨g78, hm⟩ := gd_x hm
            obtain ⟨s79, e80, hm⟩ := bd_x hm
            refine aw_isl a 1 h0 rfl hf g78 e80 (by decide +kernel) (fun H81 h0 z82 => ?_)
            have hs := hs.step z82 (by omega) (by omega)
            exact J197 s79 H81 h0 hs hm
          refine aw_ic_ge (off := 7) 194 (by decide) (by decide +kernel) (fun hc => ?_) (fun hc => ?_)
          · have hm := (if_pos hc).symm.trans hm
            refine aw_b (pc' := 195) (lv' := [(4, .int r27.2), (0, .ref a), (1, .int r9), (2, .int r13.2), (3, .int (r13.1 1 (ix_ (16 : Int32))))]) (st' := [.int (0 : Int32), .int (s36 1 (ix_ (24 : Int32))), .int (24 : Int32), .ref (a + 1)]) [(194, .iconst 0, 1, .int (0 : Int32))] (by decide +kernel) rfl ?_
            refine aw_lv (lv' := [(0, .ref a), (3, .int (r13.1 1 (ix_ (16 : Int32))))]) [1, 4] rfl ?_
            exact J195 (0 : Int32) H76 h0 hs hm
          · have hm := (if_neg hc).symm.trans hm
            refine aw_b (pc' := 195) (lv' := [(4, .int r27.2), (0, .ref a), (1, .int r9), (2, .int r13.2), (3, .int (r13.1 1 (ix_ (16 : Int32))))]) (st' := [.int (1 : Int32), .int (s36 1 (ix_ (24 : Int32))), .int (24 : Int32), .ref (a + 1)]) [(190, .iconst 1, 1, .int (1 : Int32)), (191, .goto 4, 3, .null)] (by decide +kernel) rfl ?_
            refine aw_lv (lv' := [(0, .ref a), (3, .int (r13.1 1 (ix_ (16 : Int32))))]) [1, 4] rfl ?_
            exact J195 (1 : Int32) H76 h0 hs hm
      have L79 : ∀ (fu : Nat) (v4_b79 : Int32) (s_b79 : st_) (H_b79 : Heap), has_ E H_b79 a ly_O s_b79 → sm_ H H_b79 a 10 → fX8_round_l79 r9 fu (v4_b79, s_b79) = some x79 → aw E mX8_round Q 79 [(0, .ref a), (1, .int r9), (2, .int r13.2), (3, .int (r13.1 1 (ix_ (16 : Int32)))), (4, .int v4_b79)] [] H_b79 0 0 := by
        intro fu
        induction fu with
        | zero =>
          intro v4_b79 s_b79 H_b79 h0 hs hm
          exact (it_0 hm).elim
        | succ fu ih79 =>
          intro v4_b79 s_b79 H_b79 h0 hs hm
          obtain ⟨y79, hm, hk79⟩ := it_s hm
          have hm : fX8_round_b79 r9 v4_b79 s_b79 = some y79 := hm
          unfold fX8_round_b79 at hm
          refine aw_b (pc' := 82) (lv' := [(0, .ref a), (1, .int r9), (2, .int r13.2), (3, .int (r13.1 1 (ix_ (16 : Int32)))), (4, .int v4_b79)]) (st' := [.ref a, .int v4_b79]) [(79, .iload 4, 2, .null), (81, .aload_n 0, 1, .null)] (by decide +kernel) rfl ?_
          refine aw_gl (v := .ref (a + 1)) a 0 h0 eo_O_0 fgX8_9 rfl (by decide +kernel) ?_
          refine aw_b (pc' := 86) (lv' := [(0, .ref a), (1, .int r9), (2, .int r13.2), (3, .int (r13.1 1 (ix_ (16 : Int32)))), (4, .int v4_b79)]) (st' := [.int (4 : Int32), .ref (a + 1), .int v4_b79]) [(85, .iconst 4, 1, .int (4 : Int32))] (by decide +kernel) rfl ?_
          obtain ⟨g83, hm⟩ := gd_x hm
          refine aw_ial a 1 h0 rfl g83 (by decide +kernel) ?_
          refine aw_ic_ge (off := 31) 118 (by decide) (by decide +kernel) (fun hc => ?_) (fun hc => ?_)
          · have hm := (if_pos hc).symm.trans hm
            cases hm
            refine aw_lv (lv' := [(0, .ref a), (1, .int r9), (2, .int r13.2), (3, .int (r13.1 1 (ix_ (16 : Int32))))]) [0, 1, 2, 3] rfl ?_
            exact X79_118 s_b79 H_b79 h0 hs ((congrArg (fX8_round_k79 r9 r13) (show (s_b79) = x79 from hk79)).trans hr79)
          · have hm := (if_neg hc).symm.trans hm
            refine aw_b (pc' := 91) (lv' := [(0, .ref a), (1, .int r9), (2, .int r13.2), (3, .int (r13.1 1 (ix_ (16 : Int32)))), (4, .int v4_b79)]) (st' := [.ref a]) [(90, .aload_n 0, 1, .null)] (by decide +kernel) rfl ?_
            refine aw_gl (v := .ref (a + 1)) a 0 h0 eo_O_0 fgX8_9 rfl (by decide +kernel) ?_
            refine aw_b (pc' := 97) (lv' := [(0, .ref a), (1, .int r9), (2, .int r13.2), (3, .int (r13.1 1 (ix_ (16 : Int32)))), (4, .int v4_b79)]) (st' := [.int v4_b79, .int r9, .ref (a + 1)]) [(94, .iload_n 1, 1, .null), (95, .iload 4, 2, .null)] (by decide +kernel) rfl ?_
            obtain ⟨r84, e85, hm⟩ := bn_x hm
            refine aw_cs (rest := [.ref (a + 1)]) (st1 := [.int r84, .ref (a + 1)]) (kX8_swapAt e85) rfl rfl ckX8_swapAt lkX8_368 nkX8_swapAt rfl rfl rfl (Nat.le_of_ble_eq_true rfl) (Nat.zero_le _) (Nat.zero_le _) (by decide +kernel) (fun H86 z87 => ?_)
            have h0 := h0.kept0 z87
            have hs := hs.step0 z87
            refine aw_b (pc' := 101) (lv' := [(0, .ref a), (1, .int r9), (2, .int r13.2), (3, .int (r13.1 1 (ix_ (16 : Int32)))), (4, .int v4_b79)]) (st' := [.int r84, .ref (a + 1), .int r84, .ref (a + 1)]) [(100, .dup2, 1, .null)] (by decide +kernel) rfl ?_
            obtain ⟨g88, hm⟩ := gd_x hm
            refine aw_ial a 1 h0 rfl g88 (by decide +kernel) ?_
            refine aw_b (pc' := 107) (lv' := [(0, .ref a), (1, .int r9), (2, .int r13.2), (3, .int (r13.1 1 (ix_ (16 : Int32)))), (4, .int v4_b79)]) (st' := [.int v4_b79, .int (6 : Int32), .ref a, .int (s_b79 1 (ix_ r84)), .int r84, .ref (a + 1)]) [(102, .aload_n 0, 1, .null), (103, .bipush 6, 2, .int (6 : Int32)), (105, .iload 4, 2, .null)] (by decide +kernel) rfl ?_
            obtain ⟨r89, e90, hm⟩ := bn_x hm
            refine aw_cv (rest := [.int (s_b79 1 (ix_ r84)), .int r84, .ref (a + 1)]) (st1 := [.int r89.2, .int (s_b79 1 (ix_ r84)), .int r84, .ref (a + 1)]) a 0 (kX8_wouldCost e90 h0 hf) rfl rfl ckX8_wouldCost lkX8_332 h0 eo_O_0 ⟨_, _, rfl⟩ nkX8_wouldCost rfl rfl rfl (Nat.le_of_ble_eq_true rfl) (Nat.zero_le _) (Nat.zero_le _) (by decide +kernel) (fun H91 z92 => ?_)
            obtain ⟨z92, hn⟩ := z92
            have h0 := hn
            have hs := hs.step z92 (by omega) (by omega)
            refine aw_b (pc' := 111) (lv' := [(0, .ref a), (1, .int r9), (2, .int r13.2), (3, .int (r13.1 1 (ix_ (16 : Int32)))), (4, .int v4_b79)]) (st' := [.int ((s_b79 1 (ix_ r84)) + r89.2), .int r84, .ref (a + 1)]) [(110, .iadd, 1, .null)] (by decide +kernel) rfl ?_
            obtain ⟨g93, hm⟩ := gd_x hm
            obtain ⟨s94, e95, hm⟩ := bd_x hm
            refine aw_isl a 1 h0 rfl hf g93 e95 (by decide +kernel) (fun H96 h0 z97 => ?_)
            have hs := hs.step z97 (by omega) (by omega)
            refine aw_b (pc' := 79) (lv' := [(4, .int (v4_b79 + (1 : Int32))), (0, .ref a), (1, .int r9), (2, .int r13.2), (3, .int (r13.1 1 (ix_ (16 : Int32))))]) (st' := []) [(112, .iinc 4 1, 3, .int (1 : Int32)), (115, .goto (-36), 3, .null)] (by decide +kernel) rfl ?_
            cases hm
            refine aw_lv (lv' := [(0, .ref a), (1, .int r9), (2, .int r13.2), (3, .int (r13.1 1 (ix_ (16 : Int32)))), (4, .int (v4_b79 + (1 : Int32)))]) [1, 2, 3, 4, 0] rfl ?_
            exact ih79 (v4_b79 + (1 : Int32)) s94 H96 h0 hs hk79
      refine aw_lv (lv' := [(0, .ref a), (1, .int r9), (2, .int r13.2), (3, .int (r13.1 1 (ix_ (16 : Int32)))), (4, .int (0 : Int32))]) [4, 3, 2, 1, 0] rfl ?_
      exact L79 FU_ (0 : Int32) r13.1 H15 h0 hs hx79
    refine aw_if_ne (off := 21) 38 (by decide) (by decide +kernel) (fun hc => ?_) (fun hc => ?_)
    · have hm := (if_neg hc).symm.trans hm
      exact J38 s_j11 H_j11 h0 hs hm
    · have hm := (if_pos hc).symm.trans hm
      refine aw_b (pc' := 21) (lv' := [(0, .ref a)]) (st' := [.ref a]) [(20, .aload_n 0, 1, .null)] (by decide +kernel) rfl ?_
      refine aw_gl (v := .ref (a + 1)) a 0 h0 eo_O_0 fgX8_9 rfl (by decide +kernel) ?_
      refine aw_b (pc' := 28) (lv' := [(0, .ref a)]) (st' := [.ref a, .ref a, .int (8 : Int32), .ref (a + 1)]) [(24, .bipush 8, 2, .int (8 : Int32)), (26, .aload_n 0, 1, .null), (27, .aload_n 0, 1, .null)] (by decide +kernel) rfl ?_
      refine aw_gl (v := .ref (a + 1)) a 0 h0 eo_O_0 fgX8_9 rfl (by decide +kernel) ?_
      refine aw_b (pc' := 33) (lv' := [(0, .ref a)]) (st' := [.int (8 : Int32), .ref (a + 1), .ref a, .int (8 : Int32), .ref (a + 1)]) [(31, .bipush 8, 2, .int (8 : Int32))] (by decide +kernel) rfl ?_
      obtain ⟨g98, hm⟩ := gd_x hm
      refine aw_ial a 1 h0 rfl g98 (by decide +kernel) ?_
      obtain ⟨r99, e100, hm⟩ := bn_x hm
      refine aw_cv (rest := [.int (8 : Int32), .ref (a + 1)]) (st1 := [.int r99, .int (8 : Int32), .ref (a + 1)]) a 0 (kX8_drawn e100 h0) rfl rfl ckX8_drawn lkX8_322 h0 eo_O_0 ⟨_, _, rfl⟩ nkX8_drawn rfl rfl rfl (Nat.le_of_ble_eq_true rfl) (Nat.zero_le _) (Nat.zero_le _) (by decide +kernel) (fun H101 z102 => ?_)
      have h0 := h0.kept0 z102
      have hs := hs.step0 z102
      obtain ⟨g103, hm⟩ := gd_x hm
      obtain ⟨s104, e105, hm⟩ := bd_x hm
      refine aw_isl a 1 h0 rfl hf g103 e105 (by decide +kernel) (fun H106 h0 z107 => ?_)
      have hs := hs.step z107 (by omega) (by omega)
      exact J38 s104 H106 h0 hs hm
  refine aw_if_ne (off := 7) 11 (by decide) (by decide +kernel) (fun hc => ?_) (fun hc => ?_)
  · have hm := (if_neg hc).symm.trans hm
    exact J11 s H3 h0 hs hm
  · have hm := (if_pos hc).symm.trans hm
    refine aw_b (pc' := 8) (lv' := [(0, .ref a)]) (st' := [.ref a]) [(7, .aload_n 0, 1, .null)] (by decide +kernel) rfl ?_
    obtain ⟨r108, e109, hm⟩ := bn_x hm
    refine aw_cv (rest := []) (st1 := []) a 0 (kX8_foe e109 h0 hf) rfl rfl ckX8_foe lkX8_363 h0 eo_O_0 ⟨_, _, rfl⟩ nkX8_foe rfl rfl rfl (Nat.le_of_ble_eq_true rfl) (Nat.zero_le _) (Nat.zero_le _) (by decide +kernel) (fun H110 z111 => ?_)
    obtain ⟨z111, hn⟩ := z111
    have h0 := hn
    have hs := hs.step z111 (by omega) (by omega)
    exact J11 r108 H110 h0 hs hm
def mX8_rounds : mt_ := (yX8_rounds, cX8_rounds, 3, none, [], { frames := 12, locals := 276, cells := 0, slots := 0 })
theorem ckX8_rounds : cokV_ mX8_rounds := ⟨⟨(uw_mem 1981 (by decide +kernel) (by decide +kernel)), (uw_mem 112 (by decide +kernel) (by decide +kernel)), by decide +kernel, by decide +kernel⟩, (uw_mem 1980 (by decide +kernel) (by decide +kernel)), (uw_mem 85 (by decide +kernel) (by decide +kernel))⟩
theorem nkX8_rounds : nok_ mX8_rounds 1 := by decide +kernel
theorem lkX8_384 : Cond.methodLink RX8 384 yX8_round ∈ uw_ := (uw_mem 1982 (by decide +kernel) (by decide +kernel))
def fX8_rounds_x2_17 (s_x2_17 : st_) : Option (st_) :=
  some s_x2_17
def fX8_rounds_k2 (x : st_) : Option (st_) :=
  fX8_rounds_x2_17 x
def fX8_rounds_b2 (i0 : Int32) (v2_b2 : Int32) (s_b2 : st_) : Option ((Int32 × st_) ⊕ (st_)) :=
  if i0 ≤ v2_b2 then (some (.inr s_b2))
  else (bn_ (fX8_round s_b2) fun r1 =>
  some (.inl ((v2_b2 + (1 : Int32)), r1)))
def fX8_rounds_l2 (i0 : Int32) : Nat → (Int32 × st_) → Option (st_) :=
  it_ (fun v => fX8_rounds_b2 i0 v.1 v.2)
def fX8_rounds (s : st_) (i0 : Int32) : Option (st_) :=
  bn_ (fX8_rounds_l2 i0 FU_ ((0 : Int32), s)) (fX8_rounds_k2)
set_option maxRecDepth 8000 in
theorem kX8_rounds {E : ev_} {H : Heap} {a : Nat} {s : st_} {i0 : Int32} {r : st_} (hm : fX8_rounds s i0 = some r) (h0 : has_ E H a ly_O s) (hf : ev_fr E a) : sp_ E mX8_rounds [.ref a, .int i0] H (po1 (.inl (none)) (fun Hn => sm_ H Hn a 10 ∧ has_ E Hn a ly_O r)) := by
  refine sp_of (by decide +kernel) rfl rfl ?_
  generalize hQ : po1 _ _ = Q
  have hs : sm_ H H a 10 := sm_.rfl'
  unfold fX8_rounds at hm
  refine aw_lv (lv' := [(0, .ref a), (1, .int i0)]) [0, 1] rfl ?_
  refine aw_b (pc' := 2) (lv' := [(2, .int (0 : Int32)), (0, .ref a), (1, .int i0)]) (st' := []) [(0, .iconst 0, 1, .int (0 : Int32)), (1, .istore_n 2, 1, .null)] (by decide +kernel) rfl ?_
  obtain ⟨x2, hx2, hr2⟩ := bn_x hm
  have X2_17 : ∀ (s_x2_17 : st_) (H_x2_17 : Heap), has_ E H_x2_17 a ly_O s_x2_17 → sm_ H H_x2_17 a 10 → fX8_rounds_x2_17 s_x2_17 = some r → aw E mX8_rounds Q 17 [] [] H_x2_17 0 0 := by
    intro s_x2_17 H_x2_17 h0 hs hm
    unfold fX8_rounds_x2_17 at hm
    obtain rfl := Option.some.inj hm
    subst hQ
    exact aw_vret rfl (Nat.zero_le _) (Nat.zero_le _) (by decide +kernel) ⟨rfl, hs, h0⟩
  have L2 : ∀ (fu : Nat) (v2_b2 : Int32) (s_b2 : st_) (H_b2 : Heap), has_ E H_b2 a ly_O s_b2 → sm_ H H_b2 a 10 → fX8_rounds_l2 i0 fu (v2_b2, s_b2) = some x2 → aw E mX8_rounds Q 2 [(0, .ref a), (1, .int i0), (2, .int v2_b2)] [] H_b2 0 0 := by
    intro fu
    induction fu with
    | zero =>
      intro v2_b2 s_b2 H_b2 h0 hs hm
      exact (it_0 hm).elim
    | succ fu ih2 =>
      intro v2_b2 s_b2 H_b2 h0 hs hm
      obtain ⟨y2, hm, hk2⟩ := it_s hm
      have hm : fX8_rounds_b2 i0 v2_b2 s_b2 = some y2 := hm
      unfold fX8_rounds_b2 at hm
      refine aw_b (pc' := 4) (lv' := [(0, .ref a), (1, .int i0), (2, .int v2_b2)]) (st' := [.int i0, .int v2_b2]) [(2, .iload_n 2, 1, .null), (3, .iload_n 1, 1, .null)] (by decide +kernel) rfl ?_
      refine aw_ic_ge (off := 13) 17 (by decide) (by decide +kernel) (fun hc => ?_) (fun hc => ?_)
      · have hm := (if_pos hc).symm.trans hm
        cases hm
        refine aw_lv (lv' := []) [] rfl ?_
        exact X2_17 s_b2 H_b2 h0 hs ((congrArg fX8_rounds_k2 (show (s_b2) = x2 from hk2)).trans hr2)
      · have hm := (if_neg hc).symm.trans hm
        refine aw_b (pc' := 8) (lv' := [(0, .ref a), (1, .int i0), (2, .int v2_b2)]) (st' := [.ref a]) [(7, .aload_n 0, 1, .null)] (by decide +kernel) rfl ?_
        obtain ⟨r1, e2, hm⟩ := bn_x hm
        refine aw_cv (rest := []) (st1 := []) a 0 (kX8_round e2 h0 hf) rfl rfl ckX8_round lkX8_384 h0 eo_O_0 ⟨_, _, rfl⟩ nkX8_round rfl rfl rfl (Nat.le_of_ble_eq_true rfl) (Nat.zero_le _) (Nat.zero_le _) (by decide +kernel) (fun H3 z4 => ?_)
        obtain ⟨z4, hn⟩ := z4
        have h0 := hn
        have hs := hs.step z4 (by omega) (by omega)
        refine aw_b (pc' := 2) (lv' := [(2, .int (v2_b2 + (1 : Int32))), (0, .ref a), (1, .int i0)]) (st' := []) [(11, .iinc 2 1, 3, .int (1 : Int32)), (14, .goto (-12), 3, .null)] (by decide +kernel) rfl ?_
        cases hm
        refine aw_lv (lv' := [(0, .ref a), (1, .int i0), (2, .int (v2_b2 + (1 : Int32)))]) [1, 2, 0] rfl ?_
        exact ih2 (v2_b2 + (1 : Int32)) r1 H3 h0 hs hk2
  refine aw_lv (lv' := [(0, .ref a), (1, .int i0), (2, .int (0 : Int32))]) [1, 2, 0] rfl ?_
  exact L2 FU_ (0 : Int32) s H h0 hs hx2
def mX8_arm : mt_ := (yX8_arm, cX8_arm, 3, some .int, [], { frames := 3, locals := 67, cells := 0, slots := 0 })
theorem ckX8_arm : cokV_ mX8_arm := ⟨⟨(uw_mem 1719 (by decide +kernel) (by decide +kernel)), (uw_mem 112 (by decide +kernel) (by decide +kernel)), by decide +kernel, by decide +kernel⟩, (uw_mem 1717 (by decide +kernel) (by decide +kernel)), (uw_mem 1718 (by decide +kernel) (by decide +kernel))⟩
theorem nkX8_arm : nok_ mX8_arm 2 := by decide +kernel
theorem lkX8_387 : Cond.methodLink RX8 387 yX8_noArm ∈ uw_ := (uw_mem 1720 (by decide +kernel) (by decide +kernel))
theorem kwX8_390 : Cond.constantLong RX8 390 (6 : Int64) ∈ uw_ := (uw_mem 1724 (by decide +kernel) (by decide +kernel))
theorem lkX8_392 : Cond.methodLink RX8 392 yX8_told ∈ uw_ := (uw_mem 1725 (by decide +kernel) (by decide +kernel))
def fX8_arm_j33 (s_j33 : st_) : Option (st_ × Int32) :=
  some (s_j33, (0 : Int32))
def fX8_arm_j26 (i0 : Int32) (i1 : Int32) (r1 : st_ × Int32) (z1_j26 : Int32) : Option (st_ × Int32) :=
  bn_ (fX8_throwsIf r1.1 z1_j26 (2 : Int32)) fun r9 =>
  if r9.2 = (0 : Int32) then (bn_ (fX8_told i0) fun r13 =>
  bn_ (fX8_armOf r9.1 r13 i1) fun r17 =>
  some (r9.1, r17))
  else (fX8_arm_j33 r9.1)
def fX8_arm (s : st_) (i0 : Int32) (i1 : Int32) : Option (st_ × Int32) :=
  bn_ (fX8_noArm s i0) fun r1 =>
  if r1.2 = (0 : Int32) then (bn_ (fX8_in (Int32.toInt64 i1) (0 : Int64) (6 : Int64)) fun r5 =>
  if r5 = (0 : Int32) then (fX8_arm_j26 i0 i1 r1 (1 : Int32))
  else (fX8_arm_j26 i0 i1 r1 (0 : Int32)))
  else (fX8_arm_j33 r1.1)
set_option maxRecDepth 8000 in
theorem kX8_arm {E : ev_} {H : Heap} {a : Nat} {s : st_} {i0 : Int32} {i1 : Int32} {r : st_ × Int32} (hm : fX8_arm s i0 i1 = some r) (h0 : has_ E H a ly_O s) (hf : ev_fr E a) : sp_ E mX8_arm [.ref a, .int i0, .int i1] H (po1 (.inl (some (.int r.2))) (fun Hn => sm_ H Hn a 10 ∧ has_ E Hn a ly_O r.1)) := by
  refine sp_of (by decide +kernel) rfl rfl ?_
  generalize hQ : po1 _ _ = Q
  have hs : sm_ H H a 10 := sm_.rfl'
  unfold fX8_arm at hm
  refine aw_lv (lv' := [(0, .ref a), (1, .int i0), (2, .int i1)]) [0, 1, 2] rfl ?_
  refine aw_b (pc' := 2) (lv' := [(0, .ref a), (1, .int i0), (2, .int i1)]) (st' := [.int i0, .ref a]) [(0, .aload_n 0, 1, .null), (1, .iload_n 1, 1, .null)] (by decide +kernel) rfl ?_
  obtain ⟨r1, e2, hm⟩ := bn_x hm
  refine aw_cv (rest := []) (st1 := [.int r1.2]) a 0 (kX8_noArm e2 h0 hf) rfl rfl ckX8_noArm lkX8_387 h0 eo_O_0 ⟨_, _, rfl⟩ nkX8_noArm rfl rfl rfl (Nat.le_of_ble_eq_true rfl) (Nat.zero_le _) (Nat.zero_le _) (by decide +kernel) (fun H3 z4 => ?_)
  obtain ⟨z4, hn⟩ := z4
  have h0 := hn
  have hs := hs.step z4 (by omega) (by omega)
  have J33 : ∀ (s_j33 : st_) (H_j33 : Heap), has_ E H_j33 a ly_O s_j33 → sm_ H H_j33 a 10 → fX8_arm_j33 s_j33 = some r → aw E mX8_arm Q 33 [] [] H_j33 0 0 := by
    intro s_j33 H_j33 h0 hs hm
    unfold fX8_arm_j33 at hm
    refine aw_b (pc' := 46) (lv' := []) (st' := [.int (0 : Int32)]) [(33, .iconst 0, 1, .int (0 : Int32)), (34, .goto 12, 3, .null)] (by decide +kernel) rfl ?_
    obtain rfl := Option.some.inj hm
    subst hQ
    exact aw_iret rfl (Nat.zero_le _) (Nat.zero_le _) (by decide +kernel) ⟨rfl, hs, h0⟩
  refine aw_if_ne (off := 28) 33 (by decide) (by decide +kernel) (fun hc => ?_) (fun hc => ?_)
  · have hm := (if_neg hc).symm.trans hm
    refine aw_lv (lv' := []) [] rfl ?_
    exact J33 r1.1 H3 h0 hs hm
  · have hm := (if_pos hc).symm.trans hm
    refine aw_b (pc' := 12) (lv' := [(0, .ref a), (1, .int i0), (2, .int i1)]) (st' := [.long (0 : Int64), .long (Int32.toInt64 i1), .ref a]) [(8, .aload_n 0, 1, .null), (9, .iload_n 2, 1, .null), (10, .i2l, 1, .null), (11, .lconst 0, 1, .long (0 : Int64))] (by decide +kernel) rfl ?_
    refine aw_ldc2 (v := (6 : Int64)) kwX8_390 (by decide +kernel) ?_
    obtain ⟨r5, e6, hm⟩ := bn_x hm
    refine aw_cs (rest := [.ref a]) (st1 := [.int r5, .ref a]) (kX8_in e6) rfl rfl ckX8_in lkX8_70 nkX8_in rfl rfl rfl (Nat.le_of_ble_eq_true rfl) (Nat.zero_le _) (Nat.zero_le _) (by decide +kernel) (fun H7 z8 => ?_)
    have h0 := h0.kept0 z8
    have hs := hs.step0 z8
    have J26 : ∀ (z1_j26 : Int32) (H_j26 : Heap), has_ E H_j26 a ly_O r1.1 → sm_ H H_j26 a 10 → fX8_arm_j26 i0 i1 r1 z1_j26 = some r → aw E mX8_arm Q 26 [(0, .ref a), (1, .int i0), (2, .int i1)] [.int z1_j26, .ref a] H_j26 0 0 := by
      intro z1_j26 H_j26 h0 hs hm
      unfold fX8_arm_j26 at hm
      refine aw_b (pc' := 27) (lv' := [(0, .ref a), (1, .int i0), (2, .int i1)]) (st' := [.int (2 : Int32), .int z1_j26, .ref a]) [(26, .iconst 2, 1, .int (2 : Int32))] (by decide +kernel) rfl ?_
      obtain ⟨r9, e10, hm⟩ := bn_x hm
      refine aw_cv (rest := []) (st1 := [.int r9.2]) a 0 (kX8_throwsIf e10 h0 hf) rfl rfl ckX8_throwsIf lkX8_49 h0 eo_O_0 ⟨_, _, rfl⟩ nkX8_throwsIf rfl rfl rfl (Nat.le_of_ble_eq_true rfl) (Nat.zero_le _) (Nat.zero_le _) (by decide +kernel) (fun H11 z12 => ?_)
      obtain ⟨z12, hn⟩ := z12
      have h0 := hn
      have hs := hs.step z12 (by omega) (by omega)
      refine aw_if_eq (off := 7) 37 (by decide) (by decide +kernel) (fun hc => ?_) (fun hc => ?_)
      · have hm := (if_pos hc).symm.trans hm
        refine aw_b (pc' := 39) (lv' := [(0, .ref a), (1, .int i0), (2, .int i1)]) (st' := [.int i0, .ref a]) [(37, .aload_n 0, 1, .null), (38, .iload_n 1, 1, .null)] (by decide +kernel) rfl ?_
        obtain ⟨r13, e14, hm⟩ := bn_x hm
        refine aw_cs (rest := [.ref a]) (st1 := [.int r13, .ref a]) (kX8_told e14) rfl rfl ckX8_told lkX8_392 nkX8_told rfl rfl rfl (Nat.le_of_ble_eq_true rfl) (Nat.zero_le _) (Nat.zero_le _) (by decide +kernel) (fun H15 z16 => ?_)
        have h0 := h0.kept0 z16
        have hs := hs.step0 z16
        refine aw_b (pc' := 43) (lv' := [(0, .ref a), (1, .int i0), (2, .int i1)]) (st' := [.int i1, .int r13, .ref a]) [(42, .iload_n 2, 1, .null)] (by decide +kernel) rfl ?_
        obtain ⟨r17, e18, hm⟩ := bn_x hm
        refine aw_cv (rest := []) (st1 := [.int r17]) a 0 (kX8_armOf e18 h0) rfl rfl ckX8_armOf lkX8_232 h0 eo_O_0 ⟨_, _, rfl⟩ nkX8_armOf rfl rfl rfl (Nat.le_of_ble_eq_true rfl) (Nat.zero_le _) (Nat.zero_le _) (by decide +kernel) (fun H19 z20 => ?_)
        have h0 := h0.kept0 z20
        have hs := hs.step0 z20
        obtain rfl := Option.some.inj hm
        subst hQ
        exact aw_iret rfl (Nat.zero_le _) (Nat.zero_le _) (by decide +kernel) ⟨rfl, hs, h0⟩
      · have hm := (if_neg hc).symm.trans hm
        refine aw_lv (lv' := []) [] rfl ?_
        exact J33 r9.1 H11 h0 hs hm
    refine aw_if_ne (off := 7) 25 (by decide) (by decide +kernel) (fun hc => ?_) (fun hc => ?_)
    · have hm := (if_neg hc).symm.trans hm
      refine aw_b (pc' := 26) (lv' := [(0, .ref a), (1, .int i0), (2, .int i1)]) (st' := [.int (0 : Int32), .ref a]) [(25, .iconst 0, 1, .int (0 : Int32))] (by decide +kernel) rfl ?_
      exact J26 (0 : Int32) H7 h0 hs hm
    · have hm := (if_pos hc).symm.trans hm
      refine aw_b (pc' := 26) (lv' := [(0, .ref a), (1, .int i0), (2, .int i1)]) (st' := [.int (1 : Int32), .ref a]) [(21, .iconst 1, 1, .int (1 : Int32)), (22, .goto 4, 3, .null)] (by decide +kernel) rfl ?_
      exact J26 (1 : Int32) H7 h0 hs hm
def mX8_waiting : mt_ := (yX8_waiting, cX8_waiting, 4, some .int, [], { frames := 3, locals := 67, cells := 0, slots := 0 })
theorem ckX8_waiting : cokV_ mX8_waiting := ⟨⟨(uw_mem 1731 (by decide +kernel) (by decide +kernel)), (uw_mem 112 (by decide +kernel) (by decide +kernel)), by decide +kernel, by decide +kernel⟩, (uw_mem 1729 (by decide +kernel) (by decide +kernel)), (uw_mem 1730 (by decide +kernel) (by decide +kernel))⟩
theorem nkX8_waiting : nok_ mX8_waiting 3 := by decide +kernel
def fX8_waiting_j24 (i0 : Int32) (i1 : Int32) (i2 : Int32) (r1 : st_ × Int32) (z1_j24 : Int32) : Option (st_ × Int32) :=
  bn_ (fX8_throwsIf r1.1 z1_j24 (2 : Int32)) fun r9 =>
  if r9.2 = (0 : Int32) then (bn_ (fX8_told i0) fun r13 =>
  bn_ (fX8_armOf r9.1 r13 (2 : Int32)) fun r17 =>
  bn_ (fX8_in (Int32.toInt64 i1) (0 : Int64) (Int32.toInt64 (r17 - (1 : Int32)))) fun r21 =>
  if r21 = (0 : Int32) then (some (r9.1, (-1 : Int32)))
  else (bn_ (fX8_told i0) fun r25 =>
  bn_ (fX8_armAt r25) fun r29 =>
  gd_ (ib_ (((r29 + (7 : Int32)) + ((2 : Int32) * i1)) + i2) 12584) <|
  some (r9.1, (r9.1 1 (ix_ (((r29 + (7 : Int32)) + ((2 : Int32) * i1)) + i2))))))
  else (some (r9.1, (0 : Int32)))
def fX8_waiting (s : st_) (i0 : Int32) (i1 : Int32) (i2 : Int32) : Option (st_ × Int32) :=
  bn_ (fX8_noArm s i0) fun r1 =>
  if r1.2 = (0 : Int32) then (bn_ (fX8_in (Int32.toInt64 i2) (0 : Int64) (1 : Int64)) fun r5 =>
  if r5 = (0 : Int32) then (fX8_waiting_j24 i0 i1 i2 r1 (1 : Int32))
  else (fX8_waiting_j24 i0 i1 i2 r1 (0 : Int32)))
  else (some (r1.1, (0 : Int32)))
set_option maxRecDepth 8000 in
theorem kX8_waiting {E : ev_} {H : Heap} {a : Nat} {s : st_} {i0 : Int32} {i1 : Int32} {i2 : Int32} {r : st_ × Int32} (hm : fX8_waiting s i0 i1 i2 = some r) (h0 : has_ E H a ly_O s) (hf : ev_fr E a) : sp_ E mX8_waiting [.ref a, .int i0, .int i1, .int i2] H (po1 (.inl (some (.int r.2))) (fun Hn => sm_ H Hn a 10 ∧ has_ E Hn a ly_O r.1)) := by
  refine sp_of (by decide +kernel) rfl rfl ?_
  generalize hQ : po1 _ _ = Q
  have hs : sm_ H H a 10 := sm_.rfl'
  unfold fX8_waiting at hm
  refine aw_lv (lv' := [(0, .ref a), (1, .int i0), (2, .int i1), (3, .int i2)]) [0, 1, 2, 3] rfl ?_
  refine aw_b (pc' := 2) (lv' := [(0, .ref a), (1, .int i0), (2, .int i1), (3, .int i2)]) (st' := [.int i0, .ref a]) [(0, .aload_n 0, 1, .null), (1, .iload_n 1, 1, .null)] (by decide +kernel) rfl ?_
  obtain ⟨r1, e2, hm⟩ := bn_x hm
  refine aw_cv (rest := []) (st1 := [.int r1.2]) a 0 (kX8_noArm e2 h0 hf) rfl rfl ckX8_noArm lkX8_387 h0 eo_O_0 ⟨_, _, rfl⟩ nkX8_noArm rfl rfl rfl (Nat.le_of_ble_eq_true rfl) (Nat.zero_le _) (Nat.zero_le _) (by decide +kernel) (fun H3 z4 => ?_)
  obtain ⟨z4, hn⟩ := z4
  have h0 := hn
  have hs := hs.step z4 (by omega) (by omega)
  refine aw_if_ne (off := 26) 31 (by decide) (by decide +kernel) (fun hc => ?_) (fun hc => ?_)
  · have hm := (if_neg hc).symm.trans hm
    refine aw_b (pc' := 32) (lv' := [(0, .ref a), (1, .int i0), (2, .int i1), (3, .int i2)]) (st' := [.int (0 : Int32)]) [(31, .iconst 0, 1, .int (0 : Int32))] (by decide +kernel) rfl ?_
    obtain rfl := Option.some.inj hm
    subst hQ
    exact aw_iret rfl (Nat.zero_le _) (Nat.zero_le _) (by decide +kernel) ⟨rfl, hs, h0⟩
  · have hm := (if_pos hc).symm.trans hm
    refine aw_b (pc' := 13) (lv' := [(0, .ref a), (1, .int i0), (2, .int i1), (3, .int i2)]) (st' := [.long (1 : Int64), .long (0 : Int64), .long (Int32.toInt64 i2), .ref a]) [(8, .aload_n 0, 1, .null), (9, .iload_n 3, 1, .null), (10, .i2l, 1, .null), (11, .lconst 0, 1, .long (0 : Int64)), (12, .lconst 1, 1, .long (1 : Int64))] (by decide +kernel) rfl ?_
    obtain ⟨r5, e6, hm⟩ := bn_x hm
    refine aw_cs (rest := [.ref a]) (st1 := [.int r5, .ref a]) (kX8_in e6) rfl rfl ckX8_in lkX8_70 nkX8_in rfl rfl rfl (Nat.le_of_ble_eq_true rfl) (Nat.zero_le _) (Nat.zero_le _) (by decide +kernel) (fun H7 z8 => ?_)
    have h0 := h0.kept0 z8
    have hs := hs.step0 z8
    have J24 : ∀ (z1_j24 : Int32) (H_j24 : Heap), has_ E H_j24 a ly_O r1.1 → sm_ H H_j24 a 10 → fX8_waiting_j24 i0 i1 i2 r1 z1_j24 = some r → aw E mX8_waiting Q 24 [(0, .ref a), (1, .int i0), (2, .int i1), (3, .int i2)] [.int z1_j24, .ref a] H_j24 0 0 := by
      intro z1_j24 H_j24 h0 hs hm
      unfold fX8_waiting_j24 at hm
      refine aw_b (pc' := 25) (lv' := [(0, .ref a), (1, .int i0), (2, .int i1), (3, .int i2)]) (st' := [.int (2 : Int32), .int z1_j24, .ref a]) [(24, .iconst 2, 1, .int (2 : Int32))] (by decide +kernel) rfl ?_
      obtain ⟨r9, e10, hm⟩ := bn_x hm
      refine aw_cv (rest := []) (st1 := [.int r9.2]) a 0 (kX8_throwsIf e10 h0 hf) rfl rfl ckX8_throwsIf lkX8_49 h0 eo_O_0 ⟨_, _, rfl⟩ nkX8_throwsIf rfl rfl rfl (Nat.le_of_ble_eq_true rfl) (Nat.zero_le _) (Nat.zero_le _) (by decide +kernel) (fun H11 z12 => ?_)
      obtain ⟨z12, hn⟩ := z12
      have h0 := hn
      have hs := hs.step z12 (by omega) (by omega)
      refine aw_if_eq (off := 5) 33 (by decide) (by decide +kernel) (fun hc => ?_) (fun hc => ?_)
      · have hm := (if_pos hc).symm.trans hm
        refine aw_b (pc' := 38) (lv' := [(0, .ref a), (1, .int i0), (2, .int i1), (3, .int i2)]) (st' := [.int i0, .ref a, .long (0 : Int64), .long (Int32.toInt64 i1)]) [(33, .iload_n 2, 1, .null), (34, .i2l, 1, .null), (35, .lconst 0, 1, .long (0 : Int64)), (36, .aload_n 0, 1, .null), (37, .iload_n 1, 1, .null)] (by decide +kernel) rfl ?_
        obtain ⟨r13, e14, hm⟩ := bn_x hm
        refine aw_cs (rest := [.ref a, .long (0 : Int64), .long (Int32.toInt64 i1)]) (st1 := [.int r13, .ref a, .long (0 : Int64), .long (Int32.toInt64 i1)]) (kX8_told e14) rfl rfl ckX8_told lkX8_392 nkX8_told rfl rfl rfl (Nat.le_of_ble_eq_true rfl) (Nat.zero_le _) (Nat.zero_le _) (by decide +kernel) (fun H15 z16 => ?_)
        have h0 := h0.kept0 z16
        have hs := hs.step0 z16
        refine aw_b (pc' := 42) (lv' := [(0, .ref a), (1, .int i0), (2, .int i1), (3, .int i2)]) (st' := [.int (2 : Int32), .int r13, .ref a, .long (0 : Int64), .long (Int32.toInt64 i1)]) [(41, .iconst 2, 1, .int (2 : Int32))] (by decide +kernel) rfl ?_
        obtain ⟨r17, e18, hm⟩ := bn_x hm
        refine aw_cv (rest := [.long (0 : Int64), .long (Int32.toInt64 i1)]) (st1 := [.int r17, .long (0 : Int64), .long (Int32.toInt64 i1)]) a 0 (kX8_armOf e18 h0) rfl rfl ckX8_armOf lkX8_232 h0 eo_O_0 ⟨_, _, rfl⟩ nkX8_armOf rfl rfl rfl (Nat.le_of_ble_eq_true rfl) (Nat.zero_le _) (Nat.zero_le _) (by decide +kernel) (fun H19 z20 => ?_)
        have h0 := h0.kept0 z20
        have hs := hs.step0 z20
        refine aw_b (pc' := 48) (lv' := [(0, .ref a), (1, .int i0), (2, .int i1), (3, .int i2)]) (st' := [.long (Int32.toInt64 (r17 - (1 : Int32))), .long (0 : Int64), .long (Int32.toInt64 i1)]) [(45, .iconst 1, 1, .int (1 : Int32)), (46, .isub, 1, .null), (47, .i2l, 1, .null)] (by decide +kernel) rfl ?_
        obtain ⟨r21, e22, hm⟩ := bn_x hm
        refine aw_cs (rest := []) (st1 := [.int r21]) (kX8_in e22) rfl rfl ckX8_in lkX8_70 nkX8_in rfl rfl rfl (Nat.le_of_ble_eq_true rfl) (Nat.zero_le _) (Nat.zero_le _) (by decide +kernel) (fun H23 z24 => ?_)
        have h0 := h0.kept0 z24
        have hs := hs.step0 z24
        refine aw_if_eq (off := 27) 78 (by decide) (by decide +kernel) (fun hc => ?_) (fun hc => ?_)
        · have hm := (if_pos hc).symm.trans hm
          refine aw_b (pc' := 79) (lv' := [(0, .ref a), (1, .int i0), (2, .int i1), (3, .int i2)]) (st' := [.int (-1 : Int32)]) [(78, .iconst (-1), 1, .int (-1 : Int32))] (by decide +kernel) rfl ?_
          obtain rfl := Option.some.inj hm
          subst hQ
          exact aw_iret rfl (Nat.zero_le _) (Nat.zero_le _) (by decide +kernel) ⟨rfl, hs, h0⟩
        · have hm := (if_neg hc).symm.trans hm
          refine aw_b (pc' := 55) (lv' := [(0, .ref a), (1, .int i0), (2, .int i1), (3, .int i2)]) (st' := [.ref a]) [(54, .aload_n 0, 1, .null)] (by decide +kernel) rfl ?_
          refine aw_gl (v := .ref (a + 1)) a 0 h0 eo_O_0 fgX8_9 rfl (by decide +kernel) ?_
          refine aw_b (pc' := 59) (lv' := [(0, .ref a), (1, .int i0), (2, .int i1), (3, .int i2)]) (st' := [.int i0, .ref (a + 1)]) [(58, .iload_n 1, 1, .null)] (by decide +kernel) rfl ?_
          obtain ⟨r25, e26, hm⟩ := bn_x hm
          refine aw_cs (rest := [.ref (a + 1)]) (st1 := [.int r25, .ref (a + 1)]) (kX8_told e26) rfl rfl ckX8_told lkX8_392 nkX8_told rfl rfl rfl (Nat.le_of_ble_eq_true rfl) (Nat.zero_le _) (Nat.zero_le _) (by decide +kernel) (fun H27 z28 => ?_)
          have h0 := h0.kept0 z28
          have hs := hs.step0 z28
          obtain ⟨r29, e30, hm⟩ := bn_x hm
          refine aw_cs (rest := [.ref (a + 1)]) (st1 := [.int r29, .ref (a + 1)]) (kX8_armAt e30) rfl rfl ckX8_armAt lkX8_215 nkX8_armAt rfl rfl rfl (Nat.le_of_ble_eq_true rfl) (Nat.zero_le _) (Nat.zero_le _) (by decide +kernel) (fun H31 z32 => ?_)
          have h0 := h0.kept0 z32
          have hs := hs.step0 z32
          refine aw_b (pc' := 74) (lv' := [(0, .ref a), (1, .int i0), (2, .int i1), (3, .int i2)]) (st' := [.int (((r29 + (7 : Int32)) + ((2 : Int32) * i1)) + i2), .ref (a + 1)]) [(65, .bipush 7, 2, .int (7 : Int32)), (67, .iadd, 1, .null), (68, .iconst 2, 1, .int (2 : Int32)), (69, .iload_n 2, 1, .null), (70, .imul, 1, .null), (71, .iadd, 1, .null), (72, .iload_n 3, 1, .null), (73, .iadd, 1, .null)] (by decide +kernel) rfl ?_
          obtain ⟨g33, hm⟩ := gd_x hm
          refine aw_ial a 1 h0 rfl g33 (by decide +kernel) ?_
          refine aw_b (pc' := 79) (lv' := [(0, .ref a), (1, .int i0), (2, .int i1), (3, .int i2)]) (st' := [.int (r9.1 1 (ix_ (((r29 + (7 : Int32)) + ((2 : Int32) * i1)) + i2)))]) [(75, .goto 4, 3, .null)] (by decide +kernel) rfl ?_
          obtain rfl := Option.some.inj hm
          subst hQ
          exact aw_iret rfl (Nat.zero_le _) (Nat.zero_le _) (by decide +kernel) ⟨rfl, hs, h0⟩
      · have hm := (if_neg hc).symm.trans hm
        refine aw_b (pc' := 32) (lv' := [(0, .ref a), (1, .int i0), (2, .int i1), (3, .int i2)]) (st' := [.int (0 : Int32)]) [(31, .iconst 0, 1, .int (0 : Int32))] (by decide +kernel) rfl ?_
        obtain rfl := Option.some.inj hm
        subst hQ
        exact aw_iret rfl (Nat.zero_le _) (Nat.zero_le _) (by decide +kernel) ⟨rfl, hs, h0⟩
    refine aw_if_ne (off := 7) 23 (by decide) (by decide +kernel) (fun hc => ?_) (fun hc => ?_)
    · have hm := (if_neg hc).symm.trans hm
      refine aw_b (pc' := 24) (lv' := [(0, .ref a), (1, .int i0), (2, .int i1), (3, .int i2)]) (st' := [.int (0 : Int32), .ref a]) [(23, .iconst 0, 1, .int (0 : Int32))] (by decide +kernel) rfl ?_
      exact J24 (0 : Int32) H7 h0 hs hm
    · have hm := (if_pos hc).symm.trans hm
      refine aw_b (pc' := 24) (lv' := [(0, .ref a), (1, .int i0), (2, .int i1), (3, .int i2)]) (st' := [.int (1 : Int32), .ref a]) [(19, .iconst 1, 1, .int (1 : Int32)), (20, .goto 4, 3, .null)] (by decide +kernel) rfl ?_
      exact J24 (1 : Int32) H7 h0 hs hm
def mX8_wouldServe : mt_ := (yX8_wouldServe, cX8_wouldServe, 4, some .int, [], { frames := 6, locals := 136, cells := 0, slots := 0 })
theorem ckX8_wouldServe : cokV_ mX8_wouldServe := ⟨⟨(uw_mem 1735 (by decide +kernel) (by decide +kernel)), (uw_mem 112 (by decide +kernel) (by decide +kernel)), by decide +kernel, by decide +kernel⟩, (uw_mem 1733 (by decide +kernel) (by decide +kernel)), (uw_mem 1734 (by decide +kernel) (by decide +kernel))⟩
theorem nkX8_wouldServe : nok_ mX8_wouldServe 2 := by decide +kernel
def fX8_wouldServe_j22 (i0 : Int32) (i1 : Int32) (r1 : st_ × Int32) (z1_j22 : Int32) : Option (st_ × Int32) :=
  bn_ (fX8_throwsIf r1.1 z1_j22 (1 : Int32)) fun r9 =>
  if r9.2 = (0 : Int32) then (bn_ (fX8_told i0) fun r13 =>
  bn_ (fX8_picks r9.1 r13 i1) fun r17 =>
  if r17.2 = (-1 : Int32) then (some (r17.1, (-1 : Int32)))
  else (bn_ (fX8_told i0) fun r21 =>
  bn_ (fX8_cylinderOf r17.1 r21 r17.2) fun r25 =>
  some (r17.1, r25)))
  else (some (r9.1, (0 : Int32)))
def fX8_wouldServe (s : st_) (i0 : Int32) (i1 : Int32) : Option (st_ × Int32) :=
  bn_ (fX8_noArm s i0) fun r1 =>
  if r1.2 = (0 : Int32) then (bn_ (fX8_isRule r1.1 i1) fun r5 =>
  if r5 = (0 : Int32) then (fX8_wouldServe_j22 i0 i1 r1 (1 : Int32))
  else (fX8_wouldServe_j22 i0 i1 r1 (0 : Int32)))
  else (some (r1.1, (0 : Int32)))
set_option maxRecDepth 8000 in
theorem kX8_wouldServe {E : ev_} {H : Heap} {a : Nat} {s : st_} {i0 : Int32} {i1 : Int32} {r : st_ × Int32} (hm : fX8_wouldServe s i0 i1 = some r) (h0 : has_ E H a ly_O s) (hf : ev_fr E a) : sp_ E mX8_wouldServe [.ref a, .int i0, .int i1] H (po1 (.inl (some (.int r.2))) (fun Hn => sm_ H Hn a 10 ∧ has_ E Hn a ly_O r.1)) := by
  refine sp_of (by decide +kernel) rfl rfl ?_
  generalize hQ : po1 _ _ = Q
  have hs : sm_ H H a 10 := sm_.rfl'
  unfold fX8_wouldServe at hm
  refine aw_lv (lv' := [(0, .ref a), (1, .int i0), (2, .int i1)]) [0, 1, 2] rfl ?_
  refine aw_b (pc' := 2) (lv' := [(0, .ref a), (1, .int i0), (2, .int i1)]) (st' := [.int i0, .ref a]) [(0, .aload_n 0, 1, .null), (1, .iload_n 1, 1, .null)] (by decide +kernel) rfl ?_
  obtain ⟨r1, e2, hm⟩ := bn_x hm
  refine aw_cv (rest := []) (st1 := [.int r1.2]) a 0 (kX8_noArm e2 h0 hf) rfl rfl ckX8_noArm lkX8_387 h0 eo_O_0 ⟨_, _, rfl⟩ nkX8_noArm rfl rfl rfl (Nat.le_of_ble_eq_true rfl) (Nat.zero_le _) (Nat.zero_le _) (by decide +kernel) (fun H3 z4 => ?_)
  obtain ⟨z4, hn⟩ := z4
  have h0 := hn
  have hs := hs.step z4 (by omega) (by omega)
  refine aw_if_ne (off := 24) 29 (by decide) (by decide +kernel) (fun hc => ?_) (fun hc => ?_)
  · have hm := (if_neg hc).symm.trans hm
    refine aw_b (pc' := 30) (lv' := [(0, .ref a), (1, .int i0), (2, .int i1)]) (st' := [.int (0 : Int32)]) [(29, .iconst 0, 1, .int (0 : Int32))] (by decide +kernel) rfl ?_
    obtain rfl := Option.some.inj hm
    subst hQ
    exact aw_iret rfl (Nat.zero_le _) (Nat.zero_le _) (by decide +kernel) ⟨rfl, hs, h0⟩
  · have hm := (if_pos hc).symm.trans hm
    refine aw_b (pc' := 11) (lv' := [(0, .ref a), (1, .int i0), (2, .int i1)]) (st' := [.int i1, .ref a, .ref a]) [(8, .aload_n 0, 1, .null), (9, .aload_n 0, 1, .null), (10, .iload_n 2, 1, .null)] (by decide +kernel) rfl ?_
    obtain ⟨r5, e6, hm⟩ := bn_x hm
    refine aw_cv (rest := [.ref a]) (st1 := [.int r5, .ref a]) a 0 (kX8_isRule e6 h0) rfl rfl ckX8_isRule lkX8_218 h0 eo_O_0 ⟨_, _, rfl⟩ nkX8_isRule rfl rfl rfl (Nat.le_of_ble_eq_true rfl) (Nat.zero_le _) (Nat.zero_le _) (by decide +kernel) (fun H7 z8 => ?_)
    have h0 := h0.kept0 z8
    have hs := hs.step0 z8
    have J22 : ∀ (z1_j22 : Int32) (H_j22 : Heap), has_ E H_j22 a ly_O r1.1 → sm_ H H_j22 a 10 → fX8_wouldServe_j22 i0 i1 r1 z1_j22 = some r → aw E mX8_wouldServe Q 22 [(0, .ref a), (1, .int i0), (2, .int i1)] [.int z1_j22, .ref a] H_j22 0 0 := by
      intro z1_j22 H_j22 h0 hs hm
      unfold fX8_wouldServe_j22 at hm
      refine aw_b (pc' := 23) (lv' := [(0, .ref a), (1, .int i0), (2, .int i1)]) (st' := [.int (1 : Int32), .int z1_j22, .ref a]) [(22, .iconst 1, 1, .int (1 : Int32))] (by decide +kernel) rfl ?_
      obtain ⟨r9, e10, hm⟩ := bn_x hm
      refine aw_cv (rest := []) (st1 := [.int r9.2]) a 0 (kX8_throwsIf e10 h0 hf) rfl rfl ckX8_throwsIf lkX8_49 h0 eo_O_0 ⟨_, _, rfl⟩ nkX8_throwsIf rfl rfl rfl (Nat.le_of_ble_eq_true rfl) (Nat.zero_le _) (Nat.zero_le _) (by decide +kernel) (fun H11 z12 => ?_)
      obtain ⟨z12, hn⟩ := z12
      have h0 := hn
      have hs := hs.step z12 (by omega) (by omega)
      refine aw_if_eq (off := 5) 31 (by decide) (by decide +kernel) (fun hc => ?_) (fun hc => ?_)
      · have hm := (if_pos hc).symm.trans hm
        refine aw_b (pc' := 33) (lv' := [(0, .ref a), (1, .int i0), (2, .int i1)]) (st' := [.int i0, .ref a]) [(31, .aload_n 0, 1, .null), (32, .iload_n 1, 1, .null)] (by decide +kernel) rfl ?_
        obtain ⟨r13, e14, hm⟩ := bn_x hm
        refine aw_cs (rest := [.ref a]) (st1 := [.int r13, .ref a]) (kX8_told e14) rfl rfl ckX8_told lkX8_392 nkX8_told rfl rfl rfl (Nat.le_of_ble_eq_true rfl) (Nat.zero_le _) (Nat.zero_le _) (by decide +kernel) (fun H15 z16 => ?_)
        have h0 := h0.kept0 z16
        have hs := hs.step0 z16
        refine aw_b (pc' := 37) (lv' := [(0, .ref a), (1, .int i0), (2, .int i1)]) (st' := [.int i1, .int r13, .ref a]) [(36, .iload_n 2, 1, .null)] (by decide +kernel) rfl ?_
        obtain ⟨r17, e18, hm⟩ := bn_x hm
        refine aw_cv (rest := []) (st1 := [.int r17.2]) a 0 (kX8_picks e18 h0 hf) rfl rfl ckX8_picks lkX8_292 h0 eo_O_0 ⟨_, _, rfl⟩ nkX8_picks rfl rfl rfl (Nat.le_of_ble_eq_true rfl) (Nat.zero_le _) (Nat.zero_le _) (by decide +kernel) (fun H19 z20 => ?_)
        obtain ⟨z20, hn⟩ := z20
        have h0 := hn
        have hs := hs.step z20 (by omega) (by omega)
        refine aw_b (pc' := 43) (lv' := [(3, .int r17.2), (0, .ref a), (1, .int i0), (2, .int i1)]) (st' := [.int (-1 : Int32), .int r17.2]) [(40, .istore_n 3, 1, .null), (41, .iload_n 3, 1, .null), (42, .iconst (-1), 1, .int (-1 : Int32))] (by decide +kernel) rfl ?_
        refine aw_ic_ne (off := 7) 50 (by decide) (by decide +kernel) (fun hc => ?_) (fun hc => ?_)
        · have hm := (if_neg hc).symm.trans hm
          refine aw_b (pc' := 52) (lv' := [(3, .int r17.2), (0, .ref a), (1, .int i0), (2, .int i1)]) (st' := [.int i0, .ref a]) [(50, .aload_n 0, 1, .null), (51, .iload_n 1, 1, .null)] (by decide +kernel) rfl ?_
          obtain ⟨r21, e22, hm⟩ := bn_x hm
          refine aw_cs (rest := [.ref a]) (st1 := [.int r21, .ref a]) (kX8_told e22) rfl rfl ckX8_told lkX8_392 nkX8_told rfl rfl rfl (Nat.le_of_ble_eq_true rfl) (Nat.zero_le _) (Nat.zero_le _) (by decide +kernel) (fun H23 z24 => ?_)
          have h0 := h0.kept0 z24
          have hs := hs.step0 z24
          refine aw_b (pc' := 56) (lv' := [(3, .int r17.2), (0, .ref a), (1, .int i0), (2, .int i1)]) (st' := [.int r17.2, .int r21, .ref a]) [(55, .iload_n 3, 1, .null)] (by decide +kernel) rfl ?_
          obtain ⟨r25, e26, hm⟩ := bn_x hm
          refine aw_cv (rest := []) (st1 := [.int r25]) a 0 (kX8_cylinderOf e26 h0) rfl rfl ckX8_cylinderOf lkX8_267 h0 eo_O_0 ⟨_, _, rfl⟩ nkX8_cylinderOf rfl rfl rfl (Nat.le_of_ble_eq_true rfl) (Nat.zero_le _) (Nat.zero_le _) (by decide +kernel) (fun H27 z28 => ?_)
          have h0 := h0.kept0 z28
          have hs := hs.step0 z28
          obtain rfl := Option.some.inj hm
          subst hQ
          exact aw_iret rfl (Nat.zero_le _) (Nat.zero_le _) (by decide +kernel) ⟨rfl, hs, h0⟩
        · have hm := (if_pos hc).symm.trans hm
          refine aw_b (pc' := 59) (lv' := [(3, .int r17.2), (0, .ref a), (1, .int i0), (2, .int i1)]) (st' := [.int (-1 : Int32)]) [(46, .iconst (-1), 1, .int (-1 : Int32)), (47, .goto 12, 3, .null)] (by decide +kernel) rfl ?_
          obtain rfl := Option.some.inj hm
          subst hQ
          exact aw_iret rfl (Nat.zero_le _) (Nat.zero_le _) (by decide +kernel) ⟨rfl, hs, h0⟩
      · have hm := (if_neg hc).symm.trans hm
        refine aw_b (pc' := 30) (lv' := [(0, .ref a), (1, .int i0), (2, .int i1)]) (st' := [.int (0 : Int32)]) [(29, .iconst 0, 1, .int (0 : Int32))] (by decide +kernel) rfl ?_
        obtain rfl := Option.some.inj hm
        subst hQ
        exact aw_iret rfl (Nat.zero_le _) (Nat.zero_le _) (by decide +kernel) ⟨rfl, hs, h0⟩
    refine aw_if_ne (off := 7) 21 (by decide) (by decide +kernel) (fun hc => ?_) (fun hc => ?_)
    · have hm := (if_neg hc).symm.trans hm
      refine aw_b (pc' := 22) (lv' := [(0, .ref a), (1, .int i0), (2, .int i1)]) (st' := [.int (0 : Int32), .ref a]) [(21, .iconst 0, 1, .int (0 : Int32))] (by decide +kernel) rfl ?_
      exact J22 (0 : Int32) H7 h0 hs hm
    · have hm := (if_pos hc).symm.trans hm
      refine aw_b (pc' := 22) (lv' := [(0, .ref a), (1, .int i0), (2, .int i1)]) (st' := [.int (1 : Int32), .ref a]) [(17, .iconst 1, 1, .int (1 : Int32)), (18, .goto 4, 3, .null)] (by decide +kernel) rfl ?_
      exact J22 (1 : Int32) H7 h0 hs hm
def mX8_nextRule : mt_ := (yX8_nextRule, cX8_nextRule, 1, some .int, [], { frames := 5, locals := 109, cells := 0, slots := 0 })
theorem ckX8_nextRule : cokV_ mX8_nextRule := ⟨⟨(uw_mem 1768 (by decide +kernel) (by decide +kernel)), (uw_mem 112 (by decide +kernel) (by decide +kernel)), by decide +kernel, by decide +kernel⟩, (uw_mem 1766 (by decide +kernel) (by decide +kernel)), (uw_mem 1767 (by decide +kernel) (by decide +kernel))⟩
theorem nkX8_nextRule : nok_ mX8_nextRule 0 := by decide +kernel
def fX8_nextRule (s : st_) : Option (st_ × Int32) :=
  bd_ (pt_ s 0 6 (0 : Int32)) fun s1 =>
  bn_ (fX8_ruleNext s1) fun r5 =>
  some (s1, r5)
set_option maxRecDepth 8000 in
theorem kX8_nextRule {E : ev_} {H : Heap} {a : Nat} {s : st_} {r : st_ × Int32} (hm : fX8_nextRule s = some r) (h0 : has_ E H a ly_O s) (hf : ev_fr E a) : sp_ E mX8_nextRule [.ref a] H (po1 (.inl (some (.int r.2))) (fun Hn => sm_ H Hn a 10 ∧ has_ E Hn a ly_O r.1)) := by
  refine sp_of (by decide +kernel) rfl rfl ?_
  generalize hQ : po1 _ _ = Q
  have hs : sm_ H H a 10 := sm_.rfl'
  unfold fX8_nextRule at hm
  refine aw_lv (lv' := [(0, .ref a)]) [0] rfl ?_
  refine aw_b (pc' := 2) (lv' := [(0, .ref a)]) (st' := [.int (0 : Int32), .ref a]) [(0, .aload_n 0, 1, .null), (1, .iconst 0, 1, .int (0 : Int32))] (by decide +kernel) rfl ?_
  obtain ⟨s1, e2, hm⟩ := bd_x hm
  refine aw_pl a 0 h0 eo_O_0 fsq_8_6 fpX8_45 hf rfl rfl e2 (by decide +kernel) (fun H3 h0 z4 => ?_)
  have hs := hs.step z4 (by omega) (by omega)
  refine aw_b (pc' := 6) (lv' := [(0, .ref a)]) (st' := [.ref a]) [(5, .aload_n 0, 1, .null)] (by decide +kernel) rfl ?_
  obtain ⟨r5, e6, hm⟩ := bn_x hm
  refine aw_cv (rest := []) (st1 := [.int r5]) a 0 (kX8_ruleNext e6 h0) rfl rfl ckX8_ruleNext lkX8_329 h0 eo_O_0 ⟨_, _, rfl⟩ nkX8_ruleNext rfl rfl rfl (Nat.le_of_ble_eq_true rfl) (Nat.zero_le _) (Nat.zero_le _) (by decide +kernel) (fun H7 z8 => ?_)
  have h0 := h0.kept0 z8
  have hs := hs.step0 z8
  obtain rfl := Option.some.inj hm
  subst hQ
  exact aw_iret rfl (Nat.zero_le _) (Nat.zero_le _) (by decide +kernel) ⟨rfl, hs, h0⟩
def mX8_served : mt_ := (yX8_served, cX8_served, 3, some .int, [], { frames := 2, locals := 43, cells := 0, slots := 0 })
theorem ckX8_served : cokV_ mX8_served := ⟨⟨(uw_mem 1795 (by decide +kernel) (by decide +kernel)), (uw_mem 112 (by decide +kernel) (by decide +kernel)), by decide +kernel, by decide +kernel⟩, (uw_mem 1793 (by decide +kernel) (by decide +kernel)), (uw_mem 1794 (by decide +kernel) (by decide +kernel))⟩
theorem nkX8_served : nok_ mX8_served 2 := by decide +kernel
theorem kwX8_395 : Cond.constantLong RX8 395 (4 : Int64) ∈ uw_ := (uw_mem 1796 (by decide +kernel) (by decide +kernel))
def fX8_served_j22 (s : st_) (i0 : Int32) (i1 : Int32) (z1_j22 : Int32) : Option (st_ × Int32) :=
  bn_ (fX8_wrong s z1_j22) fun r1 =>
  if r1.2 = (0 : Int32) then (gd_ (ib_ (20 : Int32) 12584) <|
  if (r1.1 1 (ix_ (20 : Int32))) ≤ i0 then (some (r1.1, (-1 : Int32)))
  else (gd_ (ib_ (((448 : Int32) + ((5 : Int32) * i0)) + i1) 12584) <|
  some (r1.1, (r1.1 1 (ix_ (((448 : Int32) + ((5 : Int32) * i0)) + i1))))))
  else (some (r1.1, (0 : Int32)))
def fX8_served_j17 (s : st_) (i0 : Int32) (i1 : Int32) : Option (st_ × Int32) :=
  fX8_served_j22 s i0 i1 (1 : Int32)
def fX8_served (s : st_) (i0 : Int32) (i1 : Int32) : Option (st_ × Int32) :=
  if i0 < (0 : Int32) then (fX8_served_j17 s i0 i1)
  else (bn_ (fX8_in (Int32.toInt64 i1) (0 : Int64) (4 : Int64)) fun r7 =>
  if r7 = (0 : Int32) then (fX8_served_j17 s i0 i1)
  else (fX8_served_j22 s i0 i1 (0 : Int32)))
set_option maxRecDepth 8000 in
theorem kX8_served {E : ev_} {H : Heap} {a : Nat} {s : st_} {i0 : Int32} {i1 : Int32} {r : st_ × Int32} (hm : fX8_served s i0 i1 = some r) (h0 : has_ E H a ly_O s) (hf : ev_fr E a) : sp_ E mX8_served [.ref a, .int i0, .int i1] H (po1 (.inl (some (.int r.2))) (fun Hn => sm_ H Hn a 10 ∧ has_ E Hn a ly_O r.1)) := by
  refine sp_of (by decide +kernel) rfl rfl ?_
  generalize hQ : po1 _ _ = Q
  have hs : sm_ H H a 10 := sm_.rfl'
  unfold fX8_served at hm
  refine aw_lv (lv' := [(0, .ref a), (1, .int i0), (2, .int i1)]) [0, 1, 2] rfl ?_
  refine aw_b (pc' := 2) (lv' := [(0, .ref a), (1, .int i0), (2, .int i1)]) (st' := [.int i0, .ref a]) [(0, .aload_n 0, 1, .null), (1, .iload_n 1, 1, .null)] (by decide +kernel) rfl ?_
  have J22 : ∀ (z1_j22 : Int32) (H_j22 : Heap), has_ E H_j22 a ly_O s → sm_ H H_j22 a 10 → fX8_served_j22 s i0 i1 z1_j22 = some r → aw E mX8_served Q 22 [(0, .ref a), (1, .int i0), (2, .int i1)] [.int z1_j22, .ref a] H_j22 0 0 := by
    intro z1_j22 H_j22 h0 hs hm
    unfold fX8_served_j22 at hm
    obtain ⟨r1, e2, hm⟩ := bn_x hm
    refine aw_cv (rest := []) (st1 := [.int r1.2]) a 0 (kX8_wrong e2 h0 hf) rfl rfl ckX8_wrong lkX8_221 h0 eo_O_0 ⟨_, _, rfl⟩ nkX8_wrong rfl rfl rfl (Nat.le_of_ble_eq_true rfl) (Nat.zero_le _) (Nat.zero_le _) (by decide +kernel) (fun H3 z4 => ?_)
    obtain ⟨z4, hn⟩ := z4
    have h0 := hn
    have hs := hs.step z4 (by omega) (by omega)
    refine aw_if_eq (off := 5) 30 (by decide) (by decide +kernel) (fun hc => ?_) (fun hc => ?_)
    · have hm := (if_pos hc).symm.trans hm
      refine aw_b (pc' := 32) (lv' := [(0, .ref a), (1, .int i0), (2, .int i1)]) (st' := [.ref a, .int i0]) [(30, .iload_n 1, 1, .null), (31, .aload_n 0, 1, .null)] (by decide +kernel) rfl ?_
      refine aw_gl (v := .ref (a + 1)) a 0 h0 eo_O_0 fgX8_9 rfl (by decide +kernel) ?_
      refine aw_b (pc' := 37) (lv' := [(0, .ref a), (1, .int i0), (2, .int i1)]) (st' := [.int (20 : Int32), .ref (a + 1), .int i0]) [(35, .bipush 20, 2, .int (20 : Int32))] (by decide +kernel) rfl ?_
      obtain ⟨g5, hm⟩ := gd_x hm
      refine aw_ial a 1 h0 rfl g5 (by decide +kernel) ?_
      refine aw_ic_ge (off := 20) 58 (by decide) (by decide +kernel) (fun hc => ?_) (fun hc => ?_)
      · have hm := (if_pos hc).symm.trans hm
        refine aw_b (pc' := 59) (lv' := [(0, .ref a), (1, .int i0), (2, .int i1)]) (st' := [.int (-1 : Int32)]) [(58, .iconst (-1), 1, .int (-1 : Int32))] (by decide +kernel) rfl ?_
        obtain rfl := Option.some.inj hm
        subst hQ
        exact aw_iret rfl (Nat.zero_le _) (Nat.zero_le _) (by decide +kernel) ⟨rfl, hs, h0⟩
      · have hm := (if_neg hc).symm.trans hm
        refine aw_b (pc' := 42) (lv' := [(0, .ref a), (1, .int i0), (2, .int i1)]) (st' := [.ref a]) [(41, .aload_n 0, 1, .null)] (by decide +kernel) rfl ?_
        refine aw_gl (v := .ref (a + 1)) a 0 h0 eo_O_0 fgX8_9 rfl (by decide +kernel) ?_
        refine aw_b (pc' := 54) (lv' := [(0, .ref a), (1, .int i0), (2, .int i1)]) (st' := [.int (((448 : Int32) + ((5 : Int32) * i0)) + i1), .ref (a + 1)]) [(45, .sipush 448, 3, .int (448 : Int32)), (48, .iconst 5, 1, .int (5 : Int32)), (49, .iload_n 1, 1, .null), (50, .imul, 1, .null), (51, .iadd, 1, .null), (52, .iload_n 2, 1, .null), (53, .iadd, 1, .null)] (by decide +kernel) rfl ?_
        obtain ⟨g6, hm⟩ := gd_x hm
        refine aw_ial a 1 h0 rfl g6 (by decide +kernel) ?_
        refine aw_b (pc' := 59) (lv' := [(0, .ref a), (1, .int i0), (2, .int i1)]) (st' := [.int (r1.1 1 (ix_ (((448 : Int32) + ((5 : Int32) * i0)) + i1)))]) [(55, .goto 4, 3, .null)] (by decide +kernel) rfl ?_
        obtain rfl := Option.some.inj hm
        subst hQ
        exact aw_iret rfl (Nat.zero_le _) (Nat.zero_le _) (by decide +kernel) ⟨rfl, hs, h0⟩
    · have hm := (if_neg hc).symm.trans hm
      refine aw_b (pc' := 29) (lv' := [(0, .ref a), (1, .int i0), (2, .int i1)]) (st' := [.int (0 : Int32)]) [(28, .iconst 0, 1, .int (0 : Int32))] (by decide +kernel) rfl ?_
      obtain rfl := Option.some.inj hm
      subst hQ
      exact aw_iret rfl (Nat.zero_le _) (Nat.zero_le _) (by decide +kernel) ⟨rfl, hs, h0⟩
  have J17 : ∀ (H_j17 : Heap), has_ E H_j17 a ly_O s → sm_ H H_j17 a 10 → fX8_served_j17 s i0 i1 = some r → aw E mX8_served Q 17 [(0, .ref a), (1, .int i0), (2, .int i1)] [.ref a] H_j17 0 0 := by
    intro H_j17 h0 hs hm
    unfold fX8_served_j17 at hm
    refine aw_b (pc' := 22) (lv' := [(0, .ref a), (1, .int i0), (2, .int i1)]) (st' := [.int (1 : Int32), .ref a]) [(17, .iconst 1, 1, .int (1 : Int32)), (18, .goto 4, 3, .null)] (by decide +kernel) rfl ?_
    exact J22 (1 : Int32) H_j17 h0 hs hm
  refine aw_if_lt (off := 15) 17 (by decide) (by decide +kernel) (fun hc => ?_) (fun hc => ?_)
  · have hm := (if_pos hc).symm.trans hm
    exact J17 H h0 hs hm
  · have hm := (if_neg hc).symm.trans hm
    refine aw_b (pc' := 8) (lv' := [(0, .ref a), (1, .int i0), (2, .int i1)]) (st' := [.long (0 : Int64), .long (Int32.toInt64 i1), .ref a]) [(5, .iload_n 2, 1, .null), (6, .i2l, 1, .null), (7, .lconst 0, 1, .long (0 : Int64))] (by decide +kernel) rfl ?_
    refine aw_ldc2 (v := (4 : Int64)) kwX8_395 (by decide +kernel) ?_
    obtain ⟨r7, e8, hm⟩ := bn_x hm
    refine aw_cs (rest := [.ref a]) (st1 := [.int r7, .ref a]) (kX8_in e8) rfl rfl ckX8_in lkX8_70 nkX8_in rfl rfl rfl (Nat.le_of_ble_eq_true rfl) (Nat.zero_le _) (Nat.zero_le _) (by decide +kernel) (fun H9 z10 => ?_)
    have h0 := h0.kept0 z10
    have hs := hs.step0 z10
    refine aw_if_ne (off := 7) 21 (by decide) (by decide +kernel) (fun hc => ?_) (fun hc => ?_)
    · have hm := (if_neg hc).symm.trans hm
      refine aw_b (pc' := 22) (lv' := [(0, .ref a), (1, .int i0), (2, .int i1)]) (st' := [.int (0 : Int32), .ref a]) [(21, .iconst 0, 1, .int (0 : Int32))] (by decide +kernel) rfl ?_
      exact J22 (0 : Int32) H9 h0 hs hm
    · have hm := (if_pos hc).symm.trans hm
      exact J17 H9 h0 hs hm
def mX8_rounds_ : mt_ := (yX8_rounds_, cX8_rounds_, 1, some .int, [], { frames := 0, locals := 0, cells := 0, slots := 0 })
theorem ckX8_rounds_ : cokV_ mX8_rounds_ := ⟨⟨(uw_mem 1800 (by decide +kernel) (by decide +kernel)), (uw_mem 112 (by decide +kernel) (by decide +kernel)), by decide +kernel, by decide +kernel⟩, (uw_mem 1798 (by decide +kernel) (by decide +kernel)), (uw_mem 1799 (by decide +kernel) (by decide +kernel))⟩
theorem nkX8_rounds_ : nok_ mX8_rounds_ 0 := by decide +kernel
def fX8_rounds_ (s : st_) : Option (st_ × Int32) :=
  bd_ (pt_ s 0 6 (0 : Int32)) fun s1 =>
  gd_ (ib_ (16 : Int32) 12584) <|
  some (s1, (s1 1 (ix_ (16 : Int32))))
set_option maxRecDepth 8000 in
theorem kX8_rounds_ {E : ev_} {H : Heap} {a : Nat} {s : st_} {r : st_ × Int32} (hm : fX8_rounds_ s = some r) (h0 : has_ E H a ly_O s) (hf : ev_fr E a) : sp_ E mX8_rounds_ [.ref a] H (po1 (.inl (some (.int r.2))) (fun Hn => sm_ H Hn a 10 ∧ has_ E Hn a ly_O r.1)) := by
  refine sp_of (by decide +kernel) rfl rfl ?_
  generalize hQ : po1 _ _ = Q
  have hs : sm_ H H a 10 := sm_.rfl'
  unfold fX8_rounds_ at hm
  refine aw_lv (lv' := [(0, .ref a)]) [0] rfl ?_
  refine aw_b (pc' := 2) (lv' := [(0, .ref a)]) (st' := [.int (0 : Int32), .ref a]) [(0, .aload_n 0, 1, .null), (1, .iconst 0, 1, .int (0 : Int32))] (by decide +kernel) rfl ?_
  obtain ⟨s1, e2, hm⟩ := bd_x hm
  refine aw_pl a 0 h0 eo_O_0 fsq_8_6 fpX8_45 hf rfl rfl e2 (by decide +kernel) (fun H3 h0 z4 => ?_)
  have hs := hs.step z4 (by omega) (by omega)
  refine aw_b (pc' := 6) (lv' := [(0, .ref a)]) (st' := [.ref a]) [(5, .aload_n 0, 1, .null)] (by decide +kernel) rfl ?_
  refine aw_gl (v := .ref (a + 1)) a 0 h0 eo_O_0 fgX8_9 rfl (by decide +kernel) ?_
  refine aw_b (pc' := 11) (lv' := [(0, .ref a)]) (st' := [.int (16 : Int32), .ref (a + 1)]) [(9, .bipush 16, 2, .int (16 : Int32))] (by decide +kernel) rfl ?_
  obtain ⟨g5, hm⟩ := gd_x hm
  refine aw_ial a 1 h0 rfl g5 (by decide +kernel) ?_
  obtain rfl := Option.some.inj hm
  subst hQ
  exact aw_iret rfl (Nat.zero_le _) (Nat.zero_le _) (by decide +kernel) ⟨rfl, hs, h0⟩
def mX8_regret : mt_ := (yX8_regret, cX8_regret, 2, some .int, [], { frames := 4, locals := 84, cells := 0, slots := 0 })
theorem ckX8_regret : cokV_ mX8_regret := ⟨⟨(uw_mem 1804 (by decide +kernel) (by decide +kernel)), (uw_mem 112 (by decide +kernel) (by decide +kernel)), by decide +kernel, by decide +kernel⟩, (uw_mem 1802 (by decide +kernel) (by decide +kernel)), (uw_mem 1803 (by decide +kernel) (by decide +kernel))⟩
theorem nkX8_regret : nok_ mX8_regret 1 := by decide +kernel
theorem kwX8_397 : Cond.constant RX8 397 (-2000000000 : Int32) ∈ uw_ := (uw_mem 1809 (by decide +kernel) (by decide +kernel))
def fX8_regret_j18 (s : st_) (i0 : Int32) (z1_j18 : Int32) : Option (st_ × Int32) :=
  bn_ (fX8_wrong s z1_j18) fun r5 =>
  if r5.2 = (0 : Int32) then (if i0 = (0 : Int32) then (bn_ (fX8_regretNow r5.1) fun r9 =>
  some (r5.1, r9))
  else (if i0 = (1 : Int32) then (gd_ (ib_ (11 : Int32) 12584) <|
  if (r5.1 1 (ix_ (11 : Int32))) = (-1 : Int32) then (some (r5.1, (-2000000000 : Int32)))
  else (gd_ (ib_ (16 : Int32) 12584) <|
  bn_ (fX8_boundOf r5.1 (r5.1 1 (ix_ (16 : Int32)))) fun r15 =>
  some (r5.1, r15)))
  else (if i0 = (2 : Int32) then (gd_ (ib_ (17 : Int32) 12584) <|
  some (r5.1, (r5.1 1 (ix_ (17 : Int32)))))
  else (if i0 = (3 : Int32) then (gd_ (ib_ (18 : Int32) 12584) <|
  some (r5.1, (r5.1 1 (ix_ (18 : Int32)))))
  else (gd_ (ib_ (19 : Int32) 12584) <|
  some (r5.1, (r5.1 1 (ix_ (19 : Int32)))))))))
  else (some (r5.1, (0 : Int32)))
def fX8_regret (s : st_) (i0 : Int32) : Option (st_ × Int32) :=
  bn_ (fX8_in (Int32.toInt64 i0) (0 : Int64) (4 : Int64)) fun r1 =>
  if r1 = (0 : Int32) then (fX8_regret_j18 s i0 (1 : Int32))
  else (fX8_regret_j18 s i0 (0 : Int32))
set_option maxRecDepth 8000 in
theorem kX8_regret {E : ev_} {H : Heap} {a : Nat} {s : st_} {i0 : Int32} {r : st_ × Int32} (hm : fX8_regret s i0 = some r) (h0 : has_ E H a ly_O s) (hf : ev_fr E a) : sp_ E mX8_regret [.ref a, .int i0] H (po1 (.inl (some (.int r.2))) (fun Hn => sm_ H Hn a 10 ∧ has_ E Hn a ly_O r.1)) := by
  refine sp_of (by decide +kernel) rfl rfl ?_
  generalize hQ : po1 _ _ = Q
  have hs : sm_ H H a 10 := sm_.rfl'
  unfold fX8_regret at hm
  refine aw_lv (lv' := [(0, .ref a), (1, .int i0)]) [0, 1] rfl ?_
  refine aw_b (pc' := 4) (lv' := [(0, .ref a), (1, .int i0)]) (st' := [.long (0 : Int64), .long (Int32.toInt64 i0), .ref a]) [(0, .aload_n 0, 1, .null), (1, .iload_n 1, 1, .null), (2, .i2l, 1, .null), (3, .lconst 0, 1, .long (0 : Int64))] (by decide +kernel) rfl ?_
  refine aw_ldc2 (v := (4 : Int64)) kwX8_395 (by decide +kernel) ?_
  obtain ⟨r1, e2, hm⟩ := bn_x hm
  refine aw_cs (rest := [.ref a]) (st1 := [.int r1, .ref a]) (kX8_in e2) rfl rfl ckX8_in lkX8_70 nkX8_in rfl rfl rfl (Nat.le_of_ble_eq_true rfl) (Nat.zero_le _) (Nat.zero_le _) (by decide +kernel) (fun H3 z4 => ?_)
  have h0 := h0.kept0 z4
  have hs := hs.step0 z4
  have J18 : ∀ (z1_j18 : Int32) (H_j18 : Heap), has_ E H_j18 a ly_O s → sm_ H H_j18 a 10 → fX8_regret_j18 s i0 z1_j18 = some r → aw E mX8_regret Q 18 [(0, .ref a), (1, .int i0)] [.int z1_j18, .ref a] H_j18 0 0 := by
    intro z1_j18 H_j18 h0 hs hm
    unfold fX8_regret_j18 at hm
    obtain ⟨r5, e6, hm⟩ := bn_x hm
    refine aw_cv (rest := []) (st1 := [.int r5.2]) a 0 (kX8_wrong e6 h0 hf) rfl rfl ckX8_wrong lkX8_221 h0 eo_O_0 ⟨_, _, rfl⟩ nkX8_wrong rfl rfl rfl (Nat.le_of_ble_eq_true rfl) (Nat.zero_le _) (Nat.zero_le _) (by decide +kernel) (fun H7 z8 => ?_)
    obtain ⟨z8, hn⟩ := z8
    have h0 := hn
    have hs := hs.step z8 (by omega) (by omega)
    refine aw_if_eq (off := 5) 26 (by decide) (by decide +kernel) (fun hc => ?_) (fun hc => ?_)
    · have hm := (if_pos hc).symm.trans hm
      refine aw_b (pc' := 27) (lv' := [(0, .ref a), (1, .int i0)]) (st' := [.int i0]) [(26, .iload_n 1, 1, .null)] (by decide +kernel) rfl ?_
      refine aw_ts [((0 : Int32), 56), ((1 : Int32), 61), ((2 : Int32), 90), ((3 : Int32), 98)] 106 (by decide +kernel) ?_
      refine aw_tg (fun hc => ?_) (fun hc => ?_)
      · have hm := (if_pos hc).symm.trans hm
        refine aw_b (pc' := 57) (lv' := [(0, .ref a), (1, .int i0)]) (st' := [.ref a]) [(56, .aload_n 0, 1, .null)] (by decide +kernel) rfl ?_
        obtain ⟨r9, e10, hm⟩ := bn_x hm
        refine aw_cv (rest := []) (st1 := [.int r9]) a 0 (kX8_regretNow e10 h0) rfl rfl ckX8_regretNow lkX8_357 h0 eo_O_0 ⟨_, _, rfl⟩ nkX8_regretNow rfl rfl rfl (Nat.le_of_ble_eq_true rfl) (Nat.zero_le _) (Nat.zero_le _) (by decide +kernel) (fun H11 z12 => ?_)
        have h0 := h0.kept0 z12
        have hs := hs.step0 z12
        obtain rfl := Option.some.inj hm
        subst hQ
        exact aw_iret rfl (Nat.zero_le _) (Nat.zero_le _) (by decide +kernel) ⟨rfl, hs, h0⟩
      · have hm := (if_neg hc).symm.trans hm
        refine aw_tg (fun hc => ?_) (fun hc => ?_)
        · have hm := (if_pos hc).symm.trans hm
          refine aw_b (pc' := 62) (lv' := [(0, .ref a), (1, .int i0)]) (st' := [.ref a]) [(61, .aload_n 0, 1, .null)] (by decide +kernel) rfl ?_
          refine aw_gl (v := .ref (a + 1)) a 0 h0 eo_O_0 fgX8_9 rfl (by decide +kernel) ?_
          refine aw_b (pc' := 67) (lv' := [(0, .ref a), (1, .int i0)]) (st' := [.int (11 : Int32), .ref (a + 1)]) [(65, .bipush 11, 2, .int (11 : Int32))] (by decide +kernel) rfl ?_
          obtain ⟨g13, hm⟩ := gd_x hm
          refine aw_ial a 1 h0 rfl g13 (by decide +kernel) ?_
          refine aw_b (pc' := 69) (lv' := [(0, .ref a), (1, .int i0)]) (st' := [.int (-1 : Int32), .int (r5.1 1 (ix_ (11 : Int32)))]) [(68, .iconst (-1), 1, .int (-1 : Int32))] (by decide +kernel) rfl ?_
          refine aw_ic_ne (off := 9) 78 (by decide) (by decide +kernel) (fun hc => ?_) (fun hc => ?_)
          · have hm := (if_neg hc).symm.trans hm
            refine aw_b (pc' := 80) (lv' := [(0, .ref a), (1, .int i0)]) (st' := [.ref a, .ref a]) [(78, .aload_n 0, 1, .null), (79, .aload_n 0, 1, .null)] (by decide +kernel) rfl ?_
            refine aw_gl (v := .ref (a + 1)) a 0 h0 eo_O_0 fgX8_9 rfl (by decide +kernel) ?_
            refine aw_b (pc' := 85) (lv' := [(0, .ref a), (1, .int i0)]) (st' := [.int (16 : Int32), .ref (a + 1), .ref a]) [(83, .bipush 16, 2, .int (16 : Int32))] (by decide +kernel) rfl ?_
            obtain ⟨g14, hm⟩ := gd_x hm
            refine aw_ial a 1 h0 rfl g14 (by decide +kernel) ?_
            obtain ⟨r15, e16, hm⟩ := bn_x hm
            refine aw_cv (rest := []) (st1 := [.int r15]) a 0 (kX8_boundOf e16 h0) rfl rfl ckX8_boundOf lkX8_360 h0 eo_O_0 ⟨_, _, rfl⟩ nkX8_boundOf rfl rfl rfl (Nat.le_of_ble_eq_true rfl) (Nat.zero_le _) (Nat.zero_le _) (by decide +kernel) (fun H17 z18 => ?_)
            have h0 := h0.kept0 z18
            have hs := hs.step0 z18
            obtain rfl := Option.some.inj hm
            subst hQ
            exact aw_iret rfl (Nat.zero_le _) (Nat.zero_le _) (by decide +kernel) ⟨rfl, hs, h0⟩
          · have hm := (if_pos hc).symm.trans hm
            refine aw_ldcw (v := (-2000000000 : Int32)) kwX8_397 (by decide +kernel) ?_
            refine aw_b (pc' := 89) (lv' := [(0, .ref a), (1, .int i0)]) (st' := [.int (-2000000000 : Int32)]) [(75, .goto 14, 3, .null)] (by decide +kernel) rfl ?_
            obtain rfl := Option.some.inj hm
            subst hQ
            exact aw_iret rfl (Nat.zero_le _) (Nat.zero_le _) (by decide +kernel) ⟨rfl, hs, h0⟩
        · have hm := (if_neg hc).symm.trans hm
          refine aw_tg (fun hc => ?_) (fun hc => ?_)
          · have hm := (if_pos hc).symm.trans hm
            refine aw_b (pc' := 91) (lv' := [(0, .ref a), (1, .int i0)]) (st' := [.ref a]) [(90, .aload_n 0, 1, .null)] (by decide +kernel) rfl ?_
            refine aw_gl (v := .ref (a + 1)) a 0 h0 eo_O_0 fgX8_9 rfl (by decide +kernel) ?_
            refine aw_b (pc' := 96) (lv' := [(0, .ref a), (1, .int i0)]) (st' := [.int (17 : Int32), .ref (a + 1)]) [(94, .bipush 17, 2, .int (17 : Int32))] (by decide +kernel) rfl ?_
            obtain ⟨g19, hm⟩ := gd_x hm
            refine aw_ial a 1 h0 rfl g19 (by decide +kernel) ?_
            obtain rfl := Option.some.inj hm
            subst hQ
            exact aw_iret rfl (Nat.zero_le _) (Nat.zero_le _) (by decide +kernel) ⟨rfl, hs, h0⟩
          · have hm := (if_neg hc).symm.trans hm
            refine aw_tg (fun hc => ?_) (fun hc => ?_)
            · have hm := (if_pos hc).symm.trans hm
              refine aw_b (pc' := 99) (lv' := [(0, .ref a), (1, .int i0)]) (st' := [.ref a]) [(98, .aload_n 0, 1, .null)] (by decide +kernel) rfl ?_
              refine aw_gl (v := .ref (a + 1)) a 0 h0 eo_O_0 fgX8_9 rfl (by decide +kernel) ?_
              refine aw_b (pc' := 104) (lv' := [(0, .ref a), (1, .int i0)]) (st' := [.int (18 : Int32), .ref (a + 1)]) [(102, .bipush 18, 2, .int (18 : Int32))] (by decide +kernel) rfl ?_
              obtain ⟨g20, hm⟩ := gd_x hm
              refine aw_ial a 1 h0 rfl g20 (by decide +kernel) ?_
              obtain rfl := Option.some.inj hm
              subst hQ
              exact aw_iret rfl (Nat.zero_le _) (Nat.zero_le _) (by decide +kernel) ⟨rfl, hs, h0⟩
            · have hm := (if_neg hc).symm.trans hm
              show aw E _ Q 106 _ _ _ _ _
              refine aw_b (pc' := 107) (lv' := [(0, .ref a), (1, .int i0)]) (st' := [.ref a]) [(106, .aload_n 0, 1, .null)] (by decide +kernel) rfl ?_
              refine aw_gl (v := .ref (a + 1)) a 0 h0 eo_O_0 fgX8_9 rfl (by decide +kernel) ?_
              refine aw_b (pc' := 112) (lv' := [(0, .ref a), (1, .int i0)]) (st' := [.int (19 : Int32), .ref (a + 1)]) [(110, .bipush 19, 2, .int (19 : Int32))] (by decide +kernel) rfl ?_
              obtain ⟨g21, hm⟩ := gd_x hm
              refine aw_ial a 1 h0 rfl g21 (by decide +kernel) ?_
              obtain rfl := Option.some.inj hm
              subst hQ
              exact aw_iret rfl (Nat.zero_le _) (Nat.zero_le _) (by decide +kernel) ⟨rfl, hs, h0⟩
    · have hm := (if_neg hc).symm.trans hm
      refine aw_b (pc' := 25) (lv' := [(0, .ref a), (1, .int i0)]) (st' := [.int (0 : Int32)]) [(24, .iconst 0, 1, .int (0 : Int32))] (by decide +kernel) rfl ?_
      obtain rfl := Option.some.inj hm
      subst hQ
      exact aw_iret rfl (Nat.zero_le _) (Nat.zero_le _) (by decide +kernel) ⟨rfl, hs, h0⟩
  refine aw_if_ne (off := 7) 17 (by decide) (by decide +kernel) (fun hc => ?_) (fun hc => ?_)
  · have hm := (if_neg hc).symm.trans hm
    refine aw_b (pc' := 18) (lv' := [(0, .ref a), (1, .int i0)]) (st' := [.int (0 : Int32), .ref a]) [(17, .iconst 0, 1, .int (0 : Int32))] (by decide +kernel) rfl ?_
    exact J18 (0 : Int32) H3 h0 hs hm
  · have hm := (if_pos hc).symm.trans hm
    refine aw_b (pc' := 18) (lv' := [(0, .ref a), (1, .int i0)]) (st' := [.int (1 : Int32), .ref a]) [(13, .iconst 1, 1, .int (1 : Int32)), (14, .goto 4, 3, .null)] (by decide +kernel) rfl ?_
    exact J18 (1 : Int32) H3 h0 hs hm
def mX8_best : mt_ := (yX8_best, cX8_best, 1, some .int, [], { frames := 3, locals := 64, cells := 0, slots := 0 })
theorem ckX8_best : cokV_ mX8_best := ⟨⟨(uw_mem 1820 (by decide +kernel) (by decide +kernel)), (uw_mem 112 (by decide +kernel) (by decide +kernel)), by decide +kernel, by decide +kernel⟩, (uw_mem 1818 (by decide +kernel) (by decide +kernel)), (uw_mem 1819 (by decide +kernel) (by decide +kernel))⟩
theorem nkX8_best : nok_ mX8_best 0 := by decide +kernel
def fX8_best (s : st_) : Option (st_ × Int32) :=
  bd_ (pt_ s 0 6 (0 : Int32)) fun s1 =>
  bn_ (fX8_bestRule s1) fun r5 =>
  some (s1, r5)
set_option maxRecDepth 8000 in
theorem kX8_best {E : ev_} {H : Heap} {a : Nat} {s : st_} {r : st_ × Int32} (hm : fX8_best s = some r) (h0 : has_ E H a ly_O s) (hf : ev_fr E a) : sp_ E mX8_best [.ref a] H (po1 (.inl (some (.int r.2))) (fun Hn => sm_ H Hn a 10 ∧ has_ E Hn a ly_O r.1)) := by
  refine sp_of (by decide +kernel) rfl rfl ?_
  generalize hQ : po1 _ _ = Q
  have hs : sm_ H H a 10 := sm_.rfl'
  unfold fX8_best at hm
  refine aw_lv (lv' := [(0, .ref a)]) [0] rfl ?_
  refine aw_b (pc' := 2) (lv' := [(0, .ref a)]) (st' := [.int (0 : Int32), .ref a]) [(0, .aload_n 0, 1, .null), (1, .iconst 0, 1, .int (0 : Int32))] (by decide +kernel) rfl ?_
  obtain ⟨s1, e2, hm⟩ := bd_x hm
  refine aw_pl a 0 h0 eo_O_0 fsq_8_6 fpX8_45 hf rfl rfl e2 (by decide +kernel) (fun H3 h0 z4 => ?_)
  have hs := hs.step z4 (by omega) (by omega)
  refine aw_b (pc' := 6) (lv' := [(0, .ref a)]) (st' := [.ref a]) [(5, .aload_n 0, 1, .null)] (by decide +kernel) rfl ?_
  obtain ⟨r5, e6, hm⟩ := bn_x hm
  refine aw_cv (rest := []) (st1 := [.int r5]) a 0 (kX8_bestRule e6 h0) rfl rfl ckX8_bestRule lkX8_310 h0 eo_O_0 ⟨_, _, rfl⟩ nkX8_bestRule rfl rfl rfl (Nat.le_of_ble_eq_true rfl) (Nat.zero_le _) (Nat.zero_le _) (by decide +kernel) (fun H7 z8 => ?_)
  have h0 := h0.kept0 z8
  have hs := hs.step0 z8
  obtain rfl := Option.some.inj hm
  subst hQ
  exact aw_iret rfl (Nat.zero_le _) (Nat.zero_le _) (by decide +kernel) ⟨rfl, hs, h0⟩
def mX8_regretTo : mt_ := (yX8_regretTo, cX8_regretTo, 2, some .int, [], { frames := 3, locals := 67, cells := 0, slots := 0 })
theorem ckX8_regretTo : cokV_ mX8_regretTo := ⟨⟨(uw_mem 1824 (by decide +kernel) (by decide +kernel)), (uw_mem 112 (by decide +kernel) (by decide +kernel)), by decide +kernel, by decide +kernel⟩, (uw_mem 1822 (by decide +kernel) (by decide +kernel)), (uw_mem 1823 (by decide +kernel) (by decide +kernel))⟩
theorem nkX8_regretTo : nok_ mX8_regretTo 1 := by decide +kernel
def fX8_regretTo (s : st_) (i0 : Int32) : Option (st_ × Int32) :=
  bn_ (fX8_noRule s i0) fun r1 =>
  if r1.2 = (0 : Int32) then (bn_ (fX8_armOf r1.1 (6 : Int32) (3 : Int32)) fun r5 =>
  bn_ (fX8_armOf r1.1 i0 (3 : Int32)) fun r9 =>
  some (r1.1, (r5 - r9)))
  else (some (r1.1, (0 : Int32)))
set_option maxRecDepth 8000 in
theorem kX8_regretTo {E : ev_} {H : Heap} {a : Nat} {s : st_} {i0 : Int32} {r : st_ × Int32} (hm : fX8_regretTo s i0 = some r) (h0 : has_ E H a ly_O s) (hf : ev_fr E a) : sp_ E mX8_regretTo [.ref a, .int i0] H (po1 (.inl (some (.int r.2))) (fun Hn => sm_ H Hn a 10 ∧ has_ E Hn a ly_O r.1)) := by
  refine sp_of (by decide +kernel) rfl rfl ?_
  generalize hQ : po1 _ _ = Q
  have hs : sm_ H H a 10 := sm_.rfl'
  unfold fX8_regretTo at hm
  refine aw_lv (lv' := [(0, .ref a), (1, .int i0)]) [0, 1] rfl ?_
  refine aw_b (pc' := 2) (lv' := [(0, .ref a), (1, .int i0)]) (st' := [.int i0, .ref a]) [(0, .aload_n 0, 1, .null), (1, .iload_n 1, 1, .null)] (by decide +kernel) rfl ?_
  obtain ⟨r1, e2, hm⟩ := bn_x hm
  refine aw_cv (rest := []) (st1 := [.int r1.2]) a 0 (kX8_noRule e2 h0 hf) rfl rfl ckX8_noRule lkX8_227 h0 eo_O_0 ⟨_, _, rfl⟩ nkX8_noRule rfl rfl rfl (Nat.le_of_ble_eq_true rfl) (Nat.zero_le _) (Nat.zero_le _) (by decide +kernel) (fun H3 z4 => ?_)
  obtain ⟨z4, hn⟩ := z4
  have h0 := hn
  have hs := hs.step z4 (by omega) (by omega)
  refine aw_if_eq (off := 7) 12 (by decide) (by decide +kernel) (fun hc => ?_) (fun hc => ?_)
  · have hm := (if_pos hc).symm.trans hm
    refine aw_b (pc' := 16) (lv' := [(0, .ref a), (1, .int i0)]) (st' := [.int (3 : Int32), .int (6 : Int32), .ref a]) [(12, .aload_n 0, 1, .null), (13, .bipush 6, 2, .int (6 : Int32)), (15, .iconst 3, 1, .int (3 : Int32))] (by decide +kernel) rfl ?_
    obtain ⟨r5, e6, hm⟩ := bn_x hm
    refine aw_cv (rest := []) (st1 := [.int r5]) a 0 (kX8_armOf e6 h0) rfl rfl ckX8_armOf lkX8_232 h0 eo_O_0 ⟨_, _, rfl⟩ nkX8_armOf rfl rfl rfl (Nat.le_of_ble_eq_true rfl) (Nat.zero_le _) (Nat.zero_le _) (by decide +kernel) (fun H7 z8 => ?_)
    have h0 := h0.kept0 z8
    have hs := hs.step0 z8
    refine aw_b (pc' := 22) (lv' := [(0, .ref a), (1, .int i0)]) (st' := [.int (3 : Int32), .int i0, .ref a, .int r5]) [(19, .aload_n 0, 1, .null), (20, .iload_n 1, 1, .null), (21, .iconst 3, 1, .int (3 : Int32))] (by decide +kernel) rfl ?_
    obtain ⟨r9, e10, hm⟩ := bn_x hm
    refine aw_cv (rest := [.int r5]) (st1 := [.int r9, .int r5]) a 0 (kX8_armOf e10 h0) rfl rfl ckX8_armOf lkX8_232 h0 eo_O_0 ⟨_, _, rfl⟩ nkX8_armOf rfl rfl rfl (Nat.le_of_ble_eq_true rfl) (Nat.zero_le _) (Nat.zero_le _) (by decide +kernel) (fun H11 z12 => ?_)
    have h0 := h0.kept0 z12
    have hs := hs.step0 z12
    refine aw_b (pc' := 26) (lv' := [(0, .ref a), (1, .int i0)]) (st' := [.int (r5 - r9)]) [(25, .isub, 1, .null)] (by decide +kernel) rfl ?_
    obtain rfl := Option.some.inj hm
    subst hQ
    exact aw_iret rfl (Nat.zero_le _) (Nat.zero_le _) (by decide +kernel) ⟨rfl, hs, h0⟩
  · have hm := (if_neg hc).symm.trans hm
    refine aw_b (pc' := 26) (lv' := [(0, .ref a), (1, .int i0)]) (st' := [.int (0 : Int32)]) [(8, .iconst 0, 1, .int (0 : Int32)), (9, .goto 17, 3, .null)] (by decide +kernel) rfl ?_
    obtain rfl := Option.some.inj hm
    subst hQ
    exact aw_iret rfl (Nat.zero_le _) (Nat.zero_le _) (by decide +kernel) ⟨rfl, hs, h0⟩
def mX8_isMade : mt_ := (yX8_isMade, cX8_isMade, 2, some .boolean, [], { frames := 1, locals := 25, cells := 0, slots := 0 })
theorem ckX8_isMade : cokV_ mX8_isMade := ⟨⟨(uw_mem 1832 (by decide +kernel) (by decide +kernel)), (uw_mem 112 (by decide +kernel) (by decide +kernel)), by decide +kernel, by decide +kernel⟩, (uw_mem 1831 (by decide +kernel) (by decide +kernel)), (uw_mem 70 (by decide +kernel) (by decide +kernel))⟩
theorem nkX8_isMade : nok_ mX8_isMade 1 := by decide +kernel
def fX8_isMade (s : st_) (i0 : Int32) : Option (Int32) :=
  gd_ (ib_ (16 : Int32) 12584) <|
  bn_ (fX8_in (Int32.toInt64 i0) (0 : Int64) (Int32.toInt64 ((s 1 (ix_ (16 : Int32))) - (1 : Int32)))) fun r2 =>
  gd_ (bz_ r2) <|
  some r2
set_option maxRecDepth 8000 in
theorem kX8_isMade {E : ev_} {H : Heap} {a : Nat} {s : st_} {i0 : Int32} {r : Int32} (hm : fX8_isMade s i0 = some r) (h0 : has_ E H a ly_O s) : sp_ E mX8_isMade [.ref a, .int i0] H (po1 (.inl (some (.int r))) (fun Hn => sm_ H Hn 0 0)) := by
  refine sp_of (by decide +kernel) rfl rfl ?_
  generalize hQ : po1 _ _ = Q
  have hs : sm_ H H 0 0 := sm_.rfl'
  unfold fX8_isMade at hm
  refine aw_lv (lv' := [(0, .ref a), (1, .int i0)]) [0, 1] rfl ?_
  refine aw_b (pc' := 4) (lv' := [(0, .ref a), (1, .int i0)]) (st' := [.ref a, .long (0 : Int64), .long (Int32.toInt64 i0)]) [(0, .iload_n 1, 1, .null), (1, .i2l, 1, .null), (2, .lconst 0, 1, .long (0 : Int64)), (3, .aload_n 0, 1, .null)] (by decide +kernel) rfl ?_
  refine aw_gl (v := .ref (a + 1)) a 0 h0 eo_O_0 fgX8_9 rfl (by decide +kernel) ?_
  refine aw_b (pc' := 9) (lv' := [(0, .ref a), (1, .int i0)]) (st' := [.int (16 : Int32), .ref (a + 1), .long (0 : Int64), .long (Int32.toInt64 i0)]) [(7, .bipush 16, 2, .int (16 : Int32))] (by decide +kernel) rfl ?_
  obtain ⟨g1, hm⟩ := gd_x hm
  refine aw_ial a 1 h0 rfl g1 (by decide +kernel) ?_
  refine aw_b (pc' := 13) (lv' := [(0, .ref a), (1, .int i0)]) (st' := [.long (Int32.toInt64 ((s 1 (ix_ (16 : Int32))) - (1 : Int32))), .long (0 : Int64), .long (Int32.toInt64 i0)]) [(10, .iconst 1, 1, .int (1 : Int32)), (11, .isub, 1, .null), (12, .i2l, 1, .null)] (by decide +kernel) rfl ?_
  obtain ⟨r2, e3, hm⟩ := bn_x hm
  refine aw_cs (rest := []) (st1 := [.int r2]) (kX8_in e3) rfl rfl ckX8_in lkX8_70 nkX8_in rfl rfl rfl (Nat.le_of_ble_eq_true rfl) (Nat.zero_le _) (Nat.zero_le _) (by decide +kernel) (fun H4 z5 => ?_)
  have h0 := h0.kept0 z5
  have hs := hs.step0 z5
  obtain ⟨g6, hm⟩ := gd_x hm
  obtain rfl := Option.some.inj hm
  subst hQ
  exact aw_zret rfl (bz_n g6) (Nat.zero_le _) (Nat.zero_le _) (by decide +kernel) ⟨rfl, hs⟩
def mX8_costIn1 : mt_ := (yX8_costIn1, cX8_costIn1, 3, some .int, [], { frames := 0, locals := 0, cells := 0, slots := 0 })
theorem ckX8_costIn1 : cokV_ mX8_costIn1 := ⟨⟨(uw_mem 1836 (by decide +kernel) (by decide +kernel)), (uw_mem 112 (by decide +kernel) (by decide +kernel)), by decide +kernel, by decide +kernel⟩, (uw_mem 1835 (by decide +kernel) (by decide +kernel)), (uw_mem 71 (by decide +kernel) (by decide +kernel))⟩
theorem nkX8_costIn1 : nok_ mX8_costIn1 2 := by decide +kernel
def fX8_costIn1 (s : st_) (i0 : Int32) (i1 : Int32) : Option (Int32) :=
  gd_ (ib_ (((2948 : Int32) + ((1200 : Int32) * i0)) + i1) 12584) <|
  some (s 1 (ix_ (((2948 : Int32) + ((1200 : Int32) * i0)) + i1)))
set_option maxRecDepth 8000 in
theorem kX8_costIn1 {E : ev_} {H : Heap} {a : Nat} {s : st_} {i0 : Int32} {i1 : Int32} {r : Int32} (hm : fX8_costIn1 s i0 i1 = some r) (h0 : has_ E H a ly_O s) : sp_ E mX8_costIn1 [.ref a, .int i0, .int i1] H (po1 (.inl (some (.int r))) (fun Hn => sm_ H Hn 0 0)) := by
  refine sp_of (by decide +kernel) rfl rfl ?_
  generalize hQ : po1 _ _ = Q
  have hs : sm_ H H 0 0 := sm_.rfl'
  unfold fX8_costIn1 at hm
  refine aw_lv (lv' := [(0, .ref a), (1, .int i0), (2, .int i1)]) [0, 1, 2] rfl ?_
  refine aw_b (pc' := 1) (lv' := [(0, .ref a), (1, .int i0), (2, .int i1)]) (st' := [.ref a]) [(0, .aload_n 0, 1, .null)] (by decide +kernel) rfl ?_
  refine aw_gl (v := .ref (a + 1)) a 0 h0 eo_O_0 fgX8_9 rfl (by decide +kernel) ?_
  refine aw_b (pc' := 15) (lv' := [(0, .ref a), (1, .int i0), (2, .int i1)]) (st' := [.int (((2948 : Int32) + ((1200 : Int32) * i0)) + i1), .ref (a + 1)]) [(4, .sipush 2948, 3, .int (2948 : Int32)), (7, .sipush 1200, 3, .int (1200 : Int32)), (10, .iload_n 1, 1, .null), (11, .imul, 1, .null), (12, .iadd, 1, .null), (13, .iload_n 2, 1, .null), (14, .iadd, 1, .null)] (by decide +kernel) rfl ?_
  obtain ⟨g1, hm⟩ := gd_x hm
  refine aw_ial a 1 h0 rfl g1 (by decide +kernel) ?_
  obtain rfl := Option.some.inj hm
  subst hQ
  exact aw_iret rfl (Nat.zero_le _) (Nat.zero_le _) (by decide +kernel) ⟨rfl, hs⟩
def mX8_cost : mt_ := (yX8_cost, cX8_cost, 3, some .int, [], { frames := 3, locals := 67, cells := 0, slots := 0 })
theorem ckX8_cost : cokV_ mX8_cost := ⟨⟨(uw_mem 1828 (by decide +kernel) (by decide +kernel)), (uw_mem 112 (by decide +kernel) (by decide +kernel)), by decide +kernel, by decide +kernel⟩, (uw_mem 1826 (by decide +kernel) (by decide +kernel)), (uw_mem 1827 (by decide +kernel) (by decide +kernel))⟩
theorem nkX8_cost : nok_ mX8_cost 2 := by decide +kernel
theorem lkX8_398 : Cond.methodLink RX8 398 yX8_isMade ∈ uw_ := (uw_mem 1829 (by decide +kernel) (by decide +kernel))
theorem lkX8_401 : Cond.methodLink RX8 401 yX8_costIn1 ∈ uw_ := (uw_mem 1833 (by decide +kernel) (by decide +kernel))
def fX8_cost (s : st_) (i0 : Int32) (i1 : Int32) : Option (st_ × Int32) :=
  bn_ (fX8_noArm s i0) fun r1 =>
  if r1.2 = (0 : Int32) then (bn_ (fX8_isMade r1.1 i1) fun r5 =>
  if r5 = (0 : Int32) then (some (r1.1, (-2000000000 : Int32)))
  else (bn_ (fX8_told i0) fun r9 =>
  bn_ (fX8_costIn1 r1.1 r9 i1) fun r13 =>
  some (r1.1, r13)))
  else (some (r1.1, (0 : Int32)))
set_option maxRecDepth 8000 in
theorem kX8_cost {E : ev_} {H : Heap} {a : Nat} {s : st_} {i0 : Int32} {i1 : Int32} {r : st_ × Int32} (hm : fX8_cost s i0 i1 = some r) (h0 : has_ E H a ly_O s) (hf : ev_fr E a) : sp_ E mX8_cost [.ref a, .int i0, .int i1] H (po1 (.inl (some (.int r.2))) (fun Hn => sm_ H Hn a 10 ∧ has_ E Hn a ly_O r.1)) := by
  refine sp_of (by decide +kernel) rfl rfl ?_
  generalize hQ : po1 _ _ = Q
  have hs : sm_ H H a 10 := sm_.rfl'
  unfold fX8_cost at hm
  refine aw_lv (lv' := [(0, .ref a), (1, .int i0), (2, .int i1)]) [0, 1, 2] rfl ?_
  refine aw_b (pc' := 2) (lv' := [(0, .ref a), (1, .int i0), (2, .int i1)]) (st' := [.int i0, .ref a]) [(0, .aload_n 0, 1, .null), (1, .iload_n 1, 1, .null)] (by decide +kernel) rfl ?_
  obtain ⟨r1, e2, hm⟩ := bn_x hm
  refine aw_cv (rest := []) (st1 := [.int r1.2]) a 0 (kX8_noArm e2 h0 hf) rfl rfl ckX8_noArm lkX8_387 h0 eo_O_0 ⟨_, _, rfl⟩ nkX8_noArm rfl rfl rfl (Nat.le_of_ble_eq_true rfl) (Nat.zero_le _) (Nat.zero_le _) (by decide +kernel) (fun H3 z4 => ?_)
  obtain ⟨z4, hn⟩ := z4
  have h0 := hn
  have hs := hs.step z4 (by omega) (by omega)
  refine aw_if_eq (off := 5) 10 (by decide) (by decide +kernel) (fun hc => ?_) (fun hc => ?_)
  · have hm := (if_pos hc).symm.trans hm
    refine aw_b (pc' := 12) (lv' := [(0, .ref a), (1, .int i0), (2, .int i1)]) (st' := [.int i1, .ref a]) [(10, .aload_n 0, 1, .null), (11, .iload_n 2, 1, .null)] (by decide +kernel) rfl ?_
    obtain ⟨r5, e6, hm⟩ := bn_x hm
    refine aw_cv (rest := []) (st1 := [.int r5]) a 0 (kX8_isMade e6 h0) rfl rfl ckX8_isMade lkX8_398 h0 eo_O_0 ⟨_, _, rfl⟩ nkX8_isMade rfl rfl rfl (Nat.le_of_ble_eq_true rfl) (Nat.zero_le _) (Nat.zero_le _) (by decide +kernel) (fun H7 z8 => ?_)
    have h0 := h0.kept0 z8
    have hs := hs.step0 z8
    refine aw_if_eq (off := 15) 30 (by decide) (by decide +kernel) (fun hc => ?_) (fun hc => ?_)
    · have hm := (if_pos hc).symm.trans hm
      refine aw_ldcw (v := (-2000000000 : Int32)) kwX8_397 (by decide +kernel) ?_
      obtain rfl := Option.some.inj hm
      subst hQ
      exact aw_iret rfl (Nat.zero_le _) (Nat.zero_le _) (by decide +kernel) ⟨rfl, hs, h0⟩
    · have hm := (if_neg hc).symm.trans hm
      refine aw_b (pc' := 20) (lv' := [(0, .ref a), (1, .int i0), (2, .int i1)]) (st' := [.int i0, .ref a]) [(18, .aload_n 0, 1, .null), (19, .iload_n 1, 1, .null)] (by decide +kernel) rfl ?_
      obtain ⟨r9, e10, hm⟩ := bn_x hm
      refine aw_cs (rest := [.ref a]) (st1 := [.int r9, .ref a]) (kX8_told e10) rfl rfl ckX8_told lkX8_392 nkX8_told rfl rfl rfl (Nat.le_of_ble_eq_true rfl) (Nat.zero_le _) (Nat.zero_le _) (by decide +kernel) (fun H11 z12 => ?_)
      have h0 := h0.kept0 z12
      have hs := hs.step0 z12
      refine aw_b (pc' := 24) (lv' := [(0, .ref a), (1, .int i0), (2, .int i1)]) (st' := [.int i1, .int r9, .ref a]) [(23, .iload_n 2, 1, .null)] (by decide +kernel) rfl ?_
      obtain ⟨r13, e14, hm⟩ := bn_x hm
      refine aw_cv (rest := []) (st1 := [.int r13]) a 0 (kX8_costIn1 e14 h0) rfl rfl ckX8_costIn1 lkX8_401 h0 eo_O_0 ⟨_, _, rfl⟩ nkX8_costIn1 rfl rfl rfl (Nat.le_of_ble_eq_true rfl) (Nat.zero_le _) (Nat.zero_le _) (by decide +kernel) (fun H15 z16 => ?_)
      have h0 := h0.kept0 z16
      have hs := hs.step0 z16
      refine aw_b (pc' := 33) (lv' := [(0, .ref a), (1, .int i0), (2, .int i1)]) (st' := [.int r13]) [(27, .goto 6, 3, .null)] (by decide +kernel) rfl ?_
      obtain rfl := Option.some.inj hm
      subst hQ
      exact aw_iret rfl (Nat.zero_le _) (Nat.zero_le _) (by decide +kernel) ⟨rfl, hs, h0⟩
  · have hm := (if_neg hc).symm.trans hm
    refine aw_b (pc' := 9) (lv' := [(0, .ref a), (1, .int i0), (2, .int i1)]) (st' := [.int (0 : Int32)]) [(8, .iconst 0, 1, .int (0 : Int32))] (by decide +kernel) rfl ?_
    obtain rfl := Option.some.inj hm
    subst hQ
    exact aw_iret rfl (Nat.zero_le _) (Nat.zero_le _) (by decide +kernel) ⟨rfl, hs, h0⟩
def mX8_taken : mt_ := (yX8_taken, cX8_taken, 2, some .int, [], { frames := 2, locals := 46, cells := 0, slots := 0 })
theorem ckX8_taken : cokV_ mX8_taken := ⟨⟨(uw_mem 1840 (by decide +kernel) (by decide +kernel)), (uw_mem 112 (by decide +kernel) (by decide +kernel)), by decide +kernel, by decide +kernel⟩, (uw_mem 1838 (by decide +kernel) (by decide +kernel)), (uw_mem 1839 (by decide +kernel) (by decide +kernel))⟩
theorem nkX8_taken : nok_ mX8_taken 1 := by decide +kernel
def fX8_taken (s : st_) (i0 : Int32) : Option (st_ × Int32) :=
  bd_ (pt_ s 0 6 (0 : Int32)) fun s1 =>
  bn_ (fX8_isMade s1 i0) fun r5 =>
  if r5 = (0 : Int32) then (some (s1, (-1 : Int32)))
  else (gd_ (ib_ ((548 : Int32) + i0) 12584) <|
  some (s1, (s1 1 (ix_ ((548 : Int32) + i0)))))
set_option maxRecDepth 8000 in
theorem kX8_taken {E : ev_} {H : Heap} {a : Nat} {s : st_} {i0 : Int32} {r : st_ × Int32} (hm : fX8_taken s i0 = some r) (h0 : has_ E H a ly_O s) (hf : ev_fr E a) : sp_ E mX8_taken [.ref a, .int i0] H (po1 (.inl (some (.int r.2))) (fun Hn => sm_ H Hn a 10 ∧ has_ E Hn a ly_O r.1)) := by
  refine sp_of (by decide +kernel) rfl rfl ?_
  generalize hQ : po1 _ _ = Q
  have hs : sm_ H H a 10 := sm_.rfl'
  unfold fX8_taken at hm
  refine aw_lv (lv' := [(0, .ref a), (1, .int i0)]) [0, 1] rfl ?_
  refine aw_b (pc' := 2) (lv' := [(0, .ref a), (1, .int i0)]) (st' := [.int (0 : Int32), .ref a]) [(0, .aload_n 0, 1, .null), (1, .iconst 0, 1, .int (0 : Int32))] (by decide +kernel) rfl ?_
  obtain ⟨s1, e2, hm⟩ := bd_x hm
  refine aw_pl a 0 h0 eo_O_0 fsq_8_6 fpX8_45 hf rfl rfl e2 (by decide +kernel) (fun H3 h0 z4 => ?_)
  have hs := hs.step z4 (by omega) (by omega)
  refine aw_b (pc' := 7) (lv' := [(0, .ref a), (1, .int i0)]) (st' := [.int i0, .ref a]) [(5, .aload_n 0, 1, .null), (6, .iload_n 1, 1, .null)] (by decide +kernel) rfl ?_
  obtain ⟨r5, e6, hm⟩ := bn_x hm
  refine aw_cv (rest := []) (st1 := [.int r5]) a 0 (kX8_isMade e6 h0) rfl rfl ckX8_isMade lkX8_398 h0 eo_O_0 ⟨_, _, rfl⟩ nkX8_isMade rfl rfl rfl (Nat.le_of_ble_eq_true rfl) (Nat.zero_le _) (Nat.zero_le _) (by decide +kernel) (fun H7 z8 => ?_)
  have h0 := h0.kept0 z8
  have hs := hs.step0 z8
  refine aw_if_eq (off := 16) 26 (by decide) (by decide +kernel) (fun hc => ?_) (fun hc => ?_)
  · have hm := (if_pos hc).symm.trans hm
    refine aw_b (pc' := 27) (lv' := [(0, .ref a), (1, .int i0)]) (st' := [.int (-1 : Int32)]) [(26, .iconst (-1), 1, .int (-1 : Int32))] (by decide +kernel) rfl ?_
    obtain rfl := Option.some.inj hm
    subst hQ
    exact aw_iret rfl (Nat.zero_le _) (Nat.zero_le _) (by decide +kernel) ⟨rfl, hs, h0⟩
  · have hm := (if_neg hc).symm.trans hm
    refine aw_b (pc' := 14) (lv' := [(0, .ref a), (1, .int i0)]) (st' := [.ref a]) [(13, .aload_n 0, 1, .null)] (by decide +kernel) rfl ?_
    refine aw_gl (v := .ref (a + 1)) a 0 h0 eo_O_0 fgX8_9 rfl (by decide +kernel) ?_
    refine aw_b (pc' := 22) (lv' := [(0, .ref a), (1, .int i0)]) (st' := [.int ((548 : Int32) + i0), .ref (a + 1)]) [(17, .sipush 548, 3, .int (548 : Int32)), (20, .iload_n 1, 1, .null), (21, .iadd, 1, .null)] (by decide +kernel) rfl ?_
    obtain ⟨g9, hm⟩ := gd_x hm
    refine aw_ial a 1 h0 rfl g9 (by decide +kernel) ?_
    refine aw_b (pc' := 27) (lv' := [(0, .ref a), (1, .int i0)]) (st' := [.int (s1 1 (ix_ ((548 : Int32) + i0)))]) [(23, .goto 4, 3, .null)] (by decide +kernel) rfl ?_
    obtain rfl := Option.some.inj hm
    subst hQ
    exact aw_iret rfl (Nat.zero_le _) (Nat.zero_le _) (by decide +kernel) ⟨rfl, hs, h0⟩
def mX8_bestOf : mt_ := (yX8_bestOf, cX8_bestOf, 6, some .int, [], { frames := 2, locals := 42, cells := 0, slots := 0 })
theorem ckX8_bestOf : cokV_ mX8_bestOf := ⟨⟨(uw_mem 1849 (by decide +kernel) (by decide +kernel)), (uw_mem 112 (by decide +kernel) (by decide +kernel)), by decide +kernel, by decide +kernel⟩, (uw_mem 1848 (by decide +kernel) (by decide +kernel)), (uw_mem 72 (by decide +kernel) (by decide +kernel))⟩
theorem nkX8_bestOf : nok_ mX8_bestOf 1 := by decide +kernel
theorem fgX8_32 : fok_ RX8 32 8 16 := ⟨_, _, _, rfl, by decide, (uw_mem 1451 (by decide +kernel) (by decide +kernel)), wkX8⟩
def fX8_bestOf_x4_73 (v2_x4_73 : Int32) : Option (Int32) :=
  some v2_x4_73
def fX8_bestOf_k4 (x : Int32) : Option (Int32) :=
  fX8_bestOf_x4_73 x
def fX8_bestOf_j66 (v3_b4 : Int32) (z0_j66 : Int32) : Option ((Int32 × Int32) ⊕ (Int32)) :=
  some (.inl (z0_j66, (v3_b4 + (1 : Int32))))
def fX8_bestOf_j58 (v2_b4 : Int32) (v3_b4 : Int32) (z0_j58 : Int32) : Option ((Int32 × Int32) ⊕ (Int32)) :=
  if (0 : Int32) ≤ z0_j58 then (fX8_bestOf_j66 v3_b4 v2_b4)
  else (fX8_bestOf_j66 v3_b4 v3_b4)
def fX8_bestOf_b4 (s : st_) (i0 : Int32) (v2_b4 : Int32) (v3_b4 : Int32) : Option ((Int32 × Int32) ⊕ (Int32)) :=
  gd_ (ib_ (4 : Int32) 12584) <|
  if (s 1 (ix_ (4 : Int32))) ≤ v3_b4 then (some (.inr v2_b4))
  else (gd_ (ib_ v3_b4 6) <|
  gd_ (ib_ v2_b4 6) <|
  bn_ (fX8_armOf s v3_b4 (3 : Int32)) fun r4 =>
  bn_ (fX8_armOf s v2_b4 (3 : Int32)) fun r8 =>
  if i0 = (0 : Int32) then (fX8_bestOf_j58 v2_b4 v3_b4 ((r4 - r8) - ((s 8 (ix_ v3_b4)) - (s 8 (ix_ v2_b4)))))
  else (fX8_bestOf_j58 v2_b4 v3_b4 ((s 8 (ix_ v3_b4)) - (s 8 (ix_ v2_b4)))))
def fX8_bestOf_l4 (s : st_) (i0 : Int32) : Nat → (Int32 × Int32) → Option (Int32) :=
  it_ (fun v => fX8_bestOf_b4 s i0 v.1 v.2)
def fX8_bestOf (s : st_) (i0 : Int32) : Option (Int32) :=
  bn_ (fX8_bestOf_l4 s i0 FU_ ((0 : Int32), (1 : Int32))) (fX8_bestOf_k4)
set_option maxRecDepth 8000 in
theorem kX8_bestOf {E : ev_} {H : Heap} {a : Nat} {s : st_} {i0 : Int32} {r : Int32} (hm : fX8_bestOf s i0 = some r) (h0 : has_ E H a ly_O s) : sp_ E mX8_bestOf [.ref a, .int i0] H (po1 (.inl (some (.int r))) (fun Hn => sm_ H Hn 0 0)) := by
  refine sp_of (by decide +kernel) rfl rfl ?_
  generalize hQ : po1 _ _ = Q
  have hs : sm_ H H 0 0 := sm_.rfl'
  unfold fX8_bestOf at hm
  refine aw_lv (lv' := [(0, .ref a), (1, .int i0)]) [0, 1] rfl ?_
  refine aw_b (pc' := 4) (lv' := [(3, .int (1 : Int32)), (2, .int (0 : Int32)), (0, .ref a), (1, .int i0)]) (st' := []) [(0, .iconst 0, 1, .int (0 : Int32)), (1, .istore_n 2, 1, .null), (2, .iconst 1, 1, .int (1 : Int32)), (3, .istore_n 3, 1, .null)] (by decide +kernel) rfl ?_
  obtain ⟨x4, hx4, hr4⟩ := bn_x hm
  have X4_73 : ∀ (v2_x4_73 : Int32) (H_x4_73 : Heap), has_ E H_x4_73 a ly_O s → sm_ H H_x4_73 0 0 → fX8_bestOf_x4_73 v2_x4_73 = some r → aw E mX8_bestOf Q 73 [(2, .int v2_x4_73)] [] H_x4_73 0 0 := by
    intro v2_x4_73 H_x4_73 h0 hs hm
    unfold fX8_bestOf_x4_73 at hm
    refine aw_b (pc' := 74) (lv' := [(2, .int v2_x4_73)]) (st' := [.int v2_x4_73]) [(73, .iload_n 2, 1, .null)] (by decide +kernel) rfl ?_
    obtain rfl := Option.some.inj hm
    subst hQ
    exact aw_iret rfl (Nat.zero_le _) (Nat.zero_le _) (by decide +kernel) ⟨rfl, hs⟩
  have L4 : ∀ (fu : Nat) (v2_b4 : Int32) (v3_b4 : Int32) (H_b4 : Heap), has_ E H_b4 a ly_O s → sm_ H H_b4 0 0 → fX8_bestOf_l4 s i0 fu (v2_b4, v3_b4) = some x4 → aw E mX8_bestOf Q 4 [(0, .ref a), (1, .int i0), (2, .int v2_b4), (3, .int v3_b4)] [] H_b4 0 0 := by
    intro fu
    induction fu with
    | zero =>
      intro v2_b4 v3_b4 H_b4 h0 hs hm
      exact (it_0 hm).elim
    | succ fu ih4 =>
      intro v2_b4 v3_b4 H_b4 h0 hs hm
      obtain ⟨y4, hm, hk4⟩ := it_s hm
      have hm : fX8_bestOf_b4 s i0 v2_b4 v3_b4 = some y4 := hm
      unfold fX8_bestOf_b4 at hm
      refine aw_b (pc' := 6) (lv' := [(0, .ref a), (1, .int i0), (2, .int v2_b4), (3, .int v3_b4)]) (st' := [.ref a, .int v3_b4]) [(4, .iload_n 3, 1, .null), (5, .aload_n 0, 1, .null)] (by decide +kernel) rfl ?_
      refine aw_gl (v := .ref (a + 1)) a 0 h0 eo_O_0 fgX8_9 rfl (by decide +kernel) ?_
      refine aw_b (pc' := 10) (lv' := [(0, .ref a), (1, .int i0), (2, .int v2_b4), (3, .int v3_b4)]) (st' := [.int (4 : Int32), .ref (a + 1), .int v3_b4]) [(9, .iconst 4, 1, .int (4 : Int32))] (by decide +kernel) rfl ?_
      obtain ⟨g1, hm⟩ := gd_x hm
      refine aw_ial a 1 h0 rfl g1 (by decide +kernel) ?_
      refine aw_ic_ge (off := 62) 73 (by decide) (by decide +kernel) (fun hc => ?_) (fun hc => ?_)
      · have hm := (if_pos hc).symm.trans hm
        cases hm
        refine aw_lv (lv' := [(2, .int v2_b4)]) [2] rfl ?_
        exact X4_73 v2_b4 H_b4 h0 hs ((congrArg fX8_bestOf_k4 (show (v2_b4) = x4 from hk4)).trans hr4)
      · have hm := (if_neg hc).symm.trans hm
        refine aw_b (pc' := 15) (lv' := [(0, .ref a), (1, .int i0), (2, .int v2_b4), (3, .int v3_b4)]) (st' := [.ref a]) [(14, .aload_n 0, 1, .null)] (by decide +kernel) rfl ?_
        refine aw_gl (v := .ref (a + 8)) a 0 h0 eo_O_0 fgX8_32 rfl (by decide +kernel) ?_
        refine aw_b (pc' := 19) (lv' := [(0, .ref a), (1, .int i0), (2, .int v2_b4), (3, .int v3_b4)]) (st' := [.int v3_b4, .ref (a + 8)]) [(18, .iload_n 3, 1, .null)] (by decide +kernel) rfl ?_
        obtain ⟨g2, hm⟩ := gd_x hm
        refine aw_ial a 8 h0 rfl g2 (by decide +kernel) ?_
        refine aw_b (pc' := 21) (lv' := [(0, .ref a), (1, .int i0), (2, .int v2_b4), (3, .int v3_b4)]) (st' := [.ref a, .int (s 8 (ix_ v3_b4))]) [(20, .aload_n 0, 1, .null)] (by decide +kernel) rfl ?_
        refine aw_gl (v := .ref (a + 8)) a 0 h0 eo_O_0 fgX8_32 rfl (by decide +kernel) ?_
        refine aw_b (pc' := 25) (lv' := [(0, .ref a), (1, .int i0), (2, .int v2_b4), (3, .int v3_b4)]) (st' := [.int v2_b4, .ref (a + 8), .int (s 8 (ix_ v3_b4))]) [(24, .iload_n 2, 1, .null)] (by decide +kernel) rfl ?_
        obtain ⟨g3, hm⟩ := gd_x hm
        refine aw_ial a 8 h0 rfl g3 (by decide +kernel) ?_
        refine aw_b (pc' := 32) (lv' := [(4, .int ((s 8 (ix_ v3_b4)) - (s 8 (ix_ v2_b4)))), (0, .ref a), (1, .int i0), (2, .int v2_b4), (3, .int v3_b4)]) (st' := [.int (3 : Int32), .int v3_b4, .ref a]) [(26, .isub, 1, .null), (27, .istore 4, 2, .null), (29, .aload_n 0, 1, .null), (30, .iload_n 3, 1, .null), (31, .iconst 3, 1, .int (3 : Int32))] (by decide +kernel) rfl ?_
        obtain ⟨r4, e5, hm⟩ := bn_x hm
        refine aw_cv (rest := []) (st1 := [.int r4]) a 0 (kX8_armOf e5 h0) rfl rfl ckX8_armOf lkX8_232 h0 eo_O_0 ⟨_, _, rfl⟩ nkX8_armOf rfl rfl rfl (Nat.le_of_ble_eq_true rfl) (Nat.zero_le _) (Nat.zero_le _) (by decide +kernel) (fun H6 z7 => ?_)
        have h0 := h0.kept0 z7
        have hs := hs.step0 z7
        refine aw_b (pc' := 38) (lv' := [(4, .int ((s 8 (ix_ v3_b4)) - (s 8 (ix_ v2_b4)))), (0, .ref a), (1, .int i0), (2, .int v2_b4), (3, .int v3_b4)]) (st' := [.int (3 : Int32), .int v2_b4, .ref a, .int r4]) [(35, .aload_n 0, 1, .null), (36, .iload_n 2, 1, .null), (37, .iconst 3, 1, .int (3 : Int32))] (by decide +kernel) rfl ?_
        obtain ⟨r8, e9, hm⟩ := bn_x hm
        refine aw_cv (rest := [.int r4]) (st1 := [.int r8, .int r4]) a 0 (kX8_armOf e9 h0) rfl rfl ckX8_armOf lkX8_232 h0 eo_O_0 ⟨_, _, rfl⟩ nkX8_armOf rfl rfl rfl (Nat.le_of_ble_eq_true rfl) (Nat.zero_le _) (Nat.zero_le _) (by decide +kernel) (fun H10 z11 => ?_)
        have h0 := h0.kept0 z11
        have hs := hs.step0 z11
        refine aw_b (pc' := 48) (lv' := [(5, .int ((r4 - r8) - ((s 8 (ix_ v3_b4)) - (s 8 (ix_ v2_b4))))), (4, .int ((s 8 (ix_ v3_b4)) - (s 8 (ix_ v2_b4)))), (0, .ref a), (1, .int i0), (2, .int v2_b4), (3, .int v3_b4)]) (st' := [.int i0]) [(41, .isub, 1, .null), (42, .iload 4, 2, .null), (44, .isub, 1, .null), (45, .istore 5, 2, .null), (47, .iload_n 1, 1, .null)] (by decide +kernel) rfl ?_
        have J58 : ∀ (z0_j58 : Int32) (H_j58 : Heap), has_ E H_j58 a ly_O s → sm_ H H_j58 0 0 → fX8_bestOf_j58 v2_b4 v3_b4 z0_j58 = some y4 → aw E mX8_bestOf Q 58 [(0, .ref a), (1, .int i0), (2, .int v2_b4), (3, .int v3_b4)] [.int z0_j58] H_j58 0 0 := by
          intro z0_j58 H_j58 h0 hs hm
          unfold fX8_bestOf_j58 at hm
          have J66 : ∀ (z0_j66 : Int32) (H_j66 : Heap), has_ E H_j66 a ly_O s → sm_ H H_j66 0 0 → fX8_bestOf_j66 v3_b4 z0_j66 = some y4 → aw E mX8_bestOf Q 66 [(0, .ref a), (1, .int i0), (3, .int v3_b4)] [.int z0_j66] H_j66 0 0 := by
            intro z0_j66 H_j66 h0 hs hm
            unfold fX8_bestOf_j66 at hm
            refine aw_b (pc' := 4) (lv' := [(3, .int (v3_b4 + (1 : Int32))), (2, .int z0_j66), (0, .ref a), (1, .int i0)]) (st' := []) [(66, .istore_n 2, 1, .null), (67, .iinc 3 1, 3, .int (1 : Int32)), (70, .goto (-66), 3, .null)] (by decide +kernel) rfl ?_
            cases hm
            refine aw_lv (lv' := [(0, .ref a), (1, .int i0), (2, .int z0_j66), (3, .int (v3_b4 + (1 : Int32)))]) [2, 3, 1, 0] rfl ?_
            exact ih4 z0_j66 (v3_b4 + (1 : Int32)) H_j66 h0 hs hk4
          refine aw_if_ge (off := 7) 65 (by decide) (by decide +kernel) (fun hc => ?_) (fun hc => ?_)
          · have hm := (if_pos hc).symm.trans hm
            refine aw_b (pc' := 66) (lv' := [(0, .ref a), (1, .int i0), (2, .int v2_b4), (3, .int v3_b4)]) (st' := [.int v2_b4]) [(65, .iload_n 2, 1, .null)] (by decide +kernel) rfl ?_
            refine aw_lv (lv' := [(0, .ref a), (1, .int i0), (3, .int v3_b4)]) [0, 1, 3] rfl ?_
            exact J66 v2_b4 H_j58 h0 hs hm
          · have hm := (if_neg hc).symm.trans hm
            refine aw_b (pc' := 66) (lv' := [(0, .ref a), (1, .int i0), (2, .int v2_b4), (3, .int v3_b4)]) (st' := [.int v3_b4]) [(61, .iload_n 3, 1, .null), (62, .goto 4, 3, .null)] (by decide +kernel) rfl ?_
            refine aw_lv (lv' := [(0, .ref a), (1, .int i0), (3, .int v3_b4)]) [0, 1, 3] rfl ?_
            exact J66 v3_b4 H_j58 h0 hs hm
        refine aw_if_eq (off := 8) 56 (by decide) (by decide +kernel) (fun hc => ?_) (fun hc => ?_)
        · have hm := (if_pos hc).symm.trans hm
          refine aw_b (pc' := 58) (lv' := [(5, .int ((r4 - r8) - ((s 8 (ix_ v3_b4)) - (s 8 (ix_ v2_b4))))), (4, .int ((s 8 (ix_ v3_b4)) - (s 8 (ix_ v2_b4)))), (0, .ref a), (1, .int i0), (2, .int v2_b4), (3, .int v3_b4)]) (st' := [.int ((r4 - r8) - ((s 8 (ix_ v3_b4)) - (s 8 (ix_ v2_b4))))]) [(56, .iload 5, 2, .null)] (by decide +kernel) rfl ?_
          refine aw_lv (lv' := [(0, .ref a), (1, .int i0), (2, .int v2_b4), (3, .int v3_b4)]) [2, 3, 4, 5] rfl ?_
          exact J58 ((r4 - r8) - ((s 8 (ix_ v3_b4)) - (s 8 (ix_ v2_b4)))) H10 h0 hs hm
        · have hm := (if_neg hc).symm.trans hm
          refine aw_b (pc' := 58) (lv' := [(5, .int ((r4 - r8) - ((s 8 (ix_ v3_b4)) - (s 8 (ix_ v2_b4))))), (4, .int ((s 8 (ix_ v3_b4)) - (s 8 (ix_ v2_b4)))), (0, .ref a), (1, .int i0), (2, .int v2_b4), (3, .int v3_b4)]) (st' := [.int ((s 8 (ix_ v3_b4)) - (s 8 (ix_ v2_b4)))]) [(51, .iload 4, 2, .null), (53, .goto 5, 3, .null)] (by decide +kernel) rfl ?_
          refine aw_lv (lv' := [(0, .ref a), (1, .int i0), (2, .int v2_b4), (3, .int v3_b4)]) [2, 3, 4, 5] rfl ?_
          exact J58 ((s 8 (ix_ v3_b4)) - (s 8 (ix_ v2_b4))) H10 h0 hs hm
  refine aw_lv (lv' := [(0, .ref a), (1, .int i0), (2, .int (0 : Int32)), (3, .int (1 : Int32))]) [2, 3, 1, 0] rfl ?_
  exact L4 FU_ (0 : Int32) (1 : Int32) H h0 hs hx4
def mX8_bestPair : mt_ := (yX8_bestPair, cX8_bestPair, 11, some .int, [], { frames := 3, locals := 67, cells := 0, slots := 0 })
theorem ckX8_bestPair : cokV_ mX8_bestPair := ⟨⟨(uw_mem 1844 (by decide +kernel) (by decide +kernel)), (uw_mem 112 (by decide +kernel) (by decide +kernel)), by decide +kernel, by decide +kernel⟩, (uw_mem 1842 (by decide +kernel) (by decide +kernel)), (uw_mem 1843 (by decide +kernel) (by decide +kernel))⟩
theorem nkX8_bestPair : nok_ mX8_bestPair 1 := by decide +kernel
theorem kwX8_404 : Cond.constantLong RX8 404 (3 : Int64) ∈ uw_ := (uw_mem 1845 (by decide +kernel) (by decide +kernel))
theorem lkX8_406 : Cond.methodLink RX8 406 yX8_bestOf ∈ uw_ := (uw_mem 1846 (by decide +kernel) (by decide +kernel))
def fX8_bestPair_x60_193 (i0 : Int32) (v2_x60_193 : Int32) (v3_x60_193 : Int32) (v4_x60_193 : Int32) (v5_x60_193 : Int32) (s_x60_193 : st_) : Option (st_ × Int32) :=
  if i0 = (0 : Int32) then (some (s_x60_193, v2_x60_193))
  else (if i0 = (1 : Int32) then (some (s_x60_193, v3_x60_193))
  else (if i0 = (2 : Int32) then (some (s_x60_193, v4_x60_193))
  else (some (s_x60_193, v5_x60_193))))
def fX8_bestPair_k60 (i0 : Int32) (x : Int32 × Int32 × Int32 × Int32 × st_) : Option (st_ × Int32) :=
  fX8_bestPair_x60_193 i0 x.1 x.2.1 x.2.2.1 x.2.2.2.1 x.2.2.2.2
def fX8_bestPair_x140_187 (v6_b60 : Int32) (v2_j137 : Int32) (v3_j137 : Int32) (v4_j137 : Int32) (v5_j137 : Int32) (s_x140_187 : st_) : Option ((Int32 × Int32 × Int32 × Int32 × Int32 × st_) ⊕ (Int32 × Int32 × Int32 × Int32 × st_)) :=
  some (.inl (v2_j137, v3_j137, v4_j137, v5_j137, (v6_b60 + (1 : Int32)), s_x140_187))
def fX8_bestPair_k140 (v6_b60 : Int32) (v2_j137 : Int32) (v3_j137 : Int32) (v4_j137 : Int32) (v5_j137 : Int32) (x : st_) : Option ((Int32 × Int32 × Int32 × Int32 × Int32 × st_) ⊕ (Int32 × Int32 × Int32 × Int32 × st_)) :=
  fX8_bestPair_x140_187 v6_b60 v2_j137 v3_j137 v4_j137 v5_j137 x
def fX8_bestPair_b140 (v6_b60 : Int32) (v10_b140 : Int32) (s_b140 : st_) : Option ((Int32 × st_) ⊕ (st_)) :=
  gd_ (ib_ (4 : Int32) 12584) <|
  if (s_b140 1 (ix_ (4 : Int32))) ≤ v10_b140 then (some (.inr s_b140))
  else (gd_ (ib_ (16 : Int32) 12584) <|
  if (s_b140 1 (ix_ (16 : Int32))) ≤ v6_b60 then (some (.inr s_b140))
  else (gd_ (ib_ v10_b140 6) <|
  bn_ (fX8_costIn1 s_b140 v10_b140 v6_b60) fun r27 =>
  gd_ (ib_ v10_b140 6) <|
  bd_ (pt_ s_b140 8 (ix_ v10_b140) ((s_b140 8 (ix_ v10_b140)) + r27)) fun s32 =>
  some (.inl ((v10_b140 + (1 : Int32)), s32))))
def fX8_bestPair_l140 (v6_b60 : Int32) : Nat → (Int32 × st_) → Option (st_) :=
  it_ (fun v => fX8_bestPair_b140 v6_b60 v.1 v.2)
def fX8_bestPair_j137 (v6_b60 : Int32) (s_b60 : st_) (v2_j137 : Int32) (v3_j137 : Int32) (v4_j137 : Int32) (v5_j137 : Int32) : Option ((Int32 × Int32 × Int32 × Int32 × Int32 × st_) ⊕ (Int32 × Int32 × Int32 × Int32 × st_)) :=
  bn_ (fX8_bestPair_l140 v6_b60 FU_ ((0 : Int32), s_b60)) (fX8_bestPair_k140 v6_b60 v2_j137 v3_j137 v4_j137 v5_j137)
def fX8_bestPair_j123 (v6_b60 : Int32) (s_b60 : st_) (r10 : Int32) (r14 : Int32) (r19 : Int32) : Option ((Int32 × Int32 × Int32 × Int32 × Int32 × st_) ⊕ (Int32 × Int32 × Int32 × Int32 × st_)) :=
  fX8_bestPair_j137 v6_b60 s_b60 (((s_b60 8 (ix_ r10)) + r19) - (s_b60 8 (ix_ r14))) r10 r14 v6_b60
def fX8_bestPair_b60 (v2_b60 : Int32) (v3_b60 : Int32) (v4_b60 : Int32) (v5_b60 : Int32) (v6_b60 : Int32) (s_b60 : st_) : Option ((Int32 × Int32 × Int32 × Int32 × Int32 × st_) ⊕ (Int32 × Int32 × Int32 × Int32 × st_)) :=
  gd_ (ib_ (16 : Int32) 12584) <|
  if (s_b60 1 (ix_ (16 : Int32))) < v6_b60 then (some (.inr (v2_b60, v3_b60, v4_b60, v5_b60, s_b60)))
  else (bn_ (fX8_bestOf s_b60 (1 : Int32)) fun r10 =>
  bn_ (fX8_bestOf s_b60 (0 : Int32)) fun r14 =>
  gd_ (ib_ r10 6) <|
  bn_ (fX8_armOf s_b60 r14 (3 : Int32)) fun r19 =>
  gd_ (ib_ r14 6) <|
  if v5_b60 = (-1 : Int32) then (fX8_bestPair_j123 v6_b60 s_b60 r10 r14 r19)
  else (if v2_b60 ≤ (((s_b60 8 (ix_ r10)) + r19) - (s_b60 8 (ix_ r14))) then (fX8_bestPair_j137 v6_b60 s_b60 v2_b60 v3_b60 v4_b60 v5_b60)
  else (fX8_bestPair_j123 v6_b60 s_b60 r10 r14 r19)))
def fX8_bestPair_l60 : Nat → (Int32 × Int32 × Int32 × Int32 × Int32 × st_) → Option (Int32 × Int32 × Int32 × Int32 × st_) :=
  it_ (fun v => fX8_bestPair_b60 v.1 v.2.1 v.2.2.1 v.2.2.2.1 v.2.2.2.2.1 v.2.2.2.2.2)
def fX8_bestPair_x28_47 (i0 : Int32) (s_x28_47 : st_) : Option (st_ × Int32) :=
  bn_ (fX8_bestPair_l60 FU_ ((0 : Int32), (-1 : Int32), (-1 : Int32), (-1 : Int32), (0 : Int32), s_x28_47)) (fX8_bestPair_k60 i0)
def fX8_bestPair_k28 (i0 : Int32) (x : st_) : Option (st_ × Int32) :=
  fX8_bestPair_x28_47 i0 x
def fX8_bestPair_b28 (v2_b28 : Int32) (s_b28 : st_) : Option ((Int32 × st_) ⊕ (st_)) :=
  if (6 : Int32) ≤ v2_b28 then (some (.inr s_b28))
  else (gd_ (ib_ v2_b28 6) <|
  bd_ (pt_ s_b28 8 (ix_ v2_b28) (0 : Int32)) fun s37 =>
  some (.inl ((v2_b28 + (1 : Int32)), s37)))
def fX8_bestPair_l28 : Nat → (Int32 × st_) → Option (st_) :=
  it_ (fun v => fX8_bestPair_b28 v.1 v.2)
def fX8_bestPair_j18 (s : st_) (i0 : Int32) (z1_j18 : Int32) : Option (st_ × Int32) :=
  bn_ (fX8_wrong s z1_j18) fun r5 =>
  if r5.2 = (0 : Int32) then (bn_ (fX8_bestPair_l28 FU_ ((0 : Int32), r5.1)) (fX8_bestPair_k28 i0))
  else (some (r5.1, (0 : Int32)))
def fX8_bestPair (s : st_) (i0 : Int32) : Option (st_ × Int32) :=
  bn_ (fX8_in (Int32.toInt64 i0) (0 : Int64) (3 : Int64)) fun r1 =>
  if r1 = (0 : Int32) then (fX8_bestPair_j18 s i0 (1 : Int32))
  else (fX8_bestPair_j18 s i0 (0 : Int32))
set_option maxRecDepth 8000 in
theorem kX8_bestPair {E : ev_} {H : Heap} {a : Nat} {s : st_} {i0 : Int32} {r : st_ × Int32} (hm : fX8_bestPair s i0 = some r) (h0 : has_ E H a ly_O s) (hf : ev_fr E a) : sp_ E mX8_bestPair [.ref a, .int i0] H (po1 (.inl (some (.int r.2))) (fun Hn => sm_ H Hn a 10 ∧ has_ E Hn a ly_O r.1)) := by
  refine sp_of (by decide +kernel) rfl rfl ?_
  generalize hQ : po1 _ _ = Q
  have hs : sm_ H H a 10 := sm_.rfl'
  unfold fX8_bestPair at hm
  refine aw_lv (lv' := [(0, .ref a), (1, .int i0)]) [0, 1] rfl ?_
  refine aw_b (pc' := 4) (lv' := [(0, .ref a), (1, .int i0)]) (st' := [.long (0 : Int64), .long (Int32.toInt64 i0), .ref a]) [(0, .aload_n 0, 1, .null), (1, .iload_n 1, 1, .null), (2, .i2l, 1, .null), (3, .lconst 0, 1, .long (0 : Int64))] (by decide +kernel) rfl ?_
  refine aw_ldc2 (v := (3 : Int64)) kwX8_404 (by decide +kernel) ?_
  obtain ⟨r1, e2, hm⟩ := bn_x hm
  refine aw_cs (rest := [.ref a]) (st1 := [.int r1, .ref a]) (kX8_in e2) rfl rfl ckX8_in lkX8_70 nkX8_in rfl rfl rfl (Nat.le_of_ble_eq_true rfl) (Nat.zero_le _) (Nat.zero_le _) (by decide +kernel) (fun H3 z4 => ?_)
  have h0 := h0.kept0 z4
  have hs := hs.step0 z4
  have J18 : ∀ (z1_j18 : Int32) (H_j18 : Heap), has_ E H_j18 a ly_O s → sm_ H H_j18 a 10 → fX8_bestPair_j18 s i0 z1_j18 = some r → aw E mX8_bestPair Q 18 [(0, .ref a), (1, .int i0)] [.int z1_j18, .ref a] H_j18 0 0 := by
    intro z1_j18 H_j18 h0 hs hm
    unfold fX8_bestPair_j18 at hm
    obtain ⟨r5, e6, hm⟩ := bn_x hm
    refine aw_cv (rest := []) (st1 := [.int r5.2]) a 0 (kX8_wrong e6 h0 hf) rfl rfl ckX8_wrong lkX8_221 h0 eo_O_0 ⟨_, _, rfl⟩ nkX8_wrong rfl rfl rfl (Nat.le_of_ble_eq_true rfl) (Nat.zero_le _) (Nat.zero_le _) (by decide +kernel) (fun H7 z8 => ?_)
    obtain ⟨z8, hn⟩ := z8
    have h0 := hn
    have hs := hs.step z8 (by omega) (by omega)
    refine aw_if_eq (off := 5) 26 (by decide) (by decide +kernel) (fun hc => ?_) (fun hc => ?_)
    · have hm := (if_pos hc).symm.trans hm
      refine aw_b (pc' := 28) (lv' := [(2, .int (0 : Int32)), (0, .ref a), (1, .int i0)]) (st' := []) [(26, .iconst 0, 1, .int (0 : Int32)), (27, .istore_n 2, 1, .null)] (by decide +kernel) rfl ?_
      obtain ⟨x28, hx28, hr28⟩ := bn_x hm
      have X28_47 : ∀ (s_x28_47 : st_) (H_x28_47 : Heap), has_ E H_x28_47 a ly_O s_x28_47 → sm_ H H_x28_47 a 10 → fX8_bestPair_x28_47 i0 s_x28_47 = some r → aw E mX8_bestPair Q 47 [(0, .ref a), (1, .int i0)] [] H_x28_47 0 0 := by
        intro s_x28_47 H_x28_47 h0 hs hm
        unfold fX8_bestPair_x28_47 at hm
        refine aw_b (pc' := 60) (lv' := [(6, .int (0 : Int32)), (5, .int (-1 : Int32)), (4, .int (-1 : Int32)), (3, .int (-1 : Int32)), (2, .int (0 : Int32)), (0, .ref a), (1, .int i0)]) (st' := []) [(47, .iconst 0, 1, .int (0 : Int32)), (48, .istore_n 2, 1, .null), (49, .iconst (-1), 1, .int (-1 : Int32)), (50, .istore_n 3, 1, .null), (51, .iconst (-1), 1, .int (-1 : Int32)), (52, .istore 4, 2, .null), (54, .iconst (-1), 1, .int (-1 : Int32)), (55, .istore 5, 2, .null), (57, .iconst 0, 1, .int (0 : Int32)), (58, .istore 6, 2, .null)] (by decide +kernel) rfl ?_
        obtain ⟨x60, hx60, hr60⟩ := bn_x hm
        have X60_193 : ∀ (v2_x60_193 : Int32) (v3_x60_193 : Int32) (v4_x60_193 : Int32) (v5_x60_193 : Int32) (s_x60_193 : st_) (H_x60_193 : Heap), has_ E H_x60_193 a ly_O s_x60_193 → sm_ H H_x60_193 a 10 → fX8_bestPair_x60_193 i0 v2_x60_193 v3_x60_193 v4_x60_193 v5_x60_193 s_x60_193 = some r → aw E mX8_bestPair Q 193 [(1, .int i0), (2, .int v2_x60_193), (3, .int v3_x60_193), (4, .int v4_x60_193), (5, .int v5_x60_193)] [] H_x60_193 0 0 := by
          intro v2_x60_193 v3_x60_193 v4_x60_193 v5_x60_193 s_x60_193 H_x60_193 h0 hs hm
          unfold fX8_bestPair_x60_193 at hm
          refine aw_b (pc' := 194) (lv' := [(1, .int i0), (2, .int v2_x60_193), (3, .int v3_x60_193), (4, .int v4_x60_193), (5, .int v5_x60_193)]) (st' := [.int i0]) [(193, .iload_n 1, 1, .null)] (by decide +kernel) rfl ?_
          refine aw_if_ne (off := 7) 201 (by decide) (by decide +kernel) (fun hc => ?_) (fun hc => ?_)
          · have hm := (if_neg hc).symm.trans hm
            refine aw_b (pc' := 203) (lv' := [(1, .int i0), (2, .int v2_x60_193), (3, .int v3_x60_193), (4, .int v4_x60_193), (5, .int v5_x60_193)]) (st' := [.int (1 : Int32), .int i0]) [(201, .iload_n 1, 1, .null), (202, .iconst 1, 1, .int (1 : Int32))] (by decide +kernel) rfl ?_
            refine aw_ic_ne (off := 7) 210 (by decide) (by decide +kernel) (fun hc => ?_) (fun hc => ?_)
            · have hm := (if_neg hc).symm.trans hm
              refine aw_b (pc' := 212) (lv' := [(1, .int i0), (2, .int v2_x60_193), (3, .int v3_x60_193), (4, .int v4_x60_193), (5, .int v5_x60_193)]) (st' := [.int (2 : Int32), .int i0]) [(210, .iload_n 1, 1, .null), (211, .iconst 2, 1, .int (2 : Int32))] (by decide +kernel) rfl ?_
              refine aw_ic_ne (off := 8) 220 (by decide) (by decide +kernel) (fun hc => ?_) (fun hc => ?_)
              · have hm := (if_neg hc).symm.trans hm
                refine aw_b (pc' := 222) (lv' := [(1, .int i0), (2, .int v2_x60_193), (3, .int v3_x60_193), (4, .int v4_x60_193), (5, .int v5_x60_193)]) (st' := [.int v5_x60_193]) [(220, .iload 5, 2, .null)] (by decide +kernel) rfl ?_
                obtain rfl := Option.some.inj hm
                subst hQ
                exact aw_iret rfl (Nat.zero_le _) (Nat.zero_le _) (by decide +kernel) ⟨rfl, hs, h0⟩
              · have hm := (if_pos hc).symm.trans hm
                refine aw_b (pc' := 222) (lv' := [(1, .int i0), (2, .int v2_x60_193), (3, .int v3_x60_193), (4, .int v4_x60_193), (5, .int v5_x60_193)]) (st' := [.int v4_x60_193]) [(215, .iload 4, 2, .null), (217, .goto 5, 3, .null)] (by decide +kernel) rfl ?_
                obtain rfl := Option.some.inj hm
                subst hQ
                exact aw_iret rfl (Nat.zero_le _) (Nat.zero_le _) (by decide +kernel) ⟨rfl, hs, h0⟩
            · have hm := (if_pos hc).symm.trans hm
              refine aw_b (pc' := 222) (lv' := [(1, .int i0), (2, .int v2_x60_193), (3, .int v3_x60_193), (4, .int v4_x60_193), (5, .int v5_x60_193)]) (st' := [.int v3_x60_193]) [(206, .iload_n 3, 1, .null), (207, .goto 15, 3, .null)] (by decide +kernel) rfl ?_
              obtain rfl := Option.some.inj hm
              subst hQ
              exact aw_iret rfl (Nat.zero_le _) (Nat.zero_le _) (by decide +kernel) ⟨rfl, hs, h0⟩
          · have hm := (if_pos hc).symm.trans hm
            refine aw_b (pc' := 222) (lv' := [(1, .int i0), (2, .int v2_x60_193), (3, .int v3_x60_193), (4, .int v4_x60_193), (5, .int v5_x60_193)]) (st' := [.int v2_x60_193]) [(197, .iload_n 2, 1, .null), (198, .goto 24, 3, .null)] (by decide +kernel) rfl ?_
            obtain rfl := Option.some.inj hm
            subst hQ
            exact aw_iret rfl (Nat.zero_le _) (Nat.zero_le _) (by decide +kernel) ⟨rfl, hs, h0⟩
        have L60 : ∀ (fu : Nat) (v2_b60 : Int32) (v3_b60 : Int32) (v4_b60 : Int32) (v5_b60 : Int32) (v6_b60 : Int32) (s_b60 : st_) (H_b60 : Heap), has_ E H_b60 a ly_O s_b60 → sm_ H H_b60 a 10 → fX8_bestPair_l60 fu (v2_b60, v3_b60, v4_b60, v5_b60, v6_b60, s_b60) = some x60 → aw E mX8_bestPair Q 60 [(0, .ref a), (1, .int i0), (2, .int v2_b60), (3, .int v3_b60), (4, .int v4_b60), (5, .int v5_b60), (6, .int v6_b60)] [] H_b60 0 0 := by
          intro fu
          induction fu with
          | zero =>
            intro v2_b60 v3_b60 v4_b60 v5_b60 v6_b60 s_b60 H_b60 h0 hs hm
            exact (it_0 hm).elim
          | succ fu ih60 =>
            intro v2_b60 v3_b60 v4_b60 v5_b60 v6_b60 s_b60 H_b60 h0 hs hm
            obtain ⟨y60, hm, hk60⟩ := it_s hm
            have hm : fX8_bestPair_b60 v2_b60 v3_b60 v4_b60 v5_b60 v6_b60 s_b60 = some y60 := hm
            unfold fX8_bestPair_b60 at hm
            refine aw_b (pc' := 63) (lv' := [(0, .ref a), (1, .int i0), (2, .int v2_b60), (3, .int v3_b60), (4, .int v4_b60), (5, .int v5_b60), (6, .int v6_b60)]) (st' := [.ref a, .int v6_b60]) [(60, .iload 6, 2, .null), (62, .aload_n 0, 1, .null)] (by decide +kernel) rfl ?_
            refine aw_gl (v := .ref (a + 1)) a 0 h0 eo_O_0 fgX8_9 rfl (by decide +kernel) ?_
            refine aw_b (pc' := 68) (lv' := [(0, .ref a), (1, .int i0), (2, .int v2_b60), (3, .int v3_b60), (4, .int v4_b60), (5, .int v5_b60), (6, .int v6_b60)]) (st' := [.int (16 : Int32), .ref (a + 1), .int v6_b60]) [(66, .bipush 16, 2, .int (16 : Int32))] (by decide +kernel) rfl ?_
            obtain ⟨g9, hm⟩ := gd_x hm
            refine aw_ial a 1 h0 rfl g9 (by decide +kernel) ?_
            refine aw_ic_gt (off := 124) 193 (by decide) (by decide +kernel) (fun hc => ?_) (fun hc => ?_)
            · have hm := (if_pos hc).symm.trans hm
              cases hm
              refine aw_lv (lv' := [(1, .int i0), (2, .int v2_b60), (3, .int v3_b60), (4, .int v4_b60), (5, .int v5_b60)]) [1, 2, 3, 4, 5] rfl ?_
              exact X60_193 v2_b60 v3_b60 v4_b60 v5_b60 s_b60 H_b60 h0 hs ((congrArg (fX8_bestPair_k60 i0) (show ((v2_b60, v3_b60, v4_b60, v5_b60, s_b60)) = x60 from hk60)).trans hr60)
            · have hm := (if_neg hc).symm.trans hm
              refine aw_b (pc' := 74) (lv' := [(0, .ref a), (1, .int i0), (2, .int v2_b60), (3, .int v3_b60), (4, .int v4_b60), (5, .int v5_b60), (6, .int v6_b60)]) (st' := [.int (1 : Int32), .ref a]) [(72, .aload_n 0, 1, .null), (73, .iconst 1, 1, .int (1 : Int32))] (by decide +kernel) rfl ?_
              obtain ⟨r10, e11, hm⟩ := bn_x hm
              refine aw_cv (rest := []) (st1 := [.int r10]) a 0 (kX8_bestOf e11 h0) rfl rfl ckX8_bestOf lkX8_406 h0 eo_O_0 ⟨_, _, rfl⟩ nkX8_bestOf rfl rfl rfl (Nat.le_of_ble_eq_true rfl) (Nat.zero_le _) (Nat.zero_le _) (by decide +kernel) (fun H12 z13 => ?_)
              have h0 := h0.kept0 z13
              have hs := hs.step0 z13
              refine aw_b (pc' := 81) (lv' := [(7, .int r10), (0, .ref a), (1, .int i0), (2, .int v2_b60), (3, .int v3_b60), (4, .int v4_b60), (5, .int v5_b60), (6, .int v6_b60)]) (st' := [.int (0 : Int32), .ref a]) [(77, .istore 7, 2, .null), (79, .aload_n 0, 1, .null), (80, .iconst 0, 1, .int (0 : Int32))] (by decide +kernel) rfl ?_
              obtain ⟨r14, e15, hm⟩ := bn_x hm
              refine aw_cv (rest := []) (st1 := [.int r14]) a 0 (kX8_bestOf e15 h0) rfl rfl ckX8_bestOf lkX8_406 h0 eo_O_0 ⟨_, _, rfl⟩ nkX8_bestOf rfl rfl rfl (Nat.le_of_ble_eq_true rfl) (Nat.zero_le _) (Nat.zero_le _) (by decide +kernel) (fun H16 z17 => ?_)
              have h0 := h0.kept0 z17
              have hs := hs.step0 z17
              refine aw_b (pc' := 87) (lv' := [(8, .int r14), (7, .int r10), (0, .ref a), (1, .int i0), (2, .int v2_b60), (3, .int v3_b60), (4, .int v4_b60), (5, .int v5_b60), (6, .int v6_b60)]) (st' := [.ref a]) [(84, .istore 8, 2, .null), (86, .aload_n 0, 1, .null)] (by decide +kernel) rfl ?_
              refine aw_gl (v := .ref (a + 8)) a 0 h0 eo_O_0 fgX8_32 rfl (by decide +kernel) ?_
              refine aw_b (pc' := 92) (lv' := [(8, .int r14), (7, .int r10), (0, .ref a), (1, .int i0), (2, .int v2_b60), (3, .int v3_b60), (4, .int v4_b60), (5, .int v5_b60), (6, .int v6_b60)]) (st' := [.int r10, .ref (a + 8)]) [(90, .iload 7, 2, .null)] (by decide +kernel) rfl ?_
              obtain ⟨g18, hm⟩ := gd_x hm
              refine aw_ial a 8 h0 rfl g18 (by decide +kernel) ?_
              refine aw_b (pc' := 97) (lv' := [(8, .int r14), (7, .int r10), (0, .ref a), (1, .int i0), (2, .int v2_b60), (3, .int v3_b60), (4, .int v4_b60), (5, .int v5_b60), (6, .int v6_b60)]) (st' := [.int (3 : Int32), .int r14, .ref a, .int (s_b60 8 (ix_ r10))]) [(93, .aload_n 0, 1, .null), (94, .iload 8, 2, .null), (96, .iconst 3, 1, .int (3 : Int32))] (by decide +kernel) rfl ?_
              obtain ⟨r19, e20, hm⟩ := bn_x hm
              refine aw_cv (rest := [.int (s_b60 8 (ix_ r10))]) (st1 := [.int r19, .int (s_b60 8 (ix_ r10))]) a 0 (kX8_armOf e20 h0) rfl rfl ckX8_armOf lkX8_232 h0 eo_O_0 ⟨_, _, rfl⟩ nkX8_armOf rfl rfl rfl (Nat.le_of_ble_eq_true rfl) (Nat.zero_le _) (Nat.zero_le _) (by decide +kernel) (fun H21 z22 => ?_)
              have h0 := h0.kept0 z22
              have hs := hs.step0 z22
              refine aw_b (pc' := 102) (lv' := [(8, .int r14), (7, .int r10), (0, .ref a), (1, .int i0), (2, .int v2_b60), (3, .int v3_b60), (4, .int v4_b60), (5, .int v5_b60), (6, .int v6_b60)]) (st' := [.ref a, .int ((s_b60 8 (ix_ r10)) + r19)]) [(100, .iadd, 1, .null), (101, .aload_n 0, 1, .null)] (by decide +kernel) rfl ?_
              refine aw_gl (v := .ref (a + 8)) a 0 h0 eo_O_0 fgX8_32 rfl (by decide +kernel) ?_
              refine aw_b (pc' := 107) (lv' := [(8, .int r14), (7, .int r10), (0, .ref a), (1, .int i0), (2, .int v2_b60), (3, .int v3_b60), (4, .int v4_b60), (5, .int v5_b60), (6, .int v6_b60)]) (st' := [.int r14, .ref (a + 8), .int ((s_b60 8 (ix_ r10)) + r19)]) [(105, .iload 8, 2, .null)] (by decide +kernel) rfl ?_
              obtain ⟨g23, hm⟩ := gd_x hm
              refine aw_ial a 8 h0 rfl g23 (by decide +kernel) ?_
              refine aw_b (pc' := 114) (lv' := [(9, .int (((s_b60 8 (ix_ r10)) + r19) - (s_b60 8 (ix_ r14)))), (8, .int r14), (7, .int r10), (0, .ref a), (1, .int i0), (2, .int v2_b60), (3, .int v3_b60), (4, .int v4_b60), (5, .int v5_b60), (6, .int v6_b60)]) (st' := [.int (-1 : Int32), .int v5_b60]) [(108, .isub, 1, .null), (109, .istore 9, 2, .null), (111, .iload 5, 2, .null), (113, .iconst (-1), 1, .int (-1 : Int32))] (by decide +kernel) rfl ?_
              have J137 : ∀ (v2_j137 : Int32) (v3_j137 : Int32) (v4_j137 : Int32) (v5_j137 : Int32) (H_j137 : Heap), has_ E H_j137 a ly_O s_b60 → sm_ H H_j137 a 10 → fX8_bestPair_j137 v6_b60 s_b60 v2_j137 v3_j137 v4_j137 v5_j137 = some y60 → aw E mX8_bestPair Q 137 [(0, .ref a), (1, .int i0), (2, .int v2_j137), (3, .int v3_j137), (4, .int v4_j137), (5, .int v5_j137), (6, .int v6_b60)] [] H_j137 0 0 := by
                intro v2_j137 v3_j137 v4_j137 v5_j137 H_j137 h0 hs hm
                unfold fX8_bestPair_j137 at hm
                refine aw_b (pc' := 140) (lv' := [(10, .int (0 : Int32)), (0, .ref a), (1, .int i0), (2, .int v2_j137), (3, .int v3_j137), (4, .int v4_j137), (5, .int v5_j137), (6, .int v6_b60)]) (st' := []) [(137, .iconst 0, 1, .int (0 : Int32)), (138, .istore 10, 2, .null)] (by decide +kernel) rfl ?_
                obtain ⟨x140, hx140, hr140⟩ := bn_x hm
                have X140_187 : ∀ (s_x140_187 : st_) (H_x140_187 : Heap), has_ E H_x140_187 a ly_O s_x140_187 → sm_ H H_x140_187 a 10 → fX8_bestPair_x140_187 v6_b60 v2_j137 v3_j137 v4_j137 v5_j137 s_x140_187 = some y60 → aw E mX8_bestPair Q 187 [(0, .ref a), (1, .int i0), (2, .int v2_j137), (3, .int v3_j137), (4, .int v4_j137), (5, .int v5_j137), (6, .int v6_b60)] [] H_x140_187 0 0 := by
                  intro s_x140_187 H_x140_187 h0 hs hm
                  unfold fX8_bestPair_x140_187 at hm
                  refine aw_b (pc' := 60) (lv' := [(6, .int (v6_b60 + (1 : Int32))), (0, .ref a), (1, .int i0), (2, .int v2_j137), (3, .int v3_j137), (4, .int v4_j137), (5, .int v5_j137)]) (st' := []) [(187, .iinc 6 1, 3, .int (1 : Int32)), (190, .goto (-130), 3, .null)] (by decide +kernel) rfl ?_
                  cases hm
                  refine aw_lv (lv' := [(0, .ref a), (1, .int i0), (2, .int v2_j137), (3, .int v3_j137), (4, .int v4_j137), (5, .int v5_j137), (6, .int (v6_b60 + (1 : Int32)))]) [1, 2, 3, 4, 5, 6, 0] rfl ?_
                  exact ih60 v2_j137 v3_j137 v4_j137 v5_j137 (v6_b60 + (1 : Int32)) s_x140_187 H_x140_187 h0 hs hk60
                have L140 : ∀ (fu : Nat) (v10_b140 : Int32) (s_b140 : st_) (H_b140 : Heap), has_ E H_b140 a ly_O s_b140 → sm_ H H_b140 a 10 → fX8_bestPair_l140 v6_b60 fu (v10_b140, s_b140) = some x140 → aw E mX8_bestPair Q 140 [(0, .ref a), (1, .int i0), (2, .int v2_j137), (3, .int v3_j137), (4, .int v4_j137), (5, .int v5_j137), (6, .int v6_b60), (10, .int v10_b140)] [] H_b140 0 0 := by
                  intro fu
                  induction fu with
                  | zero =>
                    intro v10_b140 s_b140 H_b140 h0 hs hm
                    exact (it_0 hm).elim
                  | succ fu ih140 =>
                    intro v10_b140 s_b140 H_b140 h0 hs hm
                    obtain ⟨y140, hm, hk140⟩ := it_s hm
                    have hm : fX8_bestPair_b140 v6_b60 v10_b140 s_b140 = some y140 := hm
                    unfold fX8_bestPair_b140 at hm
                    refine aw_b (pc' := 143) (lv' := [(0, .ref a), (1, .int i0), (2, .int v2_j137), (3, .int v3_j137), (4, .int v4_j137), (5, .int v5_j137), (6, .int v6_b60), (10, .int v10_b140)]) (st' := [.ref a, .int v10_b140]) [(140, .iload 10, 2, .null), (142, .aload_n 0, 1, .null)] (by decide +kernel) rfl ?_
                    refine aw_gl (v := .ref (a + 1)) a 0 h0 eo_O_0 fgX8_9 rfl (by decide +kernel) ?_
                    refine aw_b (pc' := 147) (lv' := [(0, .ref a), (1, .int i0), (2, .int v2_j137), (3, .int v3_j137), (4, .int v4_j137), (5, .int v5_j137), (6, .int v6_b60), (10, .int v10_b140)]) (st' := [.int (4 : Int32), .ref (a + 1), .int v10_b140]) [(146, .iconst 4, 1, .int (4 : Int32))] (by decide +kernel) rfl ?_
                    obtain ⟨g24, hm⟩ := gd_x hm
                    refine aw_ial a 1 h0 rfl g24 (by decide +kernel) ?_
                    refine aw_ic_ge (off := 39) 187 (by decide) (by decide +kernel) (fun hc => ?_) (fun hc => ?_)
                    · have hm := (if_pos hc).symm.trans hm
                      cases hm
                      refine aw_lv (lv' := [(0, .ref a), (1, .int i0), (2, .int v2_j137), (3, .int v3_j137), (4, .int v4_j137), (5, .int v5_j137), (6, .int v6_b60)]) [0, 1, 2, 3, 4, 5, 6] rfl ?_
                      exact X140_187 s_b140 H_b140 h0 hs ((congrArg (fX8_bestPair_k140 v6_b60 v2_j137 v3_j137 v4_j137 v5_j137) (show (s_b140) = x140 from hk140)).trans hr140)
                    · have hm := (if_neg hc).symm.trans hm
                      refine aw_b (pc' := 154) (lv' := [(0, .ref a), (1, .int i0), (2, .int v2_j137), (3, .int v3_j137), (4, .int v4_j137), (5, .int v5_j137), (6, .int v6_b60), (10, .int v10_b140)]) (st' := [.ref a, .int v6_b60]) [(151, .iload 6, 2, .null), (153, .aload_n 0, 1, .null)] (by decide +kernel) rfl ?_
                      refine aw_gl (v := .ref (a + 1)) a 0 h0 eo_O_0 fgX8_9 rfl (by decide +kernel) ?_
                      refine aw_b (pc' := 159) (lv' := [(0, .ref a), (1, .int i0), (2, .int v2_j137), (3, .int v3_j137), (4, .int v4_j137), (5, .int v5_j137), (6, .int v6_b60), (10, .int v10_b140)]) (st' := [.int (16 : Int32), .ref (a + 1), .int v6_b60]) [(157, .bipush 16, 2, .int (16 : Int32))] (by decide +kernel) rfl ?_
                      obtain ⟨g25, hm⟩ := gd_x hm
                      refine aw_ial a 1 h0 rfl g25 (by decide +kernel) ?_
                      refine aw_ic_ge (off := 27) 187 (by decide) (by decide +kernel) (fun hc => ?_) (fun hc => ?_)
                      · have hm := (if_pos hc).symm.trans hm
                        cases hm
                        refine aw_lv (lv' := [(0, .ref a), (1, .int i0), (2, .int v2_j137), (3, .int v3_j137), (4, .int v4_j137), (5, .int v5_j137), (6, .int v6_b60)]) [0, 1, 2, 3, 4, 5, 6] rfl ?_
                        exact X140_187 s_b140 H_b140 h0 hs ((congrArg (fX8_bestPair_k140 v6_b60 v2_j137 v3_j137 v4_j137 v5_j137) (show (s_b140) = x140 from hk140)).trans hr140)
                      · have hm := (if_neg hc).symm.trans hm
                        refine aw_b (pc' := 164) (lv' := [(0, .ref a), (1, .int i0), (2, .int v2_j137), (3, .int v3_j137), (4, .int v4_j137), (5, .int v5_j137), (6, .int v6_b60), (10, .int v10_b140)]) (st' := [.ref a]) [(163, .aload_n 0, 1, .null)] (by decide +kernel) rfl ?_
                        refine aw_gl (v := .ref (a + 8)) a 0 h0 eo_O_0 fgX8_32 rfl (by decide +kernel) ?_
                        refine aw_b (pc' := 170) (lv' := [(0, .ref a), (1, .int i0), (2, .int v2_j137), (3, .int v3_j137), (4, .int v4_j137), (5, .int v5_j137), (6, .int v6_b60), (10, .int v10_b140)]) (st' := [.int v10_b140, .ref (a + 8), .int v10_b140, .ref (a + 8)]) [(167, .iload 10, 2, .null), (169, .dup2, 1, .null)] (by decide +kernel) rfl ?_
                        obtain ⟨g26, hm⟩ := gd_x hm
                        refine aw_ial a 8 h0 rfl g26 (by decide +kernel) ?_
                        refine aw_b (pc' := 176) (lv' := [(0, .ref a), (1, .int i0), (2, .int v2_j137), (3, .int v3_j137), (4, .int v4_j137), (5, .int v5_j137), (6, .int v6_b60), (10, .int v10_b140)]) (st' := [.int v6_b60, .int v10_b140, .ref a, .int (s_b140 8 (ix_ v10_b140)), .int v10_b140, .ref (a + 8)]) [(171, .aload_n 0, 1, .null), (172, .iload 10, 2, .null), (174, .iload 6, 2, .null)] (by decide +kernel) rfl ?_
                        obtain ⟨r27, e28, hm⟩ := bn_x hm
                        refine aw_cv (rest := [.int (s_b140 8 (ix_ v10_b140)), .int v10_b140, .ref (a + 8)]) (st1 := [.int r27, .int (s_b140 8 (ix_ v10_b140)), .int v10_b140, .ref (a + 8)]) a 0 (kX8_costIn1 e28 h0) rfl rfl ckX8_costIn1 lkX8_401 h0 eo_O_0 ⟨_, _, rfl⟩ nkX8_costIn1 rfl rfl rfl (Nat.le_of_ble_eq_true rfl) (Nat.zero_le _) (Nat.zero_le _) (by decide +kernel) (fun H29 z30 => ?_)
                        have h0 := h0.kept0 z30
                        have hs := hs.step0 z30
                        refine aw_b (pc' := 180) (lv' := [(0, .ref a), (1, .int i0), (2, .int v2_j137), (3, .int v3_j137), (4, .int v4_j137), (5, .int v5_j137), (6, .int v6_b60), (10, .int v10_b140)]) (st' := [.int ((s_b140 8 (ix_ v10_b140)) + r27), .int v10_b140, .ref (a + 8)]) [(179, .iadd, 1, .null)] (by decide +kernel) rfl ?_
                        obtain ⟨g31, hm⟩ := gd_x hm
                        obtain ⟨s32, e33, hm⟩ := bd_x hm
                        refine aw_isl a 8 h0 rfl hf g31 e33 (by decide +kernel) (fun H34 h0 z35 => ?_)
                        have hs := hs.step z35 (by omega) (by omega)
                        refine aw_b (pc' := 140) (lv' := [(10, .int (v10_b140 + (1 : Int32))), (0, .ref a), (1, .int i0), (2, .int v2_j137), (3, .int v3_j137), (4, .int v4_j137), (5, .int v5_j137), (6, .int v6_b60)]) (st' := []) [(181, .iinc 10 1, 3, .int (1 : Int32)), (184, .goto (-44), 3, .null)] (by decide +kernel) rfl ?_
                        cases hm
                        refine aw_lv (lv' := [(0, .ref a), (1, .int i0), (2, .int v2_j137), (3, .int v3_j137), (4, .int v4_j137), (5, .int v5_j137), (6, .int v6_b60), (10, .int (v10_b140 + (1 : Int32)))]) [1, 2, 3, 4, 5, 6, 7, 0] rfl ?_
                        exact ih140 (v10_b140 + (1 : Int32)) s32 H34 h0 hs hk140
                refine aw_lv (lv' := [(0, .ref a), (1, .int i0), (2, .int v2_j137), (3, .int v3_j137), (4, .int v4_j137), (5, .int v5_j137), (6, .int v6_b60), (10, .int (0 : Int32))]) [1, 2, 3, 4, 5, 6, 7, 0] rfl ?_
                exact L140 FU_ (0 : Int32) s_b60 H_j137 h0 hs hx140
              have J123 : ∀ (H_j123 : Heap), has_ E H_j123 a ly_O s_b60 → sm_ H H_j123 a 10 → fX8_bestPair_j123 v6_b60 s_b60 r10 r14 r19 = some y60 → aw E mX8_bestPair Q 123 [(0, .ref a), (1, .int i0), (6, .int v6_b60), (7, .int r10), (8, .int r14), (9, .int (((s_b60 8 (ix_ r10)) + r19) - (s_b60 8 (ix_ r14))))] [] H_j123 0 0 := by
                intro H_j123 h0 hs hm
                unfold fX8_bestPair_j123 at hm
                refine aw_b (pc' := 137) (lv' := [(5, .int v6_b60), (4, .int r14), (3, .int r10), (2, .int (((s_b60 8 (ix_ r10)) + r19) - (s_b60 8 (ix_ r14)))), (0, .ref a), (1, .int i0), (6, .int v6_b60), (7, .int r10), (8, .int r14), (9, .int (((s_b60 8 (ix_ r10)) + r19) - (s_b60 8 (ix_ r14))))]) (st' := []) [(123, .iload 9, 2, .null), (125, .istore_n 2, 1, .null), (126, .iload 7, 2, .null), (128, .istore_n 3, 1, .null), (129, .iload 8, 2, .null), (131, .istore 4, 2, .null), (133, .iload 6, 2, .null), (135, .istore 5, 2, .null)] (by decide +kernel) rfl ?_
                refine aw_lv (lv' := [(0, .ref a), (1, .int i0), (2, .int (((s_b60 8 (ix_ r10)) + r19) - (s_b60 8 (ix_ r14)))), (3, .int r10), (4, .int r14), (5, .int v6_b60), (6, .int v6_b60)]) [4, 5, 3, 2, 1, 0, 6] rfl ?_
                exact J137 (((s_b60 8 (ix_ r10)) + r19) - (s_b60 8 (ix_ r14))) r10 r14 v6_b60 H_j123 h0 hs hm
              refine aw_ic_eq (off := 9) 123 (by decide) (by decide +kernel) (fun hc => ?_) (fun hc => ?_)
              · have hm := (if_pos hc).symm.trans hm
                refine aw_lv (lv' := [(0, .ref a), (1, .int i0), (6, .int v6_b60), (7, .int r10), (8, .int r14), (9, .int (((s_b60 8 (ix_ r10)) + r19) - (s_b60 8 (ix_ r14))))]) [3, 4, 9, 2, 1, 0] rfl ?_
                exact J123 H21 h0 hs hm
              · have hm := (if_neg hc).symm.trans hm
                refine aw_b (pc' := 120) (lv' := [(9, .int (((s_b60 8 (ix_ r10)) + r19) - (s_b60 8 (ix_ r14)))), (8, .int r14), (7, .int r10), (0, .ref a), (1, .int i0), (2, .int v2_b60), (3, .int v3_b60), (4, .int v4_b60), (5, .int v5_b60), (6, .int v6_b60)]) (st' := [.int v2_b60, .int (((s_b60 8 (ix_ r10)) + r19) - (s_b60 8 (ix_ r14)))]) [(117, .iload 9, 2, .null), (119, .iload_n 2, 1, .null)] (by decide +kernel) rfl ?_
                refine aw_ic_ge (off := 17) 137 (by decide) (by decide +kernel) (fun hc => ?_) (fun hc => ?_)
                · have hm := (if_pos hc).symm.trans hm
                  refine aw_lv (lv' := [(0, .ref a), (1, .int i0), (2, .int v2_b60), (3, .int v3_b60), (4, .int v4_b60), (5, .int v5_b60), (6, .int v6_b60)]) [3, 4, 5, 6, 7, 8, 9] rfl ?_
                  exact J137 v2_b60 v3_b60 v4_b60 v5_b60 H21 h0 hs hm
                · have hm := (if_neg hc).symm.trans hm
                  refine aw_lv (lv' := [(0, .ref a), (1, .int i0), (6, .int v6_b60), (7, .int r10), (8, .int r14), (9, .int (((s_b60 8 (ix_ r10)) + r19) - (s_b60 8 (ix_ r14))))]) [3, 4, 9, 2, 1, 0] rfl ?_
                  exact J123 H21 h0 hs hm
        refine aw_lv (lv' := [(0, .ref a), (1, .int i0), (2, .int (0 : Int32)), (3, .int (-1 : Int32)), (4, .int (-1 : Int32)), (5, .int (-1 : Int32)), (6, .int (0 : Int32))]) [5, 6, 4, 3, 2, 1, 0] rfl ?_
        exact L60 FU_ (0 : Int32) (-1 : Int32) (-1 : Int32) (-1 : Int32) (0 : Int32) s_x28_47 H_x28_47 h0 hs hx60
      have L28 : ∀ (fu : Nat) (v2_b28 : Int32) (s_b28 : st_) (H_b28 : Heap), has_ E H_b28 a ly_O s_b28 → sm_ H H_b28 a 10 → fX8_bestPair_l28 fu (v2_b28, s_b28) = some x28 → aw E mX8_bestPair Q 28 [(0, .ref a), (1, .int i0), (2, .int v2_b28)] [] H_b28 0 0 := by
        intro fu
        induction fu with
        | zero =>
          intro v2_b28 s_b28 H_b28 h0 hs hm
          exact (it_0 hm).elim
        | succ fu ih28 =>
          intro v2_b28 s_b28 H_b28 h0 hs hm
          obtain ⟨y28, hm, hk28⟩ := it_s hm
          have hm : fX8_bestPair_b28 v2_b28 s_b28 = some y28 := hm
          unfold fX8_bestPair_b28 at hm
          refine aw_b (pc' := 31) (lv' := [(0, .ref a), (1, .int i0), (2, .int v2_b28)]) (st' := [.int (6 : Int32), .int v2_b28]) [(28, .iload_n 2, 1, .null), (29, .bipush 6, 2, .int (6 : Int32))] (by decide +kernel) rfl ?_
          refine aw_ic_ge (off := 16) 47 (by decide) (by decide +kernel) (fun hc => ?_) (fun hc => ?_)
          · have hm := (if_pos hc).symm.trans hm
            cases hm
            refine aw_lv (lv' := [(0, .ref a), (1, .int i0)]) [0, 1] rfl ?_
            exact X28_47 s_b28 H_b28 h0 hs ((congrArg (fX8_bestPair_k28 i0) (show (s_b28) = x28 from hk28)).trans hr28)
          · have hm := (if_neg hc).symm.trans hm
            refine aw_b (pc' := 35) (lv' := [(0, .ref a), (1, .int i0), (2, .int v2_b28)]) (st' := [.ref a]) [(34, .aload_n 0, 1, .null)] (by decide +kernel) rfl ?_
            refine aw_gl (v := .ref (a + 8)) a 0 h0 eo_O_0 fgX8_32 rfl (by decide +kernel) ?_
            refine aw_b (pc' := 40) (lv' := [(0, .ref a), (1, .int i0), (2, .int v2_b28)]) (st' := [.int (0 : Int32), .int v2_b28, .ref (a + 8)]) [(38, .iload_n 2, 1, .null), (39, .iconst 0, 1, .int (0 : Int32))] (by decide +kernel) rfl ?_
            obtain ⟨g36, hm⟩ := gd_x hm
            obtain ⟨s37, e38, hm⟩ := bd_x hm
            refine aw_isl a 8 h0 rfl hf g36 e38 (by decide +kernel) (fun H39 h0 z40 => ?_)
            have hs := hs.step z40 (by omega) (by omega)
            refine aw_b (pc' := 28) (lv' := [(2, .int (v2_b28 + (1 : Int32))), (0, .ref a), (1, .int i0)]) (st' := []) [(41, .iinc 2 1, 3, .int (1 : Int32)), (44, .goto (-16), 3, .null)] (by decide +kernel) rfl ?_
            cases hm
            refine aw_lv (lv' := [(0, .ref a), (1, .int i0), (2, .int (v2_b28 + (1 : Int32)))]) [1, 2, 0] rfl ?_
            exact ih28 (v2_b28 + (1 : Int32)) s37 H39 h0 hs hk28
      refine aw_lv (lv' := [(0, .ref a), (1, .int i0), (2, .int (0 : Int32))]) [1, 2, 0] rfl ?_
      exact L28 FU_ (0 : Int32) r5.1 H7 h0 hs hx28
    · have hm := (if_neg hc).symm.trans hm
      refine aw_b (pc' := 25) (lv' := [(0, .ref a), (1, .int i0)]) (st' := [.int (0 : Int32)]) [(24, .iconst 0, 1, .int (0 : Int32))] (by decide +kernel) rfl ?_
      obtain rfl := Option.some.inj hm
      subst hQ
      exact aw_iret rfl (Nat.zero_le _) (Nat.zero_le _) (by decide +kernel) ⟨rfl, hs, h0⟩
  refine aw_if_ne (off := 7) 17 (by decide) (by decide +kernel) (fun hc => ?_) (fun hc => ?_)
  · have hm := (if_neg hc).symm.trans hm
    refine aw_b (pc' := 18) (lv' := [(0, .ref a), (1, .int i0)]) (st' := [.int (0 : Int32), .ref a]) [(17, .iconst 0, 1, .int (0 : Int32))] (by decide +kernel) rfl ?_
    exact J18 (0 : Int32) H3 h0 hs hm
  · have hm := (if_pos hc).symm.trans hm
    refine aw_b (pc' := 18) (lv' := [(0, .ref a), (1, .int i0)]) (st' := [.int (1 : Int32), .ref a]) [(13, .iconst 1, 1, .int (1 : Int32)), (14, .goto 4, 3, .null)] (by decide +kernel) rfl ?_
    exact J18 (1 : Int32) H3 h0 hs hm
def mX8_cheaper : mt_ := (yX8_cheaper, cX8_cheaper, 5, some .int, [], { frames := 3, locals := 67, cells := 0, slots := 0 })
theorem ckX8_cheaper : cokV_ mX8_cheaper := ⟨⟨(uw_mem 1853 (by decide +kernel) (by decide +kernel)), (uw_mem 112 (by decide +kernel) (by decide +kernel)), by decide +kernel, by decide +kernel⟩, (uw_mem 1851 (by decide +kernel) (by decide +kernel)), (uw_mem 1852 (by decide +kernel) (by decide +kernel))⟩
theorem nkX8_cheaper : nok_ mX8_cheaper 2 := by decide +kernel
def fX8_cheaper_x36_79 (r9 : st_ × Int32) (v3_x36_79 : Int32) : Option (st_ × Int32) :=
  some (r9.1, v3_x36_79)
def fX8_cheaper_k36 (r9 : st_ × Int32) (x : Int32) : Option (st_ × Int32) :=
  fX8_cheaper_x36_79 r9 x
def fX8_cheaper_j71 (v3_b36 : Int32) (v4_b36 : Int32) (z1_j71 : Int32) : Option ((Int32 × Int32) ⊕ (Int32)) :=
  some (.inl ((v3_b36 + z1_j71), (v4_b36 + (1 : Int32))))
def fX8_cheaper_b36 (i0 : Int32) (i1 : Int32) (r9 : st_ × Int32) (v3_b36 : Int32) (v4_b36 : Int32) : Option ((Int32 × Int32) ⊕ (Int32)) :=
  gd_ (ib_ (16 : Int32) 12584) <|
  if (r9.1 1 (ix_ (16 : Int32))) ≤ v4_b36 then (some (.inr v3_b36))
  else (bn_ (fX8_costIn1 r9.1 i0 v4_b36) fun r14 =>
  bn_ (fX8_costIn1 r9.1 i1 v4_b36) fun r18 =>
  if r18 ≤ r14 then (fX8_cheaper_j71 v3_b36 v4_b36 (0 : Int32))
  else (fX8_cheaper_j71 v3_b36 v4_b36 (1 : Int32)))
def fX8_cheaper_l36 (i0 : Int32) (i1 : Int32) (r9 : st_ × Int32) : Nat → (Int32 × Int32) → Option (Int32) :=
  it_ (fun v => fX8_cheaper_b36 i0 i1 r9 v.1 v.2)
def fX8_cheaper_j22 (i0 : Int32) (i1 : Int32) (r1 : st_ × Int32) (z1_j22 : Int32) : Option (st_ × Int32) :=
  bn_ (fX8_throwsIf r1.1 z1_j22 (1 : Int32)) fun r9 =>
  if r9.2 = (0 : Int32) then (bn_ (fX8_cheaper_l36 i0 i1 r9 FU_ ((0 : Int32), (0 : Int32))) (fX8_cheaper_k36 r9))
  else (some (r9.1, (0 : Int32)))
def fX8_cheaper (s : st_) (i0 : Int32) (i1 : Int32) : Option (st_ × Int32) :=
  bn_ (fX8_noRule s i0) fun r1 =>
  if r1.2 = (0 : Int32) then (bn_ (fX8_isRule r1.1 i1) fun r5 =>
  if r5 = (0 : Int32) then (fX8_cheaper_j22 i0 i1 r1 (1 : Int32))
  else (fX8_cheaper_j22 i0 i1 r1 (0 : Int32)))
  else (some (r1.1, (0 : Int32)))
set_option maxRecDepth 8000 in
theorem kX8_cheaper {E : ev_} {H : Heap} {a : Nat} {s : st_} {i0 : Int32} {i1 : Int32} {r : st_ × Int32} (hm : fX8_cheaper s i0 i1 = some r) (h0 : has_ E H a ly_O s) (hf : ev_fr E a) : sp_ E mX8_cheaper [.ref a, .int i0, .int i1] H (po1 (.inl (some (.int r.2))) (fun Hn => sm_ H Hn a 10 ∧ has_ E Hn a ly_O r.1)) := by
  refine sp_of (by decide +kernel) rfl rfl ?_
  generalize hQ : po1 _ _ = Q
  have hs : sm_ H H a 10 := sm_.rfl'
  unfold fX8_cheaper at hm
  refine aw_lv (lv' := [(0, .ref a), (1, .int i0), (2, .int i1)]) [0, 1, 2] rfl ?_
  refine aw_b (pc' := 2) (lv' := [(0, .ref a), (1, .int i0), (2, .int i1)]) (st' := [.int i0, .ref a]) [(0, .aload_n 0, 1, .null), (1, .iload_n 1, 1, .null)] (by decide +kernel) rfl ?_
  obtain ⟨r1, e2, hm⟩ := bn_x hm
  refine aw_cv (rest := []) (st1 := [.int r1.2]) a 0 (kX8_noRule e2 h0 hf) rfl rfl ckX8_noRule lkX8_227 h0 eo_O_0 ⟨_, _, rfl⟩ nkX8_noRule rfl rfl rfl (Nat.le_of_ble_eq_true rfl) (Nat.zero_le _) (Nat.zero_le _) (by decide +kernel) (fun H3 z4 => ?_)
  obtain ⟨z4, hn⟩ := z4
  have h0 := hn
  have hs := hs.step z4 (by omega) (by omega)
  refine aw_if_ne (off := 24) 29 (by decide) (by decide +kernel) (fun hc => ?_) (fun hc => ?_)
  · have hm := (if_neg hc).symm.trans hm
    refine aw_b (pc' := 30) (lv' := [(0, .ref a), (1, .int i0), (2, .int i1)]) (st' := [.int (0 : Int32)]) [(29, .iconst 0, 1, .int (0 : Int32))] (by decide +kernel) rfl ?_
    obtain rfl := Option.some.inj hm
    subst hQ
    exact aw_iret rfl (Nat.zero_le _) (Nat.zero_le _) (by decide +kernel) ⟨rfl, hs, h0⟩
  · have hm := (if_pos hc).symm.trans hm
    refine aw_b (pc' := 11) (lv' := [(0, .ref a), (1, .int i0), (2, .int i1)]) (st' := [.int i1, .ref a, .ref a]) [(8, .aload_n 0, 1, .null), (9, .aload_n 0, 1, .null), (10, .iload_n 2, 1, .null)] (by decide +kernel) rfl ?_
    obtain ⟨r5, e6, hm⟩ := bn_x hm
    refine aw_cv (rest := [.ref a]) (st1 := [.int r5, .ref a]) a 0 (kX8_isRule e6 h0) rfl rfl ckX8_isRule lkX8_218 h0 eo_O_0 ⟨_, _, rfl⟩ nkX8_isRule rfl rfl rfl (Nat.le_of_ble_eq_true rfl) (Nat.zero_le _) (Nat.zero_le _) (by decide +kernel) (fun H7 z8 => ?_)
    have h0 := h0.kept0 z8
    have hs := hs.step0 z8
    have J22 : ∀ (z1_j22 : Int32) (H_j22 : Heap), has_ E H_j22 a ly_O r1.1 → sm_ H H_j22 a 10 → fX8_cheaper_j22 i0 i1 r1 z1_j22 = some r → aw E mX8_cheaper Q 22 [(0, .ref a), (1, .int i0), (2, .int i1)] [.int z1_j22, .ref a] H_j22 0 0 := by
      intro z1_j22 H_j22 h0 hs hm
      unfold fX8_cheaper_j22 at hm
      refine aw_b (pc' := 23) (lv' := [(0, .ref a), (1, .int i0), (2, .int i1)]) (st' := [.int (1 : Int32), .int z1_j22, .ref a]) [(22, .iconst 1, 1, .int (1 : Int32))] (by decide +kernel) rfl ?_
      obtain ⟨r9, e10, hm⟩ := bn_x hm
      refine aw_cv (rest := []) (st1 := [.int r9.2]) a 0 (kX8_throwsIf e10 h0 hf) rfl rfl ckX8_throwsIf lkX8_49 h0 eo_O_0 ⟨_, _, rfl⟩ nkX8_throwsIf rfl rfl rfl (Nat.le_of_ble_eq_true rfl) (Nat.zero_le _) (Nat.zero_le _) (by decide +kernel) (fun H11 z12 => ?_)
      obtain ⟨z12, hn⟩ := z12
      have h0 := hn
      have hs := hs.step z12 (by omega) (by omega)
      refine aw_if_eq (off := 5) 31 (by decide) (by decide +kernel) (fun hc => ?_) (fun hc => ?_)
      · have hm := (if_pos hc).symm.trans hm
        refine aw_b (pc' := 36) (lv' := [(4, .int (0 : Int32)), (3, .int (0 : Int32)), (0, .ref a), (1, .int i0), (2, .int i1)]) (st' := []) [(31, .iconst 0, 1, .int (0 : Int32)), (32, .istore_n 3, 1, .null), (33, .iconst 0, 1, .int (0 : Int32)), (34, .istore 4, 2, .null)] (by decide +kernel) rfl ?_
        obtain ⟨x36, hx36, hr36⟩ := bn_x hm
        have X36_79 : ∀ (v3_x36_79 : Int32) (H_x36_79 : Heap), has_ E H_x36_79 a ly_O r9.1 → sm_ H H_x36_79 a 10 → fX8_cheaper_x36_79 r9 v3_x36_79 = some r → aw E mX8_cheaper Q 79 [(3, .int v3_x36_79)] [] H_x36_79 0 0 := by
          intro v3_x36_79 H_x36_79 h0 hs hm
          unfold fX8_cheaper_x36_79 at hm
          refine aw_b (pc' := 80) (lv' := [(3, .int v3_x36_79)]) (st' := [.int v3_x36_79]) [(79, .iload_n 3, 1, .null)] (by decide +kernel) rfl ?_
          obtain rfl := Option.some.inj hm
          subst hQ
          exact aw_iret rfl (Nat.zero_le _) (Nat.zero_le _) (by decide +kernel) ⟨rfl, hs, h0⟩
        have L36 : ∀ (fu : Nat) (v3_b36 : Int32) (v4_b36 : Int32) (H_b36 : Heap), has_ E H_b36 a ly_O r9.1 → sm_ H H_b36 a 10 → fX8_cheaper_l36 i0 i1 r9 fu (v3_b36, v4_b36) = some x36 → aw E mX8_cheaper Q 36 [(0, .ref a), (1, .int i0), (2, .int i1), (3, .int v3_b36), (4, .int v4_b36)] [] H_b36 0 0 := by
          intro fu
          induction fu with
          | zero =>
            intro v3_b36 v4_b36 H_b36 h0 hs hm
            exact (it_0 hm).elim
          | succ fu ih36 =>
            intro v3_b36 v4_b36 H_b36 h0 hs hm
            obtain ⟨y36, hm, hk36⟩ := it_s hm
            have hm : fX8_cheaper_b36 i0 i1 r9 v3_b36 v4_b36 = some y36 := hm
            unfold fX8_cheaper_b36 at hm
            refine aw_b (pc' := 39) (lv' := [(0, .ref a), (1, .int i0), (2, .int i1), (3, .int v3_b36), (4, .int v4_b36)]) (st' := [.ref a, .int v4_b36]) [(36, .iload 4, 2, .null), (38, .aload_n 0, 1, .null)] (by decide +kernel) rfl ?_
            refine aw_gl (v := .ref (a + 1)) a 0 h0 eo_O_0 fgX8_9 rfl (by decide +kernel) ?_
            refine aw_b (pc' := 44) (lv' := [(0, .ref a), (1, .int i0), (2, .int i1), (3, .int v3_b36), (4, .int v4_b36)]) (st' := [.int (16 : Int32), .ref (a + 1), .int v4_b36]) [(42, .bipush 16, 2, .int (16 : Int32))] (by decide +kernel) rfl ?_
            obtain ⟨g13, hm⟩ := gd_x hm
            refine aw_ial a 1 h0 rfl g13 (by decide +kernel) ?_
            refine aw_ic_ge (off := 34) 79 (by decide) (by decide +kernel) (fun hc => ?_) (fun hc => ?_)
            · have hm := (if_pos hc).symm.trans hm
              cases hm
              refine aw_lv (lv' := [(3, .int v3_b36)]) [3] rfl ?_
              exact X36_79 v3_b36 H_b36 h0 hs ((congrArg (fX8_cheaper_k36 r9) (show (v3_b36) = x36 from hk36)).trans hr36)
            · have hm := (if_neg hc).symm.trans hm
              refine aw_b (pc' := 53) (lv' := [(0, .ref a), (1, .int i0), (2, .int i1), (3, .int v3_b36), (4, .int v4_b36)]) (st' := [.int v4_b36, .int i0, .ref a, .int v3_b36]) [(48, .iload_n 3, 1, .null), (49, .aload_n 0, 1, .null), (50, .iload_n 1, 1, .null), (51, .iload 4, 2, .null)] (by decide +kernel) rfl ?_
              obtain ⟨r14, e15, hm⟩ := bn_x hm
              refine aw_cv (rest := [.int v3_b36]) (st1 := [.int r14, .int v3_b36]) a 0 (kX8_costIn1 e15 h0) rfl rfl ckX8_costIn1 lkX8_401 h0 eo_O_0 ⟨_, _, rfl⟩ nkX8_costIn1 rfl rfl rfl (Nat.le_of_ble_eq_true rfl) (Nat.zero_le _) (Nat.zero_le _) (by decide +kernel) (fun H16 z17 => ?_)
              have h0 := h0.kept0 z17
              have hs := hs.step0 z17
              refine aw_b (pc' := 60) (lv' := [(0, .ref a), (1, .int i0), (2, .int i1), (3, .int v3_b36), (4, .int v4_b36)]) (st' := [.int v4_b36, .int i1, .ref a, .int r14, .int v3_b36]) [(56, .aload_n 0, 1, .null), (57, .iload_n 2, 1, .null), (58, .iload 4, 2, .null)] (by decide +kernel) rfl ?_
              obtain ⟨r18, e19, hm⟩ := bn_x hm
              refine aw_cv (rest := [.int r14, .int v3_b36]) (st1 := [.int r18, .int r14, .int v3_b36]) a 0 (kX8_costIn1 e19 h0) rfl rfl ckX8_costIn1 lkX8_401 h0 eo_O_0 ⟨_, _, rfl⟩ nkX8_costIn1 rfl rfl rfl (Nat.le_of_ble_eq_true rfl) (Nat.zero_le _) (Nat.zero_le _) (by decide +kernel) (fun H20 z21 => ?_)
              have h0 := h0.kept0 z21
              have hs := hs.step0 z21
              have J71 : ∀ (z1_j71 : Int32) (H_j71 : Heap), has_ E H_j71 a ly_O r9.1 → sm_ H H_j71 a 10 → fX8_cheaper_j71 v3_b36 v4_b36 z1_j71 = some y36 → aw E mX8_cheaper Q 71 [(0, .ref a), (1, .int i0), (2, .int i1), (4, .int v4_b36)] [.int z1_j71, .int v3_b36] H_j71 0 0 := by
                intro z1_j71 H_j71 h0 hs hm
                unfold fX8_cheaper_j71 at hm
                refine aw_b (pc' := 36) (lv' := [(4, .int (v4_b36 + (1 : Int32))), (3, .int (v3_b36 + z1_j71)), (0, .ref a), (1, .int i0), (2, .int i1)]) (st' := []) [(71, .iadd, 1, .null), (72, .istore_n 3, 1, .null), (73, .iinc 4 1, 3, .int (1 : Int32)), (76, .goto (-40), 3, .null)] (by decide +kernel) rfl ?_
                cases hm
                refine aw_lv (lv' := [(0, .ref a), (1, .int i0), (2, .int i1), (3, .int (v3_b36 + z1_j71)), (4, .int (v4_b36 + (1 : Int32)))]) [2, 3, 4, 1, 0] rfl ?_
                exact ih36 (v3_b36 + z1_j71) (v4_b36 + (1 : Int32)) H_j71 h0 hs hk36
              refine aw_ic_ge (off := 7) 70 (by decide) (by decide +kernel) (fun hc => ?_) (fun hc => ?_)
              · have hm := (if_pos hc).symm.trans hm
                refine aw_b (pc' := 71) (lv' := [(0, .ref a), (1, .int i0), (2, .int i1), (3, .int v3_b36), (4, .int v4_b36)]) (st' := [.int (0 : Int32), .int v3_b36]) [(70, .iconst 0, 1, .int (0 : Int32))] (by decide +kernel) rfl ?_
                refine aw_lv (lv' := [(0, .ref a), (1, .int i0), (2, .int i1), (4, .int v4_b36)]) [0, 1, 2, 4] rfl ?_
                exact J71 (0 : Int32) H20 h0 hs hm
              · have hm := (if_neg hc).symm.trans hm
                refine aw_b (pc' := 71) (lv' := [(0, .ref a), (1, .int i0), (2, .int i1), (3, .int v3_b36), (4, .int v4_b36)]) (st' := [.int (1 : Int32), .int v3_b36]) [(66, .iconst 1, 1, .int (1 : Int32)), (67, .goto 4, 3, .null)] (by decide +kernel) rfl ?_
                refine aw_lv (lv' := [(0, .ref a), (1, .int i0), (2, .int i1), (4, .int v4_b36)]) [0, 1, 2, 4] rfl ?_
                exact J71 (1 : Int32) H20 h0 hs hm
        refine aw_lv (lv' := [(0, .ref a), (1, .int i0), (2, .int i1), (3, .int (0 : Int32)), (4, .int (0 : Int32))]) [2, 3, 4, 1, 0] rfl ?_
        exact L36 FU_ (0 : Int32) (0 : Int32) H11 h0 hs hx36
      · have hm := (if_neg hc).symm.trans hm
        refine aw_b (pc' := 30) (lv' := [(0, .ref a), (1, .int i0), (2, .int i1)]) (st' := [.int (0 : Int32)]) [(29, .iconst 0, 1, .int (0 : Int32))] (by decide +kernel) rfl ?_
        obtain rfl := Option.some.inj hm
        subst hQ
        exact aw_iret rfl (Nat.zero_le _) (Nat.zero_le _) (by decide +kernel) ⟨rfl, hs, h0⟩
    refine aw_if_ne (off := 7) 21 (by decide) (by decide +kernel) (fun hc => ?_) (fun hc => ?_)
    · have hm := (if_neg hc).symm.trans hm
      refine aw_b (pc' := 22) (lv' := [(0, .ref a), (1, .int i0), (2, .int i1)]) (st' := [.int (0 : Int32), .ref a]) [(21, .iconst 0, 1, .int (0 : Int32))] (by decide +kernel) rfl ?_
      exact J22 (0 : Int32) H7 h0 hs hm
    · have hm := (if_pos hc).symm.trans hm
      refine aw_b (pc' := 22) (lv' := [(0, .ref a), (1, .int i0), (2, .int i1)]) (st' := [.int (1 : Int32), .ref a]) [(17, .iconst 1, 1, .int (1 : Int32)), (18, .goto 4, 3, .null)] (by decide +kernel) rfl ?_
      exact J22 (1 : Int32) H7 h0 hs hm
def mX8_leads : mt_ := (yX8_leads, cX8_leads, 4, some .int, [], { frames := 3, locals := 67, cells := 0, slots := 0 })
theorem ckX8_leads : cokV_ mX8_leads := ⟨⟨(uw_mem 1857 (by decide +kernel) (by decide +kernel)), (uw_mem 112 (by decide +kernel) (by decide +kernel)), by decide +kernel, by decide +kernel⟩, (uw_mem 1855 (by decide +kernel) (by decide +kernel)), (uw_mem 1856 (by decide +kernel) (by decide +kernel))⟩
theorem nkX8_leads : nok_ mX8_leads 1 := by decide +kernel
def fX8_leads_x14_53 (r1 : st_ × Int32) (v2_x14_53 : Int32) : Option (st_ × Int32) :=
  some (r1.1, v2_x14_53)
def fX8_leads_k14 (r1 : st_ × Int32) (x : Int32) : Option (st_ × Int32) :=
  fX8_leads_x14_53 r1 x
def fX8_leads_j45 (v2_b14 : Int32) (v3_b14 : Int32) (z1_j45 : Int32) : Option ((Int32 × Int32) ⊕ (Int32)) :=
  some (.inl ((v2_b14 + z1_j45), (v3_b14 + (1 : Int32))))
def fX8_leads_b14 (i0 : Int32) (r1 : st_ × Int32) (v2_b14 : Int32) (v3_b14 : Int32) : Option ((Int32 × Int32) ⊕ (Int32)) :=
  gd_ (ib_ (16 : Int32) 12584) <|
  if (r1.1 1 (ix_ (16 : Int32))) ≤ v3_b14 then (some (.inr v2_b14))
  else (gd_ (ib_ ((1748 : Int32) + v3_b14) 12584) <|
  if (r1.1 1 (ix_ ((1748 : Int32) + v3_b14))) = i0 then (fX8_leads_j45 v2_b14 v3_b14 (1 : Int32))
  else (fX8_leads_j45 v2_b14 v3_b14 (0 : Int32)))
def fX8_leads_l14 (i0 : Int32) (r1 : st_ × Int32) : Nat → (Int32 × Int32) → Option (Int32) :=
  it_ (fun v => fX8_leads_b14 i0 r1 v.1 v.2)
def fX8_leads (s : st_) (i0 : Int32) : Option (st_ × Int32) :=
  bn_ (fX8_noRule s i0) fun r1 =>
  if r1.2 = (0 : Int32) then (bn_ (fX8_leads_l14 i0 r1 FU_ ((0 : Int32), (0 : Int32))) (fX8_leads_k14 r1))
  else (some (r1.1, (0 : Int32)))
set_option maxRecDepth 8000 in
theorem kX8_leads {E : ev_} {H : Heap} {a : Nat} {s : st_} {i0 : Int32} {r : st_ × Int32} (hm : fX8_leads s i0 = some r) (h0 : has_ E H a ly_O s) (hf : ev_fr E a) : sp_ E mX8_leads [.ref a, .int i0] H (po1 (.inl (some (.int r.2))) (fun Hn => sm_ H Hn a 10 ∧ has_ E Hn a ly_O r.1)) := by
  refine sp_of (by decide +kernel) rfl rfl ?_
  generalize hQ : po1 _ _ = Q
  have hs : sm_ H H a 10 := sm_.rfl'
  unfold fX8_leads at hm
  refine aw_lv (lv' := [(0, .ref a), (1, .int i0)]) [0, 1] rfl ?_
  refine aw_b (pc' := 2) (lv' := [(0, .ref a), (1, .int i0)]) (st' := [.int i0, .ref a]) [(0, .aload_n 0, 1, .null), (1, .iload_n 1, 1, .null)] (by decide +kernel) rfl ?_
  obtain ⟨r1, e2, hm⟩ := bn_x hm
  refine aw_cv (rest := []) (st1 := [.int r1.2]) a 0 (kX8_noRule e2 h0 hf) rfl rfl ckX8_noRule lkX8_227 h0 eo_O_0 ⟨_, _, rfl⟩ nkX8_noRule rfl rfl rfl (Nat.le_of_ble_eq_true rfl) (Nat.zero_le _) (Nat.zero_le _) (by decide +kernel) (fun H3 z4 => ?_)
  obtain ⟨z4, hn⟩ := z4
  have h0 := hn
  have hs := hs.step z4 (by omega) (by omega)
  refine aw_if_eq (off := 5) 10 (by decide) (by decide +kernel) (fun hc => ?_) (fun hc => ?_)
  · have hm := (if_pos hc).symm.trans hm
    refine aw_b (pc' := 14) (lv' := [(3, .int (0 : Int32)), (2, .int (0 : Int32)), (0, .ref a), (1, .int i0)]) (st' := []) [(10, .iconst 0, 1, .int (0 : Int32)), (11, .istore_n 2, 1, .null), (12, .iconst 0, 1, .int (0 : Int32)), (13, .istore_n 3, 1, .null)] (by decide +kernel) rfl ?_
    obtain ⟨x14, hx14, hr14⟩ := bn_x hm
    have X14_53 : ∀ (v2_x14_53 : Int32) (H_x14_53 : Heap), has_ E H_x14_53 a ly_O r1.1 → sm_ H H_x14_53 a 10 → fX8_leads_x14_53 r1 v2_x14_53 = some r → aw E mX8_leads Q 53 [(2, .int v2_x14_53)] [] H_x14_53 0 0 := by
      intro v2_x14_53 H_x14_53 h0 hs hm
      unfold fX8_leads_x14_53 at hm
      refine aw_b (pc' := 54) (lv' := [(2, .int v2_x14_53)]) (st' := [.int v2_x14_53]) [(53, .iload_n 2, 1, .null)] (by decide +kernel) rfl ?_
      obtain rfl := Option.some.inj hm
      subst hQ
      exact aw_iret rfl (Nat.zero_le _) (Nat.zero_le _) (by decide +kernel) ⟨rfl, hs, h0⟩
    have L14 : ∀ (fu : Nat) (v2_b14 : Int32) (v3_b14 : Int32) (H_b14 : Heap), has_ E H_b14 a ly_O r1.1 → sm_ H H_b14 a 10 → fX8_leads_l14 i0 r1 fu (v2_b14, v3_b14) = some x14 → aw E mX8_leads Q 14 [(0, .ref a), (1, .int i0), (2, .int v2_b14), (3, .int v3_b14)] [] H_b14 0 0 := by
      intro fu
      induction fu with
      | zero =>
        intro v2_b14 v3_b14 H_b14 h0 hs hm
        exact (it_0 hm).elim
      | succ fu ih14 =>
        intro v2_b14 v3_b14 H_b14 h0 hs hm
        obtain ⟨y14, hm, hk14⟩ := it_s hm
        have hm : fX8_leads_b14 i0 r1 v2_b14 v3_b14 = some y14 := hm
        unfold fX8_leads_b14 at hm
        refine aw_b (pc' := 16) (lv' := [(0, .ref a), (1, .int i0), (2, .int v2_b14), (3, .int v3_b14)]) (st' := [.ref a, .int v3_b14]) [(14, .iload_n 3, 1, .null), (15, .aload_n 0, 1, .null)] (by decide +kernel) rfl ?_
        refine aw_gl (v := .ref (a + 1)) a 0 h0 eo_O_0 fgX8_9 rfl (by decide +kernel) ?_
        refine aw_b (pc' := 21) (lv' := [(0, .ref a), (1, .int i0), (2, .int v2_b14), (3, .int v3_b14)]) (st' := [.int (16 : Int32), .ref (a + 1), .int v3_b14]) [(19, .bipush 16, 2, .int (16 : Int32))] (by decide +kernel) rfl ?_
        obtain ⟨g5, hm⟩ := gd_x hm
        refine aw_ial a 1 h0 rfl g5 (by decide +kernel) ?_
        refine aw_ic_ge (off := 31) 53 (by decide) (by decide +kernel) (fun hc => ?_) (fun hc => ?_)
        · have hm := (if_pos hc).symm.trans hm
          cases hm
          refine aw_lv (lv' := [(2, .int v2_b14)]) [2] rfl ?_
          exact X14_53 v2_b14 H_b14 h0 hs ((congrArg (fX8_leads_k14 r1) (show (v2_b14) = x14 from hk14)).trans hr14)
        · have hm := (if_neg hc).symm.trans hm
          refine aw_b (pc' := 27) (lv' := [(0, .ref a), (1, .int i0), (2, .int v2_b14), (3, .int v3_b14)]) (st' := [.ref a, .int v2_b14]) [(25, .iload_n 2, 1, .null), (26, .aload_n 0, 1, .null)] (by decide +kernel) rfl ?_
          refine aw_gl (v := .ref (a + 1)) a 0 h0 eo_O_0 fgX8_9 rfl (by decide +kernel) ?_
          refine aw_b (pc' := 35) (lv' := [(0, .ref a), (1, .int i0), (2, .int v2_b14), (3, .int v3_b14)]) (st' := [.int ((1748 : Int32) + v3_b14), .ref (a + 1), .int v2_b14]) [(30, .sipush 1748, 3, .int (1748 : Int32)), (33, .iload_n 3, 1, .null), (34, .iadd, 1, .null)] (by decide +kernel) rfl ?_
          obtain ⟨g6, hm⟩ := gd_x hm
          refine aw_ial a 1 h0 rfl g6 (by decide +kernel) ?_
          refine aw_b (pc' := 37) (lv' := [(0, .ref a), (1, .int i0), (2, .int v2_b14), (3, .int v3_b14)]) (st' := [.int i0, .int (r1.1 1 (ix_ ((1748 : Int32) + v3_b14))), .int v2_b14]) [(36, .iload_n 1, 1, .null)] (by decide +kernel) rfl ?_
          have J45 : ∀ (z1_j45 : Int32) (H_j45 : Heap), has_ E H_j45 a ly_O r1.1 → sm_ H H_j45 a 10 → fX8_leads_j45 v2_b14 v3_b14 z1_j45 = some y14 → aw E mX8_leads Q 45 [(0, .ref a), (1, .int i0), (3, .int v3_b14)] [.int z1_j45, .int v2_b14] H_j45 0 0 := by
            intro z1_j45 H_j45 h0 hs hm
            unfold fX8_leads_j45 at hm
            refine aw_b (pc' := 14) (lv' := [(3, .int (v3_b14 + (1 : Int32))), (2, .int (v2_b14 + z1_j45)), (0, .ref a), (1, .int i0)]) (st' := []) [(45, .iadd, 1, .null), (46, .istore_n 2, 1, .null), (47, .iinc 3 1, 3, .int (1 : Int32)), (50, .goto (-36), 3, .null)] (by decide +kernel) rfl ?_
            cases hm
            refine aw_lv (lv' := [(0, .ref a), (1, .int i0), (2, .int (v2_b14 + z1_j45)), (3, .int (v3_b14 + (1 : Int32)))]) [2, 3, 1, 0] rfl ?_
            exact ih14 (v2_b14 + z1_j45) (v3_b14 + (1 : Int32)) H_j45 h0 hs hk14
          refine aw_ic_ne (off := 7) 44 (by decide) (by decide +kernel) (fun hc => ?_) (fun hc => ?_)
          · have hm := (if_neg hc).symm.trans hm
            refine aw_b (pc' := 45) (lv' := [(0, .ref a), (1, .int i0), (2, .int v2_b14), (3, .int v3_b14)]) (st' := [.int (0 : Int32), .int v2_b14]) [(44, .iconst 0, 1, .int (0 : Int32))] (by decide +kernel) rfl ?_
            refine aw_lv (lv' := [(0, .ref a), (1, .int i0), (3, .int v3_b14)]) [0, 1, 3] rfl ?_
            exact J45 (0 : Int32) H_b14 h0 hs hm
          · have hm := (if_pos hc).symm.trans hm
            refine aw_b (pc' := 45) (lv' := [(0, .ref a), (1, .int i0), (2, .int v2_b14), (3, .int v3_b14)]) (st' := [.int (1 : Int32), .int v2_b14]) [(40, .iconst 1, 1, .int (1 : Int32)), (41, .goto 4, 3, .null)] (by decide +kernel) rfl ?_
            refine aw_lv (lv' := [(0, .ref a), (1, .int i0), (3, .int v3_b14)]) [0, 1, 3] rfl ?_
            exact J45 (1 : Int32) H_b14 h0 hs hm
    refine aw_lv (lv' := [(0, .ref a), (1, .int i0), (2, .int (0 : Int32)), (3, .int (0 : Int32))]) [2, 3, 1, 0] rfl ?_
    exact L14 FU_ (0 : Int32) (0 : Int32) H3 h0 hs hx14
  · have hm := (if_neg hc).symm.trans hm
    refine aw_b (pc' := 9) (lv' := [(0, .ref a), (1, .int i0)]) (st' := [.int (0 : Int32)]) [(8, .iconst 0, 1, .int (0 : Int32))] (by decide +kernel) rfl ?_
    obtain rfl := Option.some.inj hm
    subst hQ
    exact aw_iret rfl (Nat.zero_le _) (Nat.zero_le _) (by decide +kernel) ⟨rfl, hs, h0⟩
def mX8_switches : mt_ := (yX8_switches, cX8_switches, 3, some .int, [], { frames := 0, locals := 0, cells := 0, slots := 0 })
theorem ckX8_switches : cokV_ mX8_switches := ⟨⟨(uw_mem 1861 (by decide +kernel) (by decide +kernel)), (uw_mem 112 (by decide +kernel) (by decide +kernel)), by decide +kernel, by decide +kernel⟩, (uw_mem 1859 (by decide +kernel) (by decide +kernel)), (uw_mem 1860 (by decide +kernel) (by decide +kernel))⟩
theorem nkX8_switches : nok_ mX8_switches 0 := by decide +kernel
def fX8_switches_x9_59 (s1 : st_) (v1_x9_59 : Int32) : Option (st_ × Int32) :=
  some (s1, v1_x9_59)
def fX8_switches_k9 (s1 : st_) (x : Int32) : Option (st_ × Int32) :=
  fX8_switches_x9_59 s1 x
def fX8_switches_j51 (v1_b9 : Int32) (v2_b9 : Int32) (z1_j51 : Int32) : Option ((Int32 × Int32) ⊕ (Int32)) :=
  some (.inl ((v1_b9 + z1_j51), (v2_b9 + (1 : Int32))))
def fX8_switches_b9 (s1 : st_) (v1_b9 : Int32) (v2_b9 : Int32) : Option ((Int32 × Int32) ⊕ (Int32)) :=
  gd_ (ib_ (16 : Int32) 12584) <|
  if (s1 1 (ix_ (16 : Int32))) ≤ v2_b9 then (some (.inr v1_b9))
  else (gd_ (ib_ ((548 : Int32) + v2_b9) 12584) <|
  gd_ (ib_ (((548 : Int32) + v2_b9) - (1 : Int32)) 12584) <|
  if (s1 1 (ix_ ((548 : Int32) + v2_b9))) = (s1 1 (ix_ (((548 : Int32) + v2_b9) - (1 : Int32)))) then (fX8_switches_j51 v1_b9 v2_b9 (0 : Int32))
  else (fX8_switches_j51 v1_b9 v2_b9 (1 : Int32)))
def fX8_switches_l9 (s1 : st_) : Nat → (Int32 × Int32) → Option (Int32) :=
  it_ (fun v => fX8_switches_b9 s1 v.1 v.2)
def fX8_switches (s : st_) : Option (st_ × Int32) :=
  bd_ (pt_ s 0 6 (0 : Int32)) fun s1 =>
  bn_ (fX8_switches_l9 s1 FU_ ((0 : Int32), (1 : Int32))) (fX8_switches_k9 s1)
set_option maxRecDepth 8000 in
theorem kX8_switches {E : ev_} {H : Heap} {a : Nat} {s : st_} {r : st_ × Int32} (hm : fX8_switches s = some r) (h0 : has_ E H a ly_O s) (hf : ev_fr E a) : sp_ E mX8_switches [.ref a] H (po1 (.inl (some (.int r.2))) (fun Hn => sm_ H Hn a 10 ∧ has_ E Hn a ly_O r.1)) := by
  refine sp_of (by decide +kernel) rfl rfl ?_
  generalize hQ : po1 _ _ = Q
  have hs : sm_ H H a 10 := sm_.rfl'
  unfold fX8_switches at hm
  refine aw_lv (lv' := [(0, .ref a)]) [0] rfl ?_
  refine aw_b (pc' := 2) (lv' := [(0, .ref a)]) (st' := [.int (0 : Int32), .ref a]) [(0, .aload_n 0, 1, .null), (1, .iconst 0, 1, .int (0 : Int32))] (by decide +kernel) rfl ?_
  obtain ⟨s1, e2, hm⟩ := bd_x hm
  refine aw_pl a 0 h0 eo_O_0 fsq_8_6 fpX8_45 hf rfl rfl e2 (by decide +kernel) (fun H3 h0 z4 => ?_)
  have hs := hs.step z4 (by omega) (by omega)
  refine aw_b (pc' := 9) (lv' := [(2, .int (1 : Int32)), (1, .int (0 : Int32)), (0, .ref a)]) (st' := []) [(5, .iconst 0, 1, .int (0 : Int32)), (6, .istore_n 1, 1, .null), (7, .iconst 1, 1, .int (1 : Int32)), (8, .istore_n 2, 1, .null)] (by decide +kernel) rfl ?_
  obtain ⟨x9, hx9, hr9⟩ := bn_x hm
  have X9_59 : ∀ (v1_x9_59 : Int32) (H_x9_59 : Heap), has_ E H_x9_59 a ly_O s1 → sm_ H H_x9_59 a 10 → fX8_switches_x9_59 s1 v1_x9_59 = some r → aw E mX8_switches Q 59 [(1, .int v1_x9_59)] [] H_x9_59 0 0 := by
    intro v1_x9_59 H_x9_59 h0 hs hm
    unfold fX8_switches_x9_59 at hm
    refine aw_b (pc' := 60) (lv' := [(1, .int v1_x9_59)]) (st' := [.int v1_x9_59]) [(59, .iload_n 1, 1, .null)] (by decide +kernel) rfl ?_
    obtain rfl := Option.some.inj hm
    subst hQ
    exact aw_iret rfl (Nat.zero_le _) (Nat.zero_le _) (by decide +kernel) ⟨rfl, hs, h0⟩
  have L9 : ∀ (fu : Nat) (v1_b9 : Int32) (v2_b9 : Int32) (H_b9 : Heap), has_ E H_b9 a ly_O s1 → sm_ H H_b9 a 10 → fX8_switches_l9 s1 fu (v1_b9, v2_b9) = some x9 → aw E mX8_switches Q 9 [(0, .ref a), (1, .int v1_b9), (2, .int v2_b9)] [] H_b9 0 0 := by
    intro fu
    induction fu with
    | zero =>
      intro v1_b9 v2_b9 H_b9 h0 hs hm
      exact (it_0 hm).elim
    | succ fu ih9 =>
      intro v1_b9 v2_b9 H_b9 h0 hs hm
      obtain ⟨y9, hm, hk9⟩ := it_s hm
      have hm : fX8_switches_b9 s1 v1_b9 v2_b9 = some y9 := hm
      unfold fX8_switches_b9 at hm
      refine aw_b (pc' := 11) (lv' := [(0, .ref a), (1, .int v1_b9), (2, .int v2_b9)]) (st' := [.ref a, .int v2_b9]) [(9, .iload_n 2, 1, .null), (10, .aload_n 0, 1, .null)] (by decide +kernel) rfl ?_
      refine aw_gl (v := .ref (a + 1)) a 0 h0 eo_O_0 fgX8_9 rfl (by decide +kernel) ?_
      refine aw_b (pc' := 16) (lv' := [(0, .ref a), (1, .int v1_b9), (2, .int v2_b9)]) (st' := [.int (16 : Int32), .ref (a + 1), .int v2_b9]) [(14, .bipush 16, 2, .int (16 : Int32))] (by decide +kernel) rfl ?_
      obtain ⟨g5, hm⟩ := gd_x hm
      refine aw_ial a 1 h0 rfl g5 (by decide +kernel) ?_
      refine aw_ic_ge (off := 42) 59 (by decide) (by decide +kernel) (fun hc => ?_) (fun hc => ?_)
      · have hm := (if_pos hc).symm.trans hm
        cases hm
        refine aw_lv (lv' := [(1, .int v1_b9)]) [1] rfl ?_
        exact X9_59 v1_b9 H_b9 h0 hs ((congrArg (fX8_switches_k9 s1) (show (v1_b9) = x9 from hk9)).trans hr9)
      · have hm := (if_neg hc).symm.trans hm
        refine aw_b (pc' := 22) (lv' := [(0, .ref a), (1, .int v1_b9), (2, .int v2_b9)]) (st' := [.ref a, .int v1_b9]) [(20, .iload_n 1, 1, .null), (21, .aload_n 0, 1, .null)] (by decide +kernel) rfl ?_
        refine aw_gl (v := .ref (a + 1)) a 0 h0 eo_O_0 fgX8_9 rfl (by decide +kernel) ?_
        refine aw_b (pc' := 30) (lv' := [(0, .ref a), (1, .int v1_b9), (2, .int v2_b9)]) (st' := [.int ((548 : Int32) + v2_b9), .ref (a + 1), .int v1_b9]) [(25, .sipush 548, 3, .int (548 : Int32)), (28, .iload_n 2, 1, .null), (29, .iadd, 1, .null)] (by decide +kernel) rfl ?_
        obtain ⟨g6, hm⟩ := gd_x hm
        refine aw_ial a 1 h0 rfl g6 (by decide +kernel) ?_
        refine aw_b (pc' := 32) (lv' := [(0, .ref a), (1, .int v1_b9), (2, .int v2_b9)]) (st' := [.ref a, .int (s1 1 (ix_ ((548 : Int32) + v2_b9))), .int v1_b9]) [(31, .aload_n 0, 1, .null)] (by decide +kernel) rfl ?_
        refine aw_gl (v := .ref (a + 1)) a 0 h0 eo_O_0 fgX8_9 rfl (by decide +kernel) ?_
        refine aw_b (pc' := 42) (lv' := [(0, .ref a), (1, .int v1_b9), (2, .int v2_b9)]) (st' := [.int (((548 : Int32) + v2_b9) - (1 : Int32)), .ref (a + 1), .int (s1 1 (ix_ ((548 : Int32) + v2_b9))), .int v1_b9]) [(35, .sipush 548, 3, .int (548 : Int32)), (38, .iload_n 2, 1, .null), (39, .iadd, 1, .null), (40, .iconst 1, 1, .int (1 : Int32)), (41, .isub, 1, .null)] (by decide +kernel) rfl ?_
        obtain ⟨g7, hm⟩ := gd_x hm
        refine aw_ial a 1 h0 rfl g7 (by decide +kernel) ?_
        have J51 : ∀ (z1_j51 : Int32) (H_j51 : Heap), has_ E H_j51 a ly_O s1 → sm_ H H_j51 a 10 → fX8_switches_j51 v1_b9 v2_b9 z1_j51 = some y9 → aw E mX8_switches Q 51 [(0, .ref a), (2, .int v2_b9)] [.int z1_j51, .int v1_b9] H_j51 0 0 := by
          intro z1_j51 H_j51 h0 hs hm
          unfold fX8_switches_j51 at hm
          refine aw_b (pc' := 9) (lv' := [(2, .int (v2_b9 + (1 : Int32))), (1, .int (v1_b9 + z1_j51)), (0, .ref a)]) (st' := []) [(51, .iadd, 1, .null), (52, .istore_n 1, 1, .null), (53, .iinc 2 1, 3, .int (1 : Int32)), (56, .goto (-47), 3, .null)] (by decide +kernel) rfl ?_
          cases hm
          refine aw_lv (lv' := [(0, .ref a), (1, .int (v1_b9 + z1_j51)), (2, .int (v2_b9 + (1 : Int32)))]) [2, 1, 0] rfl ?_
          exact ih9 (v1_b9 + z1_j51) (v2_b9 + (1 : Int32)) H_j51 h0 hs hk9
        refine aw_ic_eq (off := 7) 50 (by decide) (by decide +kernel) (fun hc => ?_) (fun hc => ?_)
        · have hm := (if_pos hc).symm.trans hm
          refine aw_b (pc' := 51) (lv' := [(0, .ref a), (1, .int v1_b9), (2, .int v2_b9)]) (st' := [.int (0 : Int32), .int v1_b9]) [(50, .iconst 0, 1, .int (0 : Int32))] (by decide +kernel) rfl ?_
          refine aw_lv (lv' := [(0, .ref a), (2, .int v2_b9)]) [0, 2] rfl ?_
          exact J51 (0 : Int32) H_b9 h0 hs hm
        · have hm := (if_neg hc).symm.trans hm
          refine aw_b (pc' := 51) (lv' := [(0, .ref a), (1, .int v1_b9), (2, .int v2_b9)]) (st' := [.int (1 : Int32), .int v1_b9]) [(46, .iconst 1, 1, .int (1 : Int32)), (47, .goto 4, 3, .null)] (by decide +kernel) rfl ?_
          refine aw_lv (lv' := [(0, .ref a), (2, .int v2_b9)]) [0, 2] rfl ?_
          exact J51 (1 : Int32) H_b9 h0 hs hm
  refine aw_lv (lv' := [(0, .ref a), (1, .int (0 : Int32)), (2, .int (1 : Int32))]) [2, 1, 0] rfl ?_
  exact L9 FU_ (0 : Int32) (1 : Int32) H3 h0 hs hx9
def mX8_streak : mt_ := (yX8_streak, cX8_streak, 5, some .int, [], { frames := 3, locals := 67, cells := 0, slots := 0 })
theorem ckX8_streak : cokV_ mX8_streak := ⟨⟨(uw_mem 1865 (by decide +kernel) (by decide +kernel)), (uw_mem 112 (by decide +kernel) (by decide +kernel)), by decide +kernel, by decide +kernel⟩, (uw_mem 1863 (by decide +kernel) (by decide +kernel)), (uw_mem 1864 (by decide +kernel) (by decide +kernel))⟩
theorem nkX8_streak : nok_ mX8_streak 1 := by decide +kernel
def fX8_streak_x17_64 (r1 : st_ × Int32) (v2_x17_64 : Int32) : Option (st_ × Int32) :=
  some (r1.1, v2_x17_64)
def fX8_streak_k17 (r1 : st_ × Int32) (x : Int32) : Option (st_ × Int32) :=
  fX8_streak_x17_64 r1 x
def fX8_streak_j51 (v2_b17 : Int32) (v4_b17 : Int32) (z0_j51 : Int32) : Option ((Int32 × Int32 × Int32) ⊕ (Int32)) :=
  some (.inl ((if v2_b17 < z0_j51 then z0_j51 else v2_b17), z0_j51, (v4_b17 + (1 : Int32))))
def fX8_streak_b17 (i0 : Int32) (r1 : st_ × Int32) (v2_b17 : Int32) (v3_b17 : Int32) (v4_b17 : Int32) : Option ((Int32 × Int32 × Int32) ⊕ (Int32)) :=
  gd_ (ib_ (16 : Int32) 12584) <|
  if (r1.1 1 (ix_ (16 : Int32))) ≤ v4_b17 then (some (.inr v2_b17))
  else (gd_ (ib_ ((548 : Int32) + v4_b17) 12584) <|
  if (r1.1 1 (ix_ ((548 : Int32) + v4_b17))) = i0 then (fX8_streak_j51 v2_b17 v4_b17 (v3_b17 + (1 : Int32)))
  else (fX8_streak_j51 v2_b17 v4_b17 (0 : Int32)))
def fX8_streak_l17 (i0 : Int32) (r1 : st_ × Int32) : Nat → (Int32 × Int32 × Int32) → Option (Int32) :=
  it_ (fun v => fX8_streak_b17 i0 r1 v.1 v.2.1 v.2.2)
def fX8_streak (s : st_) (i0 : Int32) : Option (st_ × Int32) :=
  bn_ (fX8_noRule s i0) fun r1 =>
  if r1.2 = (0 : Int32) then (bn_ (fX8_streak_l17 i0 r1 FU_ ((0 : Int32), (0 : Int32), (0 : Int32))) (fX8_streak_k17 r1))
  else (some (r1.1, (0 : Int32)))
set_option maxRecDepth 8000 in
theorem kX8_streak {E : ev_} {H : Heap} {a : Nat} {s : st_} {i0 : Int32} {r : st_ × Int32} (hm : fX8_streak s i0 = some r) (h0 : has_ E H a ly_O s) (hf : ev_fr E a) : sp_ E mX8_streak [.ref a, .int i0] H (po1 (.inl (some (.int r.2))) (fun Hn => sm_ H Hn a 10 ∧ has_ E Hn a ly_O r.1)) := by
  refine sp_of (by decide +kernel) rfl rfl ?_
  generalize hQ : po1 _ _ = Q
  have hs : sm_ H H a 10 := sm_.rfl'
  unfold fX8_streak at hm
  refine aw_lv (lv' := [(0, .ref a), (1, .int i0)]) [0, 1] rfl ?_
  refine aw_b (pc' := 2) (lv' := [(0, .ref a), (1, .int i0)]) (st' := [.int i0, .ref a]) [(0, .aload_n 0, 1, .null), (1, .iload_n 1, 1, .null)] (by decide +kernel) rfl ?_
  obtain ⟨r1, e2, hm⟩ := bn_x hm
  refine aw_cv (rest := []) (st1 := [.int r1.2]) a 0 (kX8_noRule e2 h0 hf) rfl rfl ckX8_noRule lkX8_227 h0 eo_O_0 ⟨_, _, rfl⟩ nkX8_noRule rfl rfl rfl (Nat.le_of_ble_eq_true rfl) (Nat.zero_le _) (Nat.zero_le _) (by decide +kernel) (fun H3 z4 => ?_)
  obtain ⟨z4, hn⟩ := z4
  have h0 := hn
  have hs := hs.step z4 (by omega) (by omega)
  refine aw_if_eq (off := 5) 10 (by decide) (by decide +kernel) (fun hc => ?_) (fun hc => ?_)
  · have hm := (if_pos hc).symm.trans hm
    refine aw_b (pc' := 17) (lv' := [(4, .int (0 : Int32)), (3, .int (0 : Int32)), (2, .int (0 : Int32)), (0, .ref a), (1, .int i0)]) (st' := []) [(10, .iconst 0, 1, .int (0 : Int32)), (11, .istore_n 2, 1, .null), (12, .iconst 0, 1, .int (0 : Int32)), (13, .istore_n 3, 1, .null), (14, .iconst 0, 1, .int (0 : Int32)), (15, .istore 4, 2, .null)] (by decide +kernel) rfl ?_
    obtain ⟨x17, hx17, hr17⟩ := bn_x hm
    have X17_64 : ∀ (v2_x17_64 : Int32) (H_x17_64 : Heap), has_ E H_x17_64 a ly_O r1.1 → sm_ H H_x17_64 a 10 → fX8_streak_x17_64 r1 v2_x17_64 = some r → aw E mX8_streak Q 64 [(2, .int v2_x17_64)] [] H_x17_64 0 0 := by
      intro v2_x17_64 H_x17_64 h0 hs hm
      unfold fX8_streak_x17_64 at hm
      refine aw_b (pc' := 65) (lv' := [(2, .int v2_x17_64)]) (st' := [.int v2_x17_64]) [(64, .iload_n 2, 1, .null)] (by decide +kernel) rfl ?_
      obtain rfl := Option.some.inj hm
      subst hQ
      exact aw_iret rfl (Nat.zero_le _) (Nat.zero_le _) (by decide +kernel) ⟨rfl, hs, h0⟩
    have L17 : ∀ (fu : Nat) (v2_b17 : Int32) (v3_b17 : Int32) (v4_b17 : Int32) (H_b17 : Heap), has_ E H_b17 a ly_O r1.1 → sm_ H H_b17 a 10 → fX8_streak_l17 i0 r1 fu (v2_b17, v3_b17, v4_b17) = some x17 → aw E mX8_streak Q 17 [(0, .ref a), (1, .int i0), (2, .int v2_b17), (3, .int v3_b17), (4, .int v4_b17)] [] H_b17 0 0 := by
      intro fu
      induction fu with
      | zero =>
        intro v2_b17 v3_b17 v4_b17 H_b17 h0 hs hm
        exact (it_0 hm).elim
      | succ fu ih17 =>
        intro v2_b17 v3_b17 v4_b17 H_b17 h0 hs hm
        obtain ⟨y17, hm, hk17⟩ := it_s hm
        have hm : fX8_streak_b17 i0 r1 v2_b17 v3_b17 v4_b17 = some y17 := hm
        unfold fX8_streak_b17 at hm
        refine aw_b (pc' := 20) (lv' := [(0, .ref a), (1, .int i0), (2, .int v2_b17), (3, .int v3_b17), (4, .int v4_b17)]) (st' := [.ref a, .int v4_b17]) [(17, .iload 4, 2, .null), (19, .aload_n 0, 1, .null)] (by decide +kernel) rfl ?_
        refine aw_gl (v := .ref (a + 1)) a 0 h0 eo_O_0 fgX8_9 rfl (by decide +kernel) ?_
        refine aw_b (pc' := 25) (lv' := [(0, .ref a), (1, .int i0), (2, .int v2_b17), (3, .int v3_b17), (4, .int v4_b17)]) (st' := [.int (16 : Int32), .ref (a + 1), .int v4_b17]) [(23, .bipush 16, 2, .int (16 : Int32))] (by decide +kernel) rfl ?_
        obtain ⟨g5, hm⟩ := gd_x hm
        refine aw_ial a 1 h0 rfl g5 (by decide +kernel) ?_
        refine aw_ic_ge (off := 38) 64 (by decide) (by decide +kernel) (fun hc => ?_) (fun hc => ?_)
        · have hm := (if_pos hc).symm.trans hm
          cases hm
          refine aw_lv (lv' := [(2, .int v2_b17)]) [2] rfl ?_
          exact X17_64 v2_b17 H_b17 h0 hs ((congrArg (fX8_streak_k17 r1) (show (v2_b17) = x17 from hk17)).trans hr17)
        · have hm := (if_neg hc).symm.trans hm
          refine aw_b (pc' := 30) (lv' := [(0, .ref a), (1, .int i0), (2, .int v2_b17), (3, .int v3_b17), (4, .int v4_b17)]) (st' := [.ref a]) [(29, .aload_n 0, 1, .null)] (by decide +kernel) rfl ?_
          refine aw_gl (v := .ref (a + 1)) a 0 h0 eo_O_0 fgX8_9 rfl (by decide +kernel) ?_
          refine aw_b (pc' := 39) (lv' := [(0, .ref a), (1, .int i0), (2, .int v2_b17), (3, .int v3_b17), (4, .int v4_b17)]) (st' := [.int ((548 : Int32) + v4_b17), .ref (a + 1)]) [(33, .sipush 548, 3, .int (548 : Int32)), (36, .iload 4, 2, .null), (38, .iadd, 1, .null)] (by decide +kernel) rfl ?_
          obtain ⟨g6, hm⟩ := gd_x hm
          refine aw_ial a 1 h0 rfl g6 (by decide +kernel) ?_
          refine aw_b (pc' := 41) (lv' := [(0, .ref a), (1, .int i0), (2, .int v2_b17), (3, .int v3_b17), (4, .int v4_b17)]) (st' := [.int i0, .int (r1.1 1 (ix_ ((548 : Int32) + v4_b17)))]) [(40, .iload_n 1, 1, .null)] (by decide +kernel) rfl ?_
          have J51 : ∀ (z0_j51 : Int32) (H_j51 : Heap), has_ E H_j51 a ly_O r1.1 → sm_ H H_j51 a 10 → fX8_streak_j51 v2_b17 v4_b17 z0_j51 = some y17 → aw E mX8_streak Q 51 [(0, .ref a), (1, .int i0), (2, .int v2_b17), (4, .int v4_b17)] [.int z0_j51] H_j51 0 0 := by
            intro z0_j51 H_j51 h0 hs hm
            unfold fX8_streak_j51 at hm
            refine aw_b (pc' := 54) (lv' := [(3, .int z0_j51), (0, .ref a), (1, .int i0), (2, .int v2_b17), (4, .int v4_b17)]) (st' := [.int z0_j51, .int v2_b17]) [(51, .istore_n 3, 1, .null), (52, .iload_n 2, 1, .null), (53, .iload_n 3, 1, .null)] (by decide +kernel) rfl ?_
            refine aw_mx (rest := []) mtX8_305 rfl (Nat.le_of_ble_eq_true rfl) (Nat.zero_le _) (Nat.zero_le _) (by decide +kernel) ?_
            refine aw_b (pc' := 17) (lv' := [(4, .int (v4_b17 + (1 : Int32))), (2, .int (if v2_b17 < z0_j51 then z0_j51 else v2_b17)), (3, .int z0_j51), (0, .ref a), (1, .int i0)]) (st' := []) [(57, .istore_n 2, 1, .null), (58, .iinc 4 1, 3, .int (1 : Int32)), (61, .goto (-44), 3, .null)] (by decide +kernel) rfl ?_
            cases hm
            refine aw_lv (lv' := [(0, .ref a), (1, .int i0), (2, .int (if v2_b17 < z0_j51 then z0_j51 else v2_b17)), (3, .int z0_j51), (4, .int (v4_b17 + (1 : Int32)))]) [3, 4, 1, 2, 0] rfl ?_
            exact ih17 (if v2_b17 < z0_j51 then z0_j51 else v2_b17) z0_j51 (v4_b17 + (1 : Int32)) H_j51 h0 hs hk17
          refine aw_ic_ne (off := 9) 50 (by decide) (by decide +kernel) (fun hc => ?_) (fun hc => ?_)
          · have hm := (if_neg hc).symm.trans hm
            refine aw_b (pc' := 51) (lv' := [(0, .ref a), (1, .int i0), (2, .int v2_b17), (3, .int v3_b17), (4, .int v4_b17)]) (st' := [.int (0 : Int32)]) [(50, .iconst 0, 1, .int (0 : Int32))] (by decide +kernel) rfl ?_
            refine aw_lv (lv' := [(0, .ref a), (1, .int i0), (2, .int v2_b17), (4, .int v4_b17)]) [0, 1, 2, 4] rfl ?_
            exact J51 (0 : Int32) H_b17 h0 hs hm
          · have hm := (if_pos hc).symm.trans hm
            refine aw_b (pc' := 51) (lv' := [(0, .ref a), (1, .int i0), (2, .int v2_b17), (3, .int v3_b17), (4, .int v4_b17)]) (st' := [.int (v3_b17 + (1 : Int32))]) [(44, .iload_n 3, 1, .null), (45, .iconst 1, 1, .int (1 : Int32)), (46, .iadd, 1, .null), (47, .goto 4, 3, .null)] (by decide +kernel) rfl ?_
            refine aw_lv (lv' := [(0, .ref a), (1, .int i0), (2, .int v2_b17), (4, .int v4_b17)]) [0, 1, 2, 4] rfl ?_
            exact J51 (v3_b17 + (1 : Int32)) H_b17 h0 hs hm
    refine aw_lv (lv' := [(0, .ref a), (1, .int i0), (2, .int (0 : Int32)), (3, .int (0 : Int32)), (4, .int (0 : Int32))]) [3, 4, 2, 1, 0] rfl ?_
    exact L17 FU_ (0 : Int32) (0 : Int32) (0 : Int32) H3 h0 hs hx17
  · have hm := (if_neg hc).symm.trans hm
    refine aw_b (pc' := 9) (lv' := [(0, .ref a), (1, .int i0)]) (st' := [.int (0 : Int32)]) [(8, .iconst 0, 1, .int (0 : Int32))] (by decide +kernel) rfl ?_
    obtain rfl := Option.some.inj hm
    subst hQ
    exact aw_iret rfl (Nat.zero_le _) (Nat.zero_le _) (by decide +kernel) ⟨rfl, hs, h0⟩
def mX8_dearest : mt_ := (yX8_dearest, cX8_dearest, 7, some .int, [], { frames := 3, locals := 67, cells := 0, slots := 0 })
theorem ckX8_dearest : cokV_ mX8_dearest := ⟨⟨(uw_mem 1870 (by decide +kernel) (by decide +kernel)), (uw_mem 112 (by decide +kernel) (by decide +kernel)), by decide +kernel, by decide +kernel⟩, (uw_mem 1868 (by decide +kernel) (by decide +kernel)), (uw_mem 1869 (by decide +kernel) (by decide +kernel))⟩
theorem nkX8_dearest : nok_ mX8_dearest 2 := by decide +kernel
def fX8_dearest_x46_130 (r9 : st_ × Int32) (v3_x46_130 : Int32) : Option (st_ × Int32) :=
  some (r9.1, v3_x46_130)
def fX8_dearest_k46 (r9 : st_ × Int32) (x : Int32) : Option (st_ × Int32) :=
  fX8_dearest_x46_130 r9 x
def fX8_dearest_j124 (v5_b46 : Int32) (v6_b46 : Int32) (r14 : Int32) (z2_j86 : Int32) (v3_j124 : Int32) (v4_j124 : Int32) : Option ((Int32 × Int32 × Int32 × Int32) ⊕ (Int32)) :=
  some (.inl (v3_j124, v4_j124, (v5_b46 + (r14 - z2_j86)), (v6_b46 + (1 : Int32))))
def fX8_dearest_j113 (i1 : Int32) (v5_b46 : Int32) (v6_b46 : Int32) (r14 : Int32) (z2_j86 : Int32) : Option ((Int32 × Int32 × Int32 × Int32) ⊕ (Int32)) :=
  fX8_dearest_j124 v5_b46 v6_b46 r14 z2_j86 ((v6_b46 + (1 : Int32)) - i1) (v5_b46 + (r14 - z2_j86))
def fX8_dearest_j86 (i1 : Int32) (v3_b46 : Int32) (v4_b46 : Int32) (v5_b46 : Int32) (v6_b46 : Int32) (r14 : Int32) (z2_j86 : Int32) : Option ((Int32 × Int32 × Int32 × Int32) ⊕ (Int32)) :=
  if (v6_b46 + (1 : Int32)) < i1 then (fX8_dearest_j124 v5_b46 v6_b46 r14 z2_j86 v3_b46 v4_b46)
  else (if v3_b46 = (-1 : Int32) then (fX8_dearest_j113 i1 v5_b46 v6_b46 r14 z2_j86)
  else (if v4_b46 < (v5_b46 + (r14 - z2_j86)) then (fX8_dearest_j113 i1 v5_b46 v6_b46 r14 z2_j86)
  else (fX8_dearest_j124 v5_b46 v6_b46 r14 z2_j86 v3_b46 v4_b46)))
def fX8_dearest_b46 (i0 : Int32) (i1 : Int32) (r9 : st_ × Int32) (v3_b46 : Int32) (v4_b46 : Int32) (v5_b46 : Int32) (v6_b46 : Int32) : Option ((Int32 × Int32 × Int32 × Int32) ⊕ (Int32)) :=
  gd_ (ib_ (16 : Int32) 12584) <|
  if (r9.1 1 (ix_ (16 : Int32))) ≤ v6_b46 then (some (.inr v3_b46))
  else (bn_ (fX8_costIn1 r9.1 i0 v6_b46) fun r14 =>
  if v6_b46 < i1 then (fX8_dearest_j86 i1 v3_b46 v4_b46 v5_b46 v6_b46 r14 (0 : Int32))
  else (bn_ (fX8_costIn1 r9.1 i0 (v6_b46 - i1)) fun r18 =>
  fX8_dearest_j86 i1 v3_b46 v4_b46 v5_b46 v6_b46 r14 r18))
def fX8_dearest_l46 (i0 : Int32) (i1 : Int32) (r9 : st_ × Int32) : Nat → (Int32 × Int32 × Int32 × Int32) → Option (Int32) :=
  it_ (fun v => fX8_dearest_b46 i0 i1 r9 v.1 v.2.1 v.2.2.1 v.2.2.2)
def fX8_dearest_j26 (i0 : Int32) (i1 : Int32) (r1 : st_ × Int32) (z1_j26 : Int32) : Option (st_ × Int32) :=
  bn_ (fX8_throwsIf r1.1 z1_j26 (2 : Int32)) fun r9 =>
  if r9.2 = (0 : Int32) then (bn_ (fX8_dearest_l46 i0 i1 r9 FU_ ((-1 : Int32), (0 : Int32), (0 : Int32), (0 : Int32))) (fX8_dearest_k46 r9))
  else (some (r9.1, (0 : Int32)))
def fX8_dearest (s : st_) (i0 : Int32) (i1 : Int32) : Option (st_ × Int32) :=
  bn_ (fX8_noRule s i0) fun r1 =>
  if r1.2 = (0 : Int32) then (bn_ (fX8_in (Int32.toInt64 i1) (1 : Int64) (1000 : Int64)) fun r5 =>
  if r5 = (0 : Int32) then (fX8_dearest_j26 i0 i1 r1 (1 : Int32))
  else (fX8_dearest_j26 i0 i1 r1 (0 : Int32)))
  else (some (r1.1, (0 : Int32)))
set_option maxRecDepth 8000 in
theorem kX8_dearest {E : ev_} {H : Heap} {a : Nat} {s : st_} {i0 : Int32} {i1 : Int32} {r : st_ × Int32} (hm : fX8_dearest s i0 i1 = some r) (h0 : has_ E H a ly_O s) (hf : ev_fr E a) : sp_ E mX8_dearest [.ref a, .int i0, .int i1] H (po1 (.inl (some (.int r.2))) (fun Hn => sm_ H Hn a 10 ∧ has_ E Hn a ly_O r.1)) := by
  refine sp_of (by decide +kernel) rfl rfl ?_
  generalize hQ : po1 _ _ = Q
  have hs : sm_ H H a 10 := sm_.rfl'
  unfold fX8_dearest at hm
  refine aw_lv (lv' := [(0, .ref a), (1, .int i0), (2, .int i1)]) [0, 1, 2] rfl ?_
  refine aw_b (pc' := 2) (lv' := [(0, .ref a), (1, .int i0), (2, .int i1)]) (st' := [.int i0, .ref a]) [(0, .aload_n 0, 1, .null), (1, .iload_n 1, 1, .null)] (by decide +kernel) rfl ?_
  obtain ⟨r1, e2, hm⟩ := bn_x hm
  refine aw_cv (rest := []) (st1 := [.int r1.2]) a 0 (kX8_noRule e2 h0 hf) rfl rfl ckX8_noRule lkX8_227 h0 eo_O_0 ⟨_, _, rfl⟩ nkX8_noRule rfl rfl rfl (Nat.le_of_ble_eq_true rfl) (Nat.zero_le _) (Nat.zero_le _) (by decide +kernel) (fun H3 z4 => ?_)
  obtain ⟨z4, hn⟩ := z4
  have h0 := hn
  have hs := hs.step z4 (by omega) (by omega)
  refine aw_if_ne (off := 28) 33 (by decide) (by decide +kernel) (fun hc => ?_) (fun hc => ?_)
  · have hm := (if_neg hc).symm.trans hm
    refine aw_b (pc' := 34) (lv' := [(0, .ref a), (1, .int i0), (2, .int i1)]) (st' := [.int (0 : Int32)]) [(33, .iconst 0, 1, .int (0 : Int32))] (by decide +kernel) rfl ?_
    obtain rfl := Option.some.inj hm
    subst hQ
    exact aw_iret rfl (Nat.zero_le _) (Nat.zero_le _) (by decide +kernel) ⟨rfl, hs, h0⟩
  · have hm := (if_pos hc).symm.trans hm
    refine aw_b (pc' := 12) (lv' := [(0, .ref a), (1, .int i0), (2, .int i1)]) (st' := [.long (1 : Int64), .long (Int32.toInt64 i1), .ref a]) [(8, .aload_n 0, 1, .null), (9, .iload_n 2, 1, .null), (10, .i2l, 1, .null), (11, .lconst 1, 1, .long (1 : Int64))] (by decide +kernel) rfl ?_
    refine aw_ldc2 (v := (1000 : Int64)) kwX8_350 (by decide +kernel) ?_
    obtain ⟨r5, e6, hm⟩ := bn_x hm
    refine aw_cs (rest := [.ref a]) (st1 := [.int r5, .ref a]) (kX8_in e6) rfl rfl ckX8_in lkX8_70 nkX8_in rfl rfl rfl (Nat.le_of_ble_eq_true rfl) (Nat.zero_le _) (Nat.zero_le _) (by decide +kernel) (fun H7 z8 => ?_)
    have h0 := h0.kept0 z8
    have hs := hs.step0 z8
    have J26 : ∀ (z1_j26 : Int32) (H_j26 : Heap), has_ E H_j26 a ly_O r1.1 → sm_ H H_j26 a 10 → fX8_dearest_j26 i0 i1 r1 z1_j26 = some r → aw E mX8_dearest Q 26 [(0, .ref a), (1, .int i0), (2, .int i1)] [.int z1_j26, .ref a] H_j26 0 0 := by
      intro z1_j26 H_j26 h0 hs hm
      unfold fX8_dearest_j26 at hm
      refine aw_b (pc' := 27) (lv' := [(0, .ref a), (1, .int i0), (2, .int i1)]) (st' := [.int (2 : Int32), .int z1_j26, .ref a]) [(26, .iconst 2, 1, .int (2 : Int32))] (by decide +kernel) rfl ?_
      obtain ⟨r9, e10, hm⟩ := bn_x hm
      refine aw_cv (rest := []) (st1 := [.int r9.2]) a 0 (kX8_throwsIf e10 h0 hf) rfl rfl ckX8_throwsIf lkX8_49 h0 eo_O_0 ⟨_, _, rfl⟩ nkX8_throwsIf rfl rfl rfl (Nat.le_of_ble_eq_true rfl) (Nat.zero_le _) (Nat.zero_le _) (by decide +kernel) (fun H11 z12 => ?_)
      obtain ⟨z12, hn⟩ := z12
      have h0 := hn
      have hs := hs.step z12 (by omega) (by omega)
      refine aw_if_eq (off := 5) 35 (by decide) (by decide +kernel) (fun hc => ?_) (fun hc => ?_)
      · have hm := (if_pos hc).symm.trans hm
        refine aw_b (pc' := 46) (lv' := [(6, .int (0 : Int32)), (5, .int (0 : Int32)), (4, .int (0 : Int32)), (3, .int (-1 : Int32)), (0, .ref a), (1, .int i0), (2, .int i1)]) (st' := []) [(35, .iconst (-1), 1, .int (-1 : Int32)), (36, .istore_n 3, 1, .null), (37, .iconst 0, 1, .int (0 : Int32)), (38, .istore 4, 2, .null), (40, .iconst 0, 1, .int (0 : Int32)), (41, .istore 5, 2, .null), (43, .iconst 0, 1, .int (0 : Int32)), (44, .istore 6, 2, .null)] (by decide +kernel) rfl ?_
        obtain ⟨x46, hx46, hr46⟩ := bn_x hm
        have X46_130 : ∀ (v3_x46_130 : Int32) (H_x46_130 : Heap), has_ E H_x46_130 a ly_O r9.1 → sm_ H H_x46_130 a 10 → fX8_dearest_x46_130 r9 v3_x46_130 = some r → aw E mX8_dearest Q 130 [(3, .int v3_x46_130)] [] H_x46_130 0 0 := by
          intro v3_x46_130 H_x46_130 h0 hs hm
          unfold fX8_dearest_x46_130 at hm
          refine aw_b (pc' := 131) (lv' := [(3, .int v3_x46_130)]) (st' := [.int v3_x46_130]) [(130, .iload_n 3, 1, .null)] (by decide +kernel) rfl ?_
          obtain rfl := Option.some.inj hm
          subst hQ
          exact aw_iret rfl (Nat.zero_le _) (Nat.zero_le _) (by decide +kernel) ⟨rfl, hs, h0⟩
        have L46 : ∀ (fu : Nat) (v3_b46 : Int32) (v4_b46 : Int32) (v5_b46 : Int32) (v6_b46 : Int32) (H_b46 : Heap), has_ E H_b46 a ly_O r9.1 → sm_ H H_b46 a 10 → fX8_dearest_l46 i0 i1 r9 fu (v3_b46, v4_b46, v5_b46, v6_b46) = some x46 → aw E mX8_dearest Q 46 [(0, .ref a), (1, .int i0), (2, .int i1), (3, .int v3_b46), (4, .int v4_b46), (5, .int v5_b46), (6, .int v6_b46)] [] H_b46 0 0 := by
          intro fu
          induction fu with
          | zero =>
            intro v3_b46 v4_b46 v5_b46 v6_b46 H_b46 h0 hs hm
            exact (it_0 hm).elim
          | succ fu ih46 =>
            intro v3_b46 v4_b46 v5_b46 v6_b46 H_b46 h0 hs hm
            obtain ⟨y46, hm, hk46⟩ := it_s hm
            have hm : fX8_dearest_b46 i0 i1 r9 v3_b46 v4_b46 v5_b46 v6_b46 = some y46 := hm
            unfold fX8_dearest_b46 at hm
            refine aw_b (pc' := 49) (lv' := [(0, .ref a), (1, .int i0), (2, .int i1), (3, .int v3_b46), (4, .int v4_b46), (5, .int v5_b46), (6, .int v6_b46)]) (st' := [.ref a, .int v6_b46]) [(46, .iload 6, 2, .null), (48, .aload_n 0, 1, .null)] (by decide +kernel) rfl ?_
            refine aw_gl (v := .ref (a + 1)) a 0 h0 eo_O_0 fgX8_9 rfl (by decide +kernel) ?_
            refine aw_b (pc' := 54) (lv' := [(0, .ref a), (1, .int i0), (2, .int i1), (3, .int v3_b46), (4, .int v4_b46), (5, .int v5_b46), (6, .int v6_b46)]) (st' := [.int (16 : Int32), .ref (a + 1), .int v6_b46]) [(52, .bipush 16, 2, .int (16 : Int32))] (by decide +kernel) rfl ?_
            obtain ⟨g13, hm⟩ := gd_x hm
            refine aw_ial a 1 h0 rfl g13 (by decide +kernel) ?_
            refine aw_ic_ge (off := 75) 130 (by decide) (by decide +kernel) (fun hc => ?_) (fun hc => ?_)
            · have hm := (if_pos hc).symm.trans hm
              cases hm
              refine aw_lv (lv' := [(3, .int v3_b46)]) [3] rfl ?_
              exact X46_130 v3_b46 H_b46 h0 hs ((congrArg (fX8_dearest_k46 r9) (show (v3_b46) = x46 from hk46)).trans hr46)
            · have hm := (if_neg hc).symm.trans hm
              refine aw_b (pc' := 64) (lv' := [(0, .ref a), (1, .int i0), (2, .int i1), (3, .int v3_b46), (4, .int v4_b46), (5, .int v5_b46), (6, .int v6_b46)]) (st' := [.int v6_b46, .int i0, .ref a, .int v5_b46]) [(58, .iload 5, 2, .null), (60, .aload_n 0, 1, .null), (61, .iload_n 1, 1, .null), (62, .iload 6, 2, .null)] (by decide +kernel) rfl ?_
              obtain ⟨r14, e15, hm⟩ := bn_x hm
              refine aw_cv (rest := [.int v5_b46]) (st1 := [.int r14, .int v5_b46]) a 0 (kX8_costIn1 e15 h0) rfl rfl ckX8_costIn1 lkX8_401 h0 eo_O_0 ⟨_, _, rfl⟩ nkX8_costIn1 rfl rfl rfl (Nat.le_of_ble_eq_true rfl) (Nat.zero_le _) (Nat.zero_le _) (by decide +kernel) (fun H16 z17 => ?_)
              have h0 := h0.kept0 z17
              have hs := hs.step0 z17
              refine aw_b (pc' := 70) (lv' := [(0, .ref a), (1, .int i0), (2, .int i1), (3, .int v3_b46), (4, .int v4_b46), (5, .int v5_b46), (6, .int v6_b46)]) (st' := [.int i1, .int v6_b46, .int r14, .int v5_b46]) [(67, .iload 6, 2, .null), (69, .iload_n 2, 1, .null)] (by decide +kernel) rfl ?_
              have J86 : ∀ (z2_j86 : Int32) (H_j86 : Heap), has_ E H_j86 a ly_O r9.1 → sm_ H H_j86 a 10 → fX8_dearest_j86 i1 v3_b46 v4_b46 v5_b46 v6_b46 r14 z2_j86 = some y46 → aw E mX8_dearest Q 86 [(0, .ref a), (1, .int i0), (2, .int i1), (3, .int v3_b46), (4, .int v4_b46), (6, .int v6_b46)] [.int z2_j86, .int r14, .int v5_b46] H_j86 0 0 := by
                intro z2_j86 H_j86 h0 hs hm
                unfold fX8_dearest_j86 at hm
                refine aw_b (pc' := 95) (lv' := [(5, .int (v5_b46 + (r14 - z2_j86))), (0, .ref a), (1, .int i0), (2, .int i1), (3, .int v3_b46), (4, .int v4_b46), (6, .int v6_b46)]) (st' := [.int i1, .int (v6_b46 + (1 : Int32))]) [(86, .isub, 1, .null), (87, .iadd, 1, .null), (88, .istore 5, 2, .null), (90, .iload 6, 2, .null), (92, .iconst 1, 1, .int (1 : Int32)), (93, .iadd, 1, .null), (94, .iload_n 2, 1, .null)] (by decide +kernel) rfl ?_
                have J124 : ∀ (v3_j124 : Int32) (v4_j124 : Int32) (H_j124 : Heap), has_ E H_j124 a ly_O r9.1 → sm_ H H_j124 a 10 → fX8_dearest_j124 v5_b46 v6_b46 r14 z2_j86 v3_j124 v4_j124 = some y46 → aw E mX8_dearest Q 124 [(0, .ref a), (1, .int i0), (2, .int i1), (3, .int v3_j124), (4, .int v4_j124), (5, .int (v5_b46 + (r14 - z2_j86))), (6, .int v6_b46)] [] H_j124 0 0 := by
                  intro v3_j124 v4_j124 H_j124 h0 hs hm
                  unfold fX8_dearest_j124 at hm
                  refine aw_b (pc' := 46) (lv' := [(6, .int (v6_b46 + (1 : Int32))), (0, .ref a), (1, .int i0), (2, .int i1), (3, .int v3_j124), (4, .int v4_j124), (5, .int (v5_b46 + (r14 - z2_j86)))]) (st' := []) [(124, .iinc 6 1, 3, .int (1 : Int32)), (127, .goto (-81), 3, .null)] (by decide +kernel) rfl ?_
                  cases hm
                  refine aw_lv (lv' := [(0, .ref a), (1, .int i0), (2, .int i1), (3, .int v3_j124), (4, .int v4_j124), (5, .int (v5_b46 + (r14 - z2_j86))), (6, .int (v6_b46 + (1 : Int32)))]) [1, 2, 3, 4, 5, 6, 0] rfl ?_
                  exact ih46 v3_j124 v4_j124 (v5_b46 + (r14 - z2_j86)) (v6_b46 + (1 : Int32)) H_j124 h0 hs hk46
                refine aw_ic_lt (off := 29) 124 (by decide) (by decide +kernel) (fun hc => ?_) (fun hc => ?_)
                · have hm := (if_pos hc).symm.trans hm
                  refine aw_lv (lv' := [(0, .ref a), (1, .int i0), (2, .int i1), (3, .int v3_b46), (4, .int v4_b46), (5, .int (v5_b46 + (r14 - z2_j86))), (6, .int v6_b46)]) [1, 2, 3, 4, 5, 0, 6] rfl ?_
                  exact J124 v3_b46 v4_b46 H_j86 h0 hs hm
                · have hm := (if_neg hc).symm.trans hm
                  refine aw_b (pc' := 100) (lv' := [(5, .int (v5_b46 + (r14 - z2_j86))), (0, .ref a), (1, .int i0), (2, .int i1), (3, .int v3_b46), (4, .int v4_b46), (6, .int v6_b46)]) (st' := [.int (-1 : Int32), .int v3_b46]) [(98, .iload_n 3, 1, .null), (99, .iconst (-1), 1, .int (-1 : Int32))] (by decide +kernel) rfl ?_
                  have J113 : ∀ (H_j113 : Heap), has_ E H_j113 a ly_O r9.1 → sm_ H H_j113 a 10 → fX8_dearest_j113 i1 v5_b46 v6_b46 r14 z2_j86 = some y46 → aw E mX8_dearest Q 113 [(0, .ref a), (1, .int i0), (2, .int i1), (5, .int (v5_b46 + (r14 - z2_j86))), (6, .int v6_b46)] [] H_j113 0 0 := by
                    intro H_j113 h0 hs hm
                    unfold fX8_dearest_j113 at hm
                    refine aw_b (pc' := 124) (lv' := [(4, .int (v5_b46 + (r14 - z2_j86))), (3, .int ((v6_b46 + (1 : Int32)) - i1)), (0, .ref a), (1, .int i0), (2, .int i1), (5, .int (v5_b46 + (r14 - z2_j86))), (6, .int v6_b46)]) (st' := []) [(113, .iload 6, 2, .null), (115, .iconst 1, 1, .int (1 : Int32)), (116, .iadd, 1, .null), (117, .iload_n 2, 1, .null), (118, .isub, 1, .null), (119, .istore_n 3, 1, .null), (120, .iload 5, 2, .null), (122, .istore 4, 2, .null)] (by decide +kernel) rfl ?_
                    refine aw_lv (lv' := [(0, .ref a), (1, .int i0), (2, .int i1), (3, .int ((v6_b46 + (1 : Int32)) - i1)), (4, .int (v5_b46 + (r14 - z2_j86))), (5, .int (v5_b46 + (r14 - z2_j86))), (6, .int v6_b46)]) [2, 3, 4, 1, 0, 5, 6] rfl ?_
                    exact J124 ((v6_b46 + (1 : Int32)) - i1) (v5_b46 + (r14 - z2_j86)) H_j113 h0 hs hm
                  refine aw_ic_eq (off := 13) 113 (by decide) (by decide +kernel) (fun hc => ?_) (fun hc => ?_)
                  · have hm := (if_pos hc).symm.trans hm
                    refine aw_lv (lv' := [(0, .ref a), (1, .int i0), (2, .int i1), (5, .int (v5_b46 + (r14 - z2_j86))), (6, .int v6_b46)]) [1, 2, 3, 0, 6] rfl ?_
                    exact J113 H_j86 h0 hs hm
                  · have hm := (if_neg hc).symm.trans hm
                    refine aw_b (pc' := 107) (lv' := [(5, .int (v5_b46 + (r14 - z2_j86))), (0, .ref a), (1, .int i0), (2, .int i1), (3, .int v3_b46), (4, .int v4_b46), (6, .int v6_b46)]) (st' := [.int v4_b46, .int (v5_b46 + (r14 - z2_j86))]) [(103, .iload 5, 2, .null), (105, .iload 4, 2, .null)] (by decide +kernel) rfl ?_
                    refine aw_ic_gt (off := 6) 113 (by decide) (by decide +kernel) (fun hc => ?_) (fun hc => ?_)
                    · have hm := (if_pos hc).symm.trans hm
                      refine aw_lv (lv' := [(0, .ref a), (1, .int i0), (2, .int i1), (5, .int (v5_b46 + (r14 - z2_j86))), (6, .int v6_b46)]) [1, 2, 3, 0, 6] rfl ?_
                      exact J113 H_j86 h0 hs hm
                    · have hm := (if_neg hc).symm.trans hm
                      refine aw_b (pc' := 124) (lv' := [(5, .int (v5_b46 + (r14 - z2_j86))), (0, .ref a), (1, .int i0), (2, .int i1), (3, .int v3_b46), (4, .int v4_b46), (6, .int v6_b46)]) (st' := []) [(110, .goto 14, 3, .null)] (by decide +kernel) rfl ?_
                      refine aw_lv (lv' := [(0, .ref a), (1, .int i0), (2, .int i1), (3, .int v3_b46), (4, .int v4_b46), (5, .int (v5_b46 + (r14 - z2_j86))), (6, .int v6_b46)]) [1, 2, 3, 4, 5, 0, 6] rfl ?_
                      exact J124 v3_b46 v4_b46 H_j86 h0 hs hm
              refine aw_ic_lt (off := 15) 85 (by decide) (by decide +kernel) (fun hc => ?_) (fun hc => ?_)
              · have hm := (if_pos hc).symm.trans hm
                refine aw_b (pc' := 86) (lv' := [(0, .ref a), (1, .int i0), (2, .int i1), (3, .int v3_b46), (4, .int v4_b46), (5, .int v5_b46), (6, .int v6_b46)]) (st' := [.int (0 : Int32), .int r14, .int v5_b46]) [(85, .iconst 0, 1, .int (0 : Int32))] (by decide +kernel) rfl ?_
                refine aw_lv (lv' := [(0, .ref a), (1, .int i0), (2, .int i1), (3, .int v3_b46), (4, .int v4_b46), (6, .int v6_b46)]) [0, 1, 2, 3, 4, 6] rfl ?_
                exact J86 (0 : Int32) H16 h0 hs hm
              · have hm := (if_neg hc).symm.trans hm
                refine aw_b (pc' := 79) (lv' := [(0, .ref a), (1, .int i0), (2, .int i1), (3, .int v3_b46), (4, .int v4_b46), (5, .int v5_b46), (6, .int v6_b46)]) (st' := [.int (v6_b46 - i1), .int i0, .ref a, .int r14, .int v5_b46]) [(73, .aload_n 0, 1, .null), (74, .iload_n 1, 1, .null), (75, .iload 6, 2, .null), (77, .iload_n 2, 1, .null), (78, .isub, 1, .null)] (by decide +kernel) rfl ?_
                obtain ⟨r18, e19, hm⟩ := bn_x hm
                refine aw_cv (rest := [.int r14, .int v5_b46]) (st1 := [.int r18, .int r14, .int v5_b46]) a 0 (kX8_costIn1 e19 h0) rfl rfl ckX8_costIn1 lkX8_401 h0 eo_O_0 ⟨_, _, rfl⟩ nkX8_costIn1 rfl rfl rfl (Nat.le_of_ble_eq_true rfl) (Nat.zero_le _) (Nat.zero_le _) (by decide +kernel) (fun H20 z21 => ?_)
                have h0 := h0.kept0 z21
                have hs := hs.step0 z21
                refine aw_b (pc' := 86) (lv' := [(0, .ref a), (1, .int i0), (2, .int i1), (3, .int v3_b46), (4, .int v4_b46), (5, .int v5_b46), (6, .int v6_b46)]) (st' := [.int r18, .int r14, .int v5_b46]) [(82, .goto 4, 3, .null)] (by decide +kernel) rfl ?_
                refine aw_lv (lv' := [(0, .ref a), (1, .int i0), (2, .int i1), (3, .int v3_b46), (4, .int v4_b46), (6, .int v6_b46)]) [0, 1, 2, 3, 4, 6] rfl ?_
                exact J86 r18 H20 h0 hs hm
        refine aw_lv (lv' := [(0, .ref a), (1, .int i0), (2, .int i1), (3, .int (-1 : Int32)), (4, .int (0 : Int32)), (5, .int (0 : Int32)), (6, .int (0 : Int32))]) [4, 5, 6, 3, 2, 1, 0] rfl ?_
        exact L46 FU_ (-1 : Int32) (0 : Int32) (0 : Int32) (0 : Int32) H11 h0 hs hx46
      · have hm := (if_neg hc).symm.trans hm
        refine aw_b (pc' := 34) (lv' := [(0, .ref a), (1, .int i0), (2, .int i1)]) (st' := [.int (0 : Int32)]) [(33, .iconst 0, 1, .int (0 : Int32))] (by decide +kernel) rfl ?_
        obtain rfl := Option.some.inj hm
        subst hQ
        exact aw_iret rfl (Nat.zero_le _) (Nat.zero_le _) (by decide +kernel) ⟨rfl, hs, h0⟩
    refine aw_if_ne (off := 7) 25 (by decide) (by decide +kernel) (fun hc => ?_) (fun hc => ?_)
    · have hm := (if_neg hc).symm.trans hm
      refine aw_b (pc' := 26) (lv' := [(0, .ref a), (1, .int i0), (2, .int i1)]) (st' := [.int (0 : Int32), .ref a]) [(25, .iconst 0, 1, .int (0 : Int32))] (by decide +kernel) rfl ?_
      exact J26 (0 : Int32) H7 h0 hs hm
    · have hm := (if_pos hc).symm.trans hm
      refine aw_b (pc' := 26) (lv' := [(0, .ref a), (1, .int i0), (2, .int i1)]) (st' := [.int (1 : Int32), .ref a]) [(21, .iconst 1, 1, .int (1 : Int32)), (22, .goto 4, 3, .null)] (by decide +kernel) rfl ?_
      exact J26 (1 : Int32) H7 h0 hs hm
def mX8_isWindow : mt_ := (yX8_isWindow, cX8_isWindow, 3, some .boolean, [], { frames := 0, locals := 0, cells := 0, slots := 0 })
theorem ckX8_isWindow : cokV_ mX8_isWindow := ⟨⟨(uw_mem 1883 (by decide +kernel) (by decide +kernel)), (uw_mem 112 (by decide +kernel) (by decide +kernel)), by decide +kernel, by decide +kernel⟩, (uw_mem 1882 (by decide +kernel) (by decide +kernel)), (uw_mem 74 (by decide +kernel) (by decide +kernel))⟩
theorem nkX8_isWindow : nok_ mX8_isWindow 2 := by decide +kernel
def fX8_isWindow (s : st_) (i0 : Int32) (i1 : Int32) : Option (Int32) :=
  gd_ (ib_ (16 : Int32) 12584) <|
  if ((s 1 (ix_ (16 : Int32))) - i1) < i0 then (some (0 : Int32))
  else (some (1 : Int32))
set_option maxRecDepth 8000 in
theorem kX8_isWindow {E : ev_} {H : Heap} {a : Nat} {s : st_} {i0 : Int32} {i1 : Int32} {r : Int32} (hm : fX8_isWindow s i0 i1 = some r) (h0 : has_ E H a ly_O s) : sp_ E mX8_isWindow [.ref a, .int i0, .int i1] H (po1 (.inl (some (.int r))) (fun Hn => sm_ H Hn 0 0)) := by
  refine sp_of (by decide +kernel) rfl rfl ?_
  generalize hQ : po1 _ _ = Q
  have hs : sm_ H H 0 0 := sm_.rfl'
  unfold fX8_isWindow at hm
  refine aw_lv (lv' := [(0, .ref a), (1, .int i0), (2, .int i1)]) [0, 1, 2] rfl ?_
  refine aw_b (pc' := 2) (lv' := [(0, .ref a), (1, .int i0), (2, .int i1)]) (st' := [.ref a, .int i0]) [(0, .iload_n 1, 1, .null), (1, .aload_n 0, 1, .null)] (by decide +kernel) rfl ?_
  refine aw_gl (v := .ref (a + 1)) a 0 h0 eo_O_0 fgX8_9 rfl (by decide +kernel) ?_
  refine aw_b (pc' := 7) (lv' := [(0, .ref a), (1, .int i0), (2, .int i1)]) (st' := [.int (16 : Int32), .ref (a + 1), .int i0]) [(5, .bipush 16, 2, .int (16 : Int32))] (by decide +kernel) rfl ?_
  obtain ⟨g1, hm⟩ := gd_x hm
  refine aw_ial a 1 h0 rfl g1 (by decide +kernel) ?_
  refine aw_b (pc' := 10) (lv' := [(0, .ref a), (1, .int i0), (2, .int i1)]) (st' := [.int ((s 1 (ix_ (16 : Int32))) - i1), .int i0]) [(8, .iload_n 2, 1, .null), (9, .isub, 1, .null)] (by decide +kernel) rfl ?_
  refine aw_ic_gt (off := 7) 17 (by decide) (by decide +kernel) (fun hc => ?_) (fun hc => ?_)
  · have hm := (if_pos hc).symm.trans hm
    refine aw_b (pc' := 18) (lv' := [(0, .ref a), (1, .int i0), (2, .int i1)]) (st' := [.int (0 : Int32)]) [(17, .iconst 0, 1, .int (0 : Int32))] (by decide +kernel) rfl ?_
    obtain rfl := Option.some.inj hm
    subst hQ
    exact aw_zret rfl (by decide +kernel) (Nat.zero_le _) (Nat.zero_le _) (by decide +kernel) ⟨rfl, hs⟩
  · have hm := (if_neg hc).symm.trans hm
    refine aw_b (pc' := 18) (lv' := [(0, .ref a), (1, .int i0), (2, .int i1)]) (st' := [.int (1 : Int32)]) [(13, .iconst 1, 1, .int (1 : Int32)), (14, .goto 4, 3, .null)] (by decide +kernel) rfl ?_
    obtain rfl := Option.some.inj hm
    subst hQ
    exact aw_zret rfl (by decide +kernel) (Nat.zero_le _) (Nat.zero_le _) (by decide +kernel) ⟨rfl, hs⟩
def mX8_noWindow : mt_ := (yX8_noWindow, cX8_noWindow, 3, some .boolean, [], { frames := 2, locals := 43, cells := 0, slots := 0 })
theorem ckX8_noWindow : cokV_ mX8_noWindow := ⟨⟨(uw_mem 1879 (by decide +kernel) (by decide +kernel)), (uw_mem 112 (by decide +kernel) (by decide +kernel)), by decide +kernel, by decide +kernel⟩, (uw_mem 1878 (by decide +kernel) (by decide +kernel)), (uw_mem 73 (by decide +kernel) (by decide +kernel))⟩
theorem nkX8_noWindow : nok_ mX8_noWindow 2 := by decide +kernel
def fX8_noWindow_j22 (s : st_) (z1_j22 : Int32) : Option (st_ × Int32) :=
  bn_ (fX8_wrong s z1_j22) fun r1 =>
  gd_ (bz_ r1.2) <|
  some (r1.1, r1.2)
def fX8_noWindow_j17 (s : st_) : Option (st_ × Int32) :=
  fX8_noWindow_j22 s (1 : Int32)
def fX8_noWindow (s : st_) (i0 : Int32) (i1 : Int32) : Option (st_ × Int32) :=
  if i0 < (0 : Int32) then (fX8_noWindow_j17 s)
  else (bn_ (fX8_in (Int32.toInt64 i1) (1 : Int64) (1000 : Int64)) fun r6 =>
  if r6 = (0 : Int32) then (fX8_noWindow_j17 s)
  else (fX8_noWindow_j22 s (0 : Int32)))
set_option maxRecDepth 8000 in
theorem kX8_noWindow {E : ev_} {H : Heap} {a : Nat} {s : st_} {i0 : Int32} {i1 : Int32} {r : st_ × Int32} (hm : fX8_noWindow s i0 i1 = some r) (h0 : has_ E H a ly_O s) (hf : ev_fr E a) : sp_ E mX8_noWindow [.ref a, .int i0, .int i1] H (po1 (.inl (some (.int r.2))) (fun Hn => sm_ H Hn a 10 ∧ has_ E Hn a ly_O r.1)) := by
  refine sp_of (by decide +kernel) rfl rfl ?_
  generalize hQ : po1 _ _ = Q
  have hs : sm_ H H a 10 := sm_.rfl'
  unfold fX8_noWindow at hm
  refine aw_lv (lv' := [(0, .ref a), (1, .int i0), (2, .int i1)]) [0, 1, 2] rfl ?_
  refine aw_b (pc' := 2) (lv' := [(0, .ref a), (1, .int i0), (2, .int i1)]) (st' := [.int i0, .ref a]) [(0, .aload_n 0, 1, .null), (1, .iload_n 1, 1, .null)] (by decide +kernel) rfl ?_
  have J22 : ∀ (z1_j22 : Int32) (H_j22 : Heap), has_ E H_j22 a ly_O s → sm_ H H_j22 a 10 → fX8_noWindow_j22 s z1_j22 = some r → aw E mX8_noWindow Q 22 [] [.int z1_j22, .ref a] H_j22 0 0 := by
    intro z1_j22 H_j22 h0 hs hm
    unfold fX8_noWindow_j22 at hm
    obtain ⟨r1, e2, hm⟩ := bn_x hm
    refine aw_cv (rest := []) (st1 := [.int r1.2]) a 0 (kX8_wrong e2 h0 hf) rfl rfl ckX8_wrong lkX8_221 h0 eo_O_0 ⟨_, _, rfl⟩ nkX8_wrong rfl rfl rfl (Nat.le_of_ble_eq_true rfl) (Nat.zero_le _) (Nat.zero_le _) (by decide +kernel) (fun H3 z4 => ?_)
    obtain ⟨z4, hn⟩ := z4
    have h0 := hn
    have hs := hs.step z4 (by omega) (by omega)
    obtain ⟨g5, hm⟩ := gd_x hm
    obtain rfl := Option.some.inj hm
    subst hQ
    exact aw_zret rfl (bz_n g5) (Nat.zero_le _) (Nat.zero_le _) (by decide +kernel) ⟨rfl, hs, h0⟩
  have J17 : ∀ (H_j17 : Heap), has_ E H_j17 a ly_O s → sm_ H H_j17 a 10 → fX8_noWindow_j17 s = some r → aw E mX8_noWindow Q 17 [] [.ref a] H_j17 0 0 := by
    intro H_j17 h0 hs hm
    unfold fX8_noWindow_j17 at hm
    refine aw_b (pc' := 22) (lv' := []) (st' := [.int (1 : Int32), .ref a]) [(17, .iconst 1, 1, .int (1 : Int32)), (18, .goto 4, 3, .null)] (by decide +kernel) rfl ?_
    exact J22 (1 : Int32) H_j17 h0 hs hm
  refine aw_if_lt (off := 15) 17 (by decide) (by decide +kernel) (fun hc => ?_) (fun hc => ?_)
  · have hm := (if_pos hc).symm.trans hm
    refine aw_lv (lv' := []) [] rfl ?_
    exact J17 H h0 hs hm
  · have hm := (if_neg hc).symm.trans hm
    refine aw_b (pc' := 8) (lv' := [(0, .ref a), (1, .int i0), (2, .int i1)]) (st' := [.long (1 : Int64), .long (Int32.toInt64 i1), .ref a]) [(5, .iload_n 2, 1, .null), (6, .i2l, 1, .null), (7, .lconst 1, 1, .long (1 : Int64))] (by decide +kernel) rfl ?_
    refine aw_ldc2 (v := (1000 : Int64)) kwX8_350 (by decide +kernel) ?_
    obtain ⟨r6, e7, hm⟩ := bn_x hm
    refine aw_cs (rest := [.ref a]) (st1 := [.int r6, .ref a]) (kX8_in e7) rfl rfl ckX8_in lkX8_70 nkX8_in rfl rfl rfl (Nat.le_of_ble_eq_true rfl) (Nat.zero_le _) (Nat.zero_le _) (by decide +kernel) (fun H8 z9 => ?_)
    have h0 := h0.kept0 z9
    have hs := hs.step0 z9
    refine aw_if_ne (off := 7) 21 (by decide) (by decide +kernel) (fun hc => ?_) (fun hc => ?_)
    · have hm := (if_neg hc).symm.trans hm
      refine aw_b (pc' := 22) (lv' := [(0, .ref a), (1, .int i0), (2, .int i1)]) (st' := [.int (0 : Int32), .ref a]) [(21, .iconst 0, 1, .int (0 : Int32))] (by decide +kernel) rfl ?_
      refine aw_lv (lv' := []) [] rfl ?_
      exact J22 (0 : Int32) H8 h0 hs hm
    · have hm := (if_pos hc).symm.trans hm
      refine aw_lv (lv' := []) [] rfl ?_
      exact J17 H8 h0 hs hm
def mX8_sumIn : mt_ := (yX8_sumIn, cX8_sumIn, 6, some .int, [], { frames := 1, locals := 22, cells := 0, slots := 0 })
theorem ckX8_sumIn : cokV_ mX8_sumIn := ⟨⟨(uw_mem 1895 (by decide +kernel) (by decide +kernel)), (uw_mem 112 (by decide +kernel) (by decide +kernel)), by decide +kernel, by decide +kernel⟩, (uw_mem 1894 (by decide +kernel) (by decide +kernel)), (uw_mem 77 (by decide +kernel) (by decide +kernel))⟩
theorem nkX8_sumIn : nok_ mX8_sumIn 3 := by decide +kernel
def fX8_sumIn_x6_32 (v4_x6_32 : Int32) : Option (Int32) :=
  some v4_x6_32
def fX8_sumIn_k6 (x : Int32) : Option (Int32) :=
  fX8_sumIn_x6_32 x
def fX8_sumIn_b6 (s : st_) (i0 : Int32) (i1 : Int32) (i2 : Int32) (v4_b6 : Int32) (v5_b6 : Int32) : Option ((Int32 × Int32) ⊕ (Int32)) :=
  if (i1 + i2) ≤ v5_b6 then (some (.inr v4_b6))
  else (bn_ (fX8_costIn1 s i0 v5_b6) fun r1 =>
  some (.inl ((v4_b6 + r1), (v5_b6 + (1 : Int32)))))
def fX8_sumIn_l6 (s : st_) (i0 : Int32) (i1 : Int32) (i2 : Int32) : Nat → (Int32 × Int32) → Option (Int32) :=
  it_ (fun v => fX8_sumIn_b6 s i0 i1 i2 v.1 v.2)
def fX8_sumIn (s : st_) (i0 : Int32) (i1 : Int32) (i2 : Int32) : Option (Int32) :=
  bn_ (fX8_sumIn_l6 s i0 i1 i2 FU_ ((0 : Int32), i1)) (fX8_sumIn_k6)
set_option maxRecDepth 8000 in
theorem kX8_sumIn {E : ev_} {H : Heap} {a : Nat} {s : st_} {i0 : Int32} {i1 : Int32} {i2 : Int32} {r : Int32} (hm : fX8_sumIn s i0 i1 i2 = some r) (h0 : has_ E H a ly_O s) : sp_ E mX8_sumIn [.ref a, .int i0, .int i1, .int i2] H (po1 (.inl (some (.int r))) (fun Hn => sm_ H Hn 0 0)) := by
  refine sp_of (by decide +kernel) rfl rfl ?_
  generalize hQ : po1 _ _ = Q
  have hs : sm_ H H 0 0 := sm_.rfl'
  unfold fX8_sumIn at hm
  refine aw_lv (lv' := [(0, .ref a), (1, .int i0), (2, .int i1), (3, .int i2)]) [0, 1, 2, 3] rfl ?_
  refine aw_b (pc' := 6) (lv' := [(5, .int i1), (4, .int (0 : Int32)), (0, .ref a), (1, .int i0), (2, .int i1), (3, .int i2)]) (st' := []) [(0, .iconst 0, 1, .int (0 : Int32)), (1, .istore 4, 2, .null), (3, .iload_n 2, 1, .null), (4, .istore 5, 2, .null)] (by decide +kernel) rfl ?_
  obtain ⟨x6, hx6, hr6⟩ := bn_x hm
  have X6_32 : ∀ (v4_x6_32 : Int32) (H_x6_32 : Heap), has_ E H_x6_32 a ly_O s → sm_ H H_x6_32 0 0 → fX8_sumIn_x6_32 v4_x6_32 = some r → aw E mX8_sumIn Q 32 [(4, .int v4_x6_32)] [] H_x6_32 0 0 := by
    intro v4_x6_32 H_x6_32 h0 hs hm
    unfold fX8_sumIn_x6_32 at hm
    refine aw_b (pc' := 34) (lv' := [(4, .int v4_x6_32)]) (st' := [.int v4_x6_32]) [(32, .iload 4, 2, .null)] (by decide +kernel) rfl ?_
    obtain rfl := Option.some.inj hm
    subst hQ
    exact aw_iret rfl (Nat.zero_le _) (Nat.zero_le _) (by decide +kernel) ⟨rfl, hs⟩
  have L6 : ∀ (fu : Nat) (v4_b6 : Int32) (v5_b6 : Int32) (H_b6 : Heap), has_ E H_b6 a ly_O s → sm_ H H_b6 0 0 → fX8_sumIn_l6 s i0 i1 i2 fu (v4_b6, v5_b6) = some x6 → aw E mX8_sumIn Q 6 [(0, .ref a), (1, .int i0), (2, .int i1), (3, .int i2), (4, .int v4_b6), (5, .int v5_b6)] [] H_b6 0 0 := by
    intro fu
    induction fu with
    | zero =>
      intro v4_b6 v5_b6 H_b6 h0 hs hm
      exact (it_0 hm).elim
    | succ fu ih6 =>
      intro v4_b6 v5_b6 H_b6 h0 hs hm
      obtain ⟨y6, hm, hk6⟩ := it_s hm
      have hm : fX8_sumIn_b6 s i0 i1 i2 v4_b6 v5_b6 = some y6 := hm
      unfold fX8_sumIn_b6 at hm
      refine aw_b (pc' := 11) (lv' := [(0, .ref a), (1, .int i0), (2, .int i1), (3, .int i2), (4, .int v4_b6), (5, .int v5_b6)]) (st' := [.int (i1 + i2), .int v5_b6]) [(6, .iload 5, 2, .null), (8, .iload_n 2, 1, .null), (9, .iload_n 3, 1, .null), (10, .iadd, 1, .null)] (by decide +kernel) rfl ?_
      refine aw_ic_ge (off := 21) 32 (by decide) (by decide +kernel) (fun hc => ?_) (fun hc => ?_)
      · have hm := (if_pos hc).symm.trans hm
        cases hm
        refine aw_lv (lv' := [(4, .int v4_b6)]) [4] rfl ?_
        exact X6_32 v4_b6 H_b6 h0 hs ((congrArg fX8_sumIn_k6 (show (v4_b6) = x6 from hk6)).trans hr6)
      · have hm := (if_neg hc).symm.trans hm
        refine aw_b (pc' := 20) (lv' := [(0, .ref a), (1, .int i0), (2, .int i1), (3, .int i2), (4, .int v4_b6), (5, .int v5_b6)]) (st' := [.int v5_b6, .int i0, .ref a, .int v4_b6]) [(14, .iload 4, 2, .null), (16, .aload_n 0, 1, .null), (17, .iload_n 1, 1, .null), (18, .iload 5, 2, .null)] (by decide +kernel) rfl ?_
        obtain ⟨r1, e2, hm⟩ := bn_x hm
        refine aw_cv (rest := [.int v4_b6]) (st1 := [.int r1, .int v4_b6]) a 0 (kX8_costIn1 e2 h0) rfl rfl ckX8_costIn1 lkX8_401 h0 eo_O_0 ⟨_, _, rfl⟩ nkX8_costIn1 rfl rfl rfl (Nat.le_of_ble_eq_true rfl) (Nat.zero_le _) (Nat.zero_le _) (by decide +kernel) (fun H3 z4 => ?_)
        have h0 := h0.kept0 z4
        have hs := hs.step0 z4
        refine aw_b (pc' := 6) (lv' := [(5, .int (v5_b6 + (1 : Int32))), (4, .int (v4_b6 + r1)), (0, .ref a), (1, .int i0), (2, .int i1), (3, .int i2)]) (st' := []) [(23, .iadd, 1, .null), (24, .istore 4, 2, .null), (26, .iinc 5 1, 3, .int (1 : Int32)), (29, .goto (-23), 3, .null)] (by decide +kernel) rfl ?_
        cases hm
        refine aw_lv (lv' := [(0, .ref a), (1, .int i0), (2, .int i1), (3, .int i2), (4, .int (v4_b6 + r1)), (5, .int (v5_b6 + (1 : Int32)))]) [2, 3, 4, 5, 1, 0] rfl ?_
        exact ih6 (v4_b6 + r1) (v5_b6 + (1 : Int32)) H3 h0 hs hk6
  refine aw_lv (lv' := [(0, .ref a), (1, .int i0), (2, .int i1), (3, .int i2), (4, .int (0 : Int32)), (5, .int i1)]) [2, 3, 4, 5, 1, 0] rfl ?_
  exact L6 FU_ (0 : Int32) i1 H h0 hs hx6
def mX8_bestIn : mt_ := (yX8_bestIn, cX8_bestIn, 6, some .int, [], { frames := 2, locals := 47, cells := 0, slots := 0 })
theorem ckX8_bestIn : cokV_ mX8_bestIn := ⟨⟨(uw_mem 1891 (by decide +kernel) (by decide +kernel)), (uw_mem 112 (by decide +kernel) (by decide +kernel)), by decide +kernel, by decide +kernel⟩, (uw_mem 1890 (by decide +kernel) (by decide +kernel)), (uw_mem 76 (by decide +kernel) (by decide +kernel))⟩
theorem nkX8_bestIn : nok_ mX8_bestIn 2 := by decide +kernel
theorem lkX8_410 : Cond.methodLink RX8 410 yX8_sumIn ∈ uw_ := (uw_mem 1892 (by decide +kernel) (by decide +kernel))
theorem fpX8_413 : fpk_ RX8 413 8 17 .int := ⟨_, _, _, tyX8, rfl, by decide, (uw_mem 1452 (by decide +kernel) (by decide +kernel)), wkX8, tyX8_ok, nmX8, rfl, by decide +kernel⟩
theorem fsq_8_17 : fsp_ fsX8 17 := ⟨fun _ _ => rfl, fun _ _ _ => rfl⟩
theorem fgX8_413 : fok_ RX8 413 8 17 := ⟨_, _, _, rfl, by decide, (uw_mem 1452 (by decide +kernel) (by decide +kernel)), wkX8⟩
def fX8_bestIn_x5_58 (v3_x5_58 : Int32) (s_x5_58 : st_) : Option (st_ × Int32) :=
  some (s_x5_58, v3_x5_58)
def fX8_bestIn_k5 (x : Int32 × st_) : Option (st_ × Int32) :=
  fX8_bestIn_x5_58 x.1 x.2
def fX8_bestIn_j52 (v4_b5 : Int32) (v3_j52 : Int32) (s_j52 : st_) : Option ((Int32 × Int32 × st_) ⊕ (Int32 × st_)) :=
  some (.inl (v3_j52, (v4_b5 + (1 : Int32)), s_j52))
def fX8_bestIn_j43 (v4_b5 : Int32) (s_b5 : st_) (r2 : Int32) : Option ((Int32 × Int32 × st_) ⊕ (Int32 × st_)) :=
  bd_ (pt_ s_b5 0 17 r2) fun s6 =>
  fX8_bestIn_j52 v4_b5 v4_b5 s6
def fX8_bestIn_b5 (i0 : Int32) (i1 : Int32) (v3_b5 : Int32) (v4_b5 : Int32) (s_b5 : st_) : Option ((Int32 × Int32 × st_) ⊕ (Int32 × st_)) :=
  gd_ (ib_ (4 : Int32) 12584) <|
  if (s_b5 1 (ix_ (4 : Int32))) ≤ v4_b5 then (some (.inr (v3_b5, s_b5)))
  else (bn_ (fX8_sumIn s_b5 v4_b5 i0 i1) fun r2 =>
  if v3_b5 = (-1 : Int32) then (fX8_bestIn_j43 v4_b5 s_b5 r2)
  else (if r2 < (s_b5 0 17) then (fX8_bestIn_j43 v4_b5 s_b5 r2)
  else (fX8_bestIn_j52 v4_b5 v3_b5 s_b5)))
def fX8_bestIn_l5 (i0 : Int32) (i1 : Int32) : Nat → (Int32 × Int32 × st_) → Option (Int32 × st_) :=
  it_ (fun v => fX8_bestIn_b5 i0 i1 v.1 v.2.1 v.2.2)
def fX8_bestIn (s : st_) (i0 : Int32) (i1 : Int32) : Option (st_ × Int32) :=
  bn_ (fX8_bestIn_l5 i0 i1 FU_ ((-1 : Int32), (0 : Int32), s)) (fX8_bestIn_k5)
set_option maxRecDepth 8000 in
theorem kX8_bestIn {E : ev_} {H : Heap} {a : Nat} {s : st_} {i0 : Int32} {i1 : Int32} {r : st_ × Int32} (hm : fX8_bestIn s i0 i1 = some r) (h0 : has_ E H a ly_O s) (hf : ev_fr E a) : sp_ E mX8_bestIn [.ref a, .int i0, .int i1] H (po1 (.inl (some (.int r.2))) (fun Hn => sm_ H Hn a 10 ∧ has_ E Hn a ly_O r.1)) := by
  refine sp_of (by decide +kernel) rfl rfl ?_
  generalize hQ : po1 _ _ = Q
  have hs : sm_ H H a 10 := sm_.rfl'
  unfold fX8_bestIn at hm
  refine aw_lv (lv' := [(0, .ref a), (1, .int i0), (2, .int i1)]) [0, 1, 2] rfl ?_
  refine aw_b (pc' := 5) (lv' := [(4, .int (0 : Int32)), (3, .int (-1 : Int32)), (0, .ref a), (1, .int i0), (2, .int i1)]) (st' := []) [(0, .iconst (-1), 1, .int (-1 : Int32)), (1, .istore_n 3, 1, .null), (2, .iconst 0, 1, .int (0 : Int32)), (3, .istore 4, 2, .null)] (by decide +kernel) rfl ?_
  obtain ⟨x5, hx5, hr5⟩ := bn_x hm
  have X5_58 : ∀ (v3_x5_58 : Int32) (s_x5_58 : st_) (H_x5_58 : Heap), has_ E H_x5_58 a ly_O s_x5_58 → sm_ H H_x5_58 a 10 → fX8_bestIn_x5_58 v3_x5_58 s_x5_58 = some r → aw E mX8_bestIn Q 58 [(3, .int v3_x5_58)] [] H_x5_58 0 0 := by
    intro v3_x5_58 s_x5_58 H_x5_58 h0 hs hm
    unfold fX8_bestIn_x5_58 at hm
    refine aw_b (pc' := 59) (lv' := [(3, .int v3_x5_58)]) (st' := [.int v3_x5_58]) [(58, .iload_n 3, 1, .null)] (by decide +kernel) rfl ?_
    obtain rfl := Option.some.inj hm
    subst hQ
    exact aw_iret rfl (Nat.zero_le _) (Nat.zero_le _) (by decide +kernel) ⟨rfl, hs, h0⟩
  have L5 : ∀ (fu : Nat) (v3_b5 : Int32) (v4_b5 : Int32) (s_b5 : st_) (H_b5 : Heap), has_ E H_b5 a ly_O s_b5 → sm_ H H_b5 a 10 → fX8_bestIn_l5 i0 i1 fu (v3_b5, v4_b5, s_b5) = some x5 → aw E mX8_bestIn Q 5 [(0, .ref a), (1, .int i0), (2, .int i1), (3, .int v3_b5), (4, .int v4_b5)] [] H_b5 0 0 := by
    intro fu
    induction fu with
    | zero =>
      intro v3_b5 v4_b5 s_b5 H_b5 h0 hs hm
      exact (it_0 hm).elim
    | succ fu ih5 =>
      intro v3_b5 v4_b5 s_b5 H_b5 h0 hs hm
      obtain ⟨y5, hm, hk5⟩ := it_s hm
      have hm : fX8_bestIn_b5 i0 i1 v3_b5 v4_b5 s_b5 = some y5 := hm
      unfold fX8_bestIn_b5 at hm
      refine aw_b (pc' := 8) (lv' := [(0, .ref a), (1, .int i0), (2, .int i1), (3, .int v3_b5), (4, .int v4_b5)]) (st' := [.ref a, .int v4_b5]) [(5, .iload 4, 2, .null), (7, .aload_n 0, 1, .null)] (by decide +kernel) rfl ?_
      refine aw_gl (v := .ref (a + 1)) a 0 h0 eo_O_0 fgX8_9 rfl (by decide +kernel) ?_
      refine aw_b (pc' := 12) (lv' := [(0, .ref a), (1, .int i0), (2, .int i1), (3, .int v3_b5), (4, .int v4_b5)]) (st' := [.int (4 : Int32), .ref (a + 1), .int v4_b5]) [(11, .iconst 4, 1, .int (4 : Int32))] (by decide +kernel) rfl ?_
      obtain ⟨g1, hm⟩ := gd_x hm
      refine aw_ial a 1 h0 rfl g1 (by decide +kernel) ?_
      refine aw_ic_ge (off := 45) 58 (by decide) (by decide +kernel) (fun hc => ?_) (fun hc => ?_)
      · have hm := (if_pos hc).symm.trans hm
        cases hm
        refine aw_lv (lv' := [(3, .int v3_b5)]) [3] rfl ?_
        exact X5_58 v3_b5 s_b5 H_b5 h0 hs ((congrArg fX8_bestIn_k5 (show ((v3_b5, s_b5)) = x5 from hk5)).trans hr5)
      · have hm := (if_neg hc).symm.trans hm
        refine aw_b (pc' := 21) (lv' := [(0, .ref a), (1, .int i0), (2, .int i1), (3, .int v3_b5), (4, .int v4_b5)]) (st' := [.int i1, .int i0, .int v4_b5, .ref a]) [(16, .aload_n 0, 1, .null), (17, .iload 4, 2, .null), (19, .iload_n 1, 1, .null), (20, .iload_n 2, 1, .null)] (by decide +kernel) rfl ?_
        obtain ⟨r2, e3, hm⟩ := bn_x hm
        refine aw_cv (rest := []) (st1 := [.int r2]) a 0 (kX8_sumIn e3 h0) rfl rfl ckX8_sumIn lkX8_410 h0 eo_O_0 ⟨_, _, rfl⟩ nkX8_sumIn rfl rfl rfl (Nat.le_of_ble_eq_true rfl) (Nat.zero_le _) (Nat.zero_le _) (by decide +kernel) (fun H4 z5 => ?_)
        have h0 := h0.kept0 z5
        have hs := hs.step0 z5
        refine aw_b (pc' := 28) (lv' := [(5, .int r2), (0, .ref a), (1, .int i0), (2, .int i1), (3, .int v3_b5), (4, .int v4_b5)]) (st' := [.int (-1 : Int32), .int v3_b5]) [(24, .istore 5, 2, .null), (26, .iload_n 3, 1, .null), (27, .iconst (-1), 1, .int (-1 : Int32))] (by decide +kernel) rfl ?_
        have J52 : ∀ (v3_j52 : Int32) (s_j52 : st_) (H_j52 : Heap), has_ E H_j52 a ly_O s_j52 → sm_ H H_j52 a 10 → fX8_bestIn_j52 v4_b5 v3_j52 s_j52 = some y5 → aw E mX8_bestIn Q 52 [(0, .ref a), (1, .int i0), (2, .int i1), (3, .int v3_j52), (4, .int v4_b5)] [] H_j52 0 0 := by
          intro v3_j52 s_j52 H_j52 h0 hs hm
          unfold fX8_bestIn_j52 at hm
          refine aw_b (pc' := 5) (lv' := [(4, .int (v4_b5 + (1 : Int32))), (0, .ref a), (1, .int i0), (2, .int i1), (3, .int v3_j52)]) (st' := []) [(52, .iinc 4 1, 3, .int (1 : Int32)), (55, .goto (-50), 3, .null)] (by decide +kernel) rfl ?_
          cases hm
          refine aw_lv (lv' := [(0, .ref a), (1, .int i0), (2, .int i1), (3, .int v3_j52), (4, .int (v4_b5 + (1 : Int32)))]) [1, 2, 3, 4, 0] rfl ?_
          exact ih5 v3_j52 (v4_b5 + (1 : Int32)) s_j52 H_j52 h0 hs hk5
        have J43 : ∀ (H_j43 : Heap), has_ E H_j43 a ly_O s_b5 → sm_ H H_j43 a 10 → fX8_bestIn_j43 v4_b5 s_b5 r2 = some y5 → aw E mX8_bestIn Q 43 [(0, .ref a), (1, .int i0), (2, .int i1), (4, .int v4_b5), (5, .int r2)] [] H_j43 0 0 := by
          intro H_j43 h0 hs hm
          unfold fX8_bestIn_j43 at hm
          refine aw_b (pc' := 49) (lv' := [(3, .int v4_b5), (0, .ref a), (1, .int i0), (2, .int i1), (4, .int v4_b5), (5, .int r2)]) (st' := [.int r2, .ref a]) [(43, .iload 4, 2, .null), (45, .istore_n 3, 1, .null), (46, .aload_n 0, 1, .null), (47, .iload 5, 2, .null)] (by decide +kernel) rfl ?_
          obtain ⟨s6, e7, hm⟩ := bd_x hm
          refine aw_pl a 0 h0 eo_O_0 fsq_8_17 fpX8_413 hf rfl rfl e7 (by decide +kernel) (fun H8 h0 z9 => ?_)
          have hs := hs.step z9 (by omega) (by omega)
          refine aw_lv (lv' := [(0, .ref a), (1, .int i0), (2, .int i1), (3, .int v4_b5), (4, .int v4_b5)]) [1, 2, 3, 0, 4] rfl ?_
          exact J52 v4_b5 s6 H8 h0 hs hm
        refine aw_ic_eq (off := 15) 43 (by decide) (by decide +kernel) (fun hc => ?_) (fun hc => ?_)
        · have hm := (if_pos hc).symm.trans hm
          refine aw_lv (lv' := [(0, .ref a), (1, .int i0), (2, .int i1), (4, .int v4_b5), (5, .int r2)]) [1, 2, 3, 5, 0] rfl ?_
          exact J43 H4 h0 hs hm
        · have hm := (if_neg hc).symm.trans hm
          refine aw_b (pc' := 34) (lv' := [(5, .int r2), (0, .ref a), (1, .int i0), (2, .int i1), (3, .int v3_b5), (4, .int v4_b5)]) (st' := [.ref a, .int r2]) [(31, .iload 5, 2, .null), (33, .aload_n 0, 1, .null)] (by decide +kernel) rfl ?_
          refine aw_gl (v := .int (s_b5 0 17)) a 0 h0 eo_O_0 fgX8_413 rfl (by decide +kernel) ?_
          refine aw_ic_lt (off := 6) 43 (by decide) (by decide +kernel) (fun hc => ?_) (fun hc => ?_)
          · have hm := (if_pos hc).symm.trans hm
            refine aw_lv (lv' := [(0, .ref a), (1, .int i0), (2, .int i1), (4, .int v4_b5), (5, .int r2)]) [1, 2, 3, 5, 0] rfl ?_
            exact J43 H4 h0 hs hm
          · have hm := (if_neg hc).symm.trans hm
            refine aw_b (pc' := 52) (lv' := [(5, .int r2), (0, .ref a), (1, .int i0), (2, .int i1), (3, .int v3_b5), (4, .int v4_b5)]) (st' := []) [(40, .goto 12, 3, .null)] (by decide +kernel) rfl ?_
            refine aw_lv (lv' := [(0, .ref a), (1, .int i0), (2, .int i1), (3, .int v3_b5), (4, .int v4_b5)]) [1, 2, 3, 4, 5] rfl ?_
            exact J52 v3_b5 s_b5 H4 h0 hs hm
  refine aw_lv (lv' := [(0, .ref a), (1, .int i0), (2, .int i1), (3, .int (-1 : Int32)), (4, .int (0 : Int32))]) [2, 3, 4, 1, 0] rfl ?_
  exact L5 FU_ (-1 : Int32) (0 : Int32) s H h0 hs hx5
def mX8_regretIn1 : mt_ := (yX8_regretIn1, cX8_regretIn1, 4, some .int, [], { frames := 3, locals := 72, cells := 0, slots := 0 })
theorem ckX8_regretIn1 : cokV_ mX8_regretIn1 := ⟨⟨(uw_mem 1887 (by decide +kernel) (by decide +kernel)), (uw_mem 112 (by decide +kernel) (by decide +kernel)), by decide +kernel, by decide +kernel⟩, (uw_mem 1886 (by decide +kernel) (by decide +kernel)), (uw_mem 75 (by decide +kernel) (by decide +kernel))⟩
theorem nkX8_regretIn1 : nok_ mX8_regretIn1 2 := by decide +kernel
theorem lkX8_416 : Cond.methodLink RX8 416 yX8_bestIn ∈ uw_ := (uw_mem 1888 (by decide +kernel) (by decide +kernel))
def fX8_regretIn1 (s : st_) (i0 : Int32) (i1 : Int32) : Option (st_ × Int32) :=
  bn_ (fX8_bestIn s i0 i1) fun r1 =>
  bn_ (fX8_sumIn r1.1 (6 : Int32) i0 i1) fun r5 =>
  some (r1.1, (r5 - (r1.1 0 17)))
set_option maxRecDepth 8000 in
theorem kX8_regretIn1 {E : ev_} {H : Heap} {a : Nat} {s : st_} {i0 : Int32} {i1 : Int32} {r : st_ × Int32} (hm : fX8_regretIn1 s i0 i1 = some r) (h0 : has_ E H a ly_O s) (hf : ev_fr E a) : sp_ E mX8_regretIn1 [.ref a, .int i0, .int i1] H (po1 (.inl (some (.int r.2))) (fun Hn => sm_ H Hn a 10 ∧ has_ E Hn a ly_O r.1)) := by
  refine sp_of (by decide +kernel) rfl rfl ?_
  generalize hQ : po1 _ _ = Q
  have hs : sm_ H H a 10 := sm_.rfl'
  unfold fX8_regretIn1 at hm
  refine aw_lv (lv' := [(0, .ref a), (1, .int i0), (2, .int i1)]) [0, 1, 2] rfl ?_
  refine aw_b (pc' := 3) (lv' := [(0, .ref a), (1, .int i0), (2, .int i1)]) (st' := [.int i1, .int i0, .ref a]) [(0, .aload_n 0, 1, .null), (1, .iload_n 1, 1, .null), (2, .iload_n 2, 1, .null)] (by decide +kernel) rfl ?_
  obtain ⟨r1, e2, hm⟩ := bn_x hm
  refine aw_cv (rest := []) (st1 := [.int r1.2]) a 0 (kX8_bestIn e2 h0 hf) rfl rfl ckX8_bestIn lkX8_416 h0 eo_O_0 ⟨_, _, rfl⟩ nkX8_bestIn rfl rfl rfl (Nat.le_of_ble_eq_true rfl) (Nat.zero_le _) (Nat.zero_le _) (by decide +kernel) (fun H3 z4 => ?_)
  obtain ⟨z4, hn⟩ := z4
  have h0 := hn
  have hs := hs.step z4 (by omega) (by omega)
  refine aw_b (pc' := 12) (lv' := [(3, .int r1.2), (0, .ref a), (1, .int i0), (2, .int i1)]) (st' := [.int i1, .int i0, .int (6 : Int32), .ref a]) [(6, .istore_n 3, 1, .null), (7, .aload_n 0, 1, .null), (8, .bipush 6, 2, .int (6 : Int32)), (10, .iload_n 1, 1, .null), (11, .iload_n 2, 1, .null)] (by decide +kernel) rfl ?_
  obtain ⟨r5, e6, hm⟩ := bn_x hm
  refine aw_cv (rest := []) (st1 := [.int r5]) a 0 (kX8_sumIn e6 h0) rfl rfl ckX8_sumIn lkX8_410 h0 eo_O_0 ⟨_, _, rfl⟩ nkX8_sumIn rfl rfl rfl (Nat.le_of_ble_eq_true rfl) (Nat.zero_le _) (Nat.zero_le _) (by decide +kernel) (fun H7 z8 => ?_)
  have h0 := h0.kept0 z8
  have hs := hs.step0 z8
  refine aw_b (pc' := 16) (lv' := [(3, .int r1.2), (0, .ref a), (1, .int i0), (2, .int i1)]) (st' := [.ref a, .int r5]) [(15, .aload_n 0, 1, .null)] (by decide +kernel) rfl ?_
  refine aw_gl (v := .int (r1.1 0 17)) a 0 h0 eo_O_0 fgX8_413 rfl (by decide +kernel) ?_
  refine aw_b (pc' := 20) (lv' := [(3, .int r1.2), (0, .ref a), (1, .int i0), (2, .int i1)]) (st' := [.int (r5 - (r1.1 0 17))]) [(19, .isub, 1, .null)] (by decide +kernel) rfl ?_
  obtain rfl := Option.some.inj hm
  subst hQ
  exact aw_iret rfl (Nat.zero_le _) (Nat.zero_le _) (by decide +kernel) ⟨rfl, hs, h0⟩
def mX8_windowRegret : mt_ := (yX8_windowRegret, cX8_windowRegret, 3, some .int, [], { frames := 4, locals := 95, cells := 0, slots := 0 })
theorem ckX8_windowRegret : cokV_ mX8_windowRegret := ⟨⟨(uw_mem 1875 (by decide +kernel) (by decide +kernel)), (uw_mem 112 (by decide +kernel) (by decide +kernel)), by decide +kernel, by decide +kernel⟩, (uw_mem 1873 (by decide +kernel) (by decide +kernel)), (uw_mem 1874 (by decide +kernel) (by decide +kernel))⟩
theorem nkX8_windowRegret : nok_ mX8_windowRegret 2 := by decide +kernel
theorem lkX8_419 : Cond.methodLink RX8 419 yX8_noWindow ∈ uw_ := (uw_mem 1876 (by decide +kernel) (by decide +kernel))
theorem lkX8_422 : Cond.methodLink RX8 422 yX8_isWindow ∈ uw_ := (uw_mem 1880 (by decide +kernel) (by decide +kernel))
theorem lkX8_425 : Cond.methodLink RX8 425 yX8_regretIn1 ∈ uw_ := (uw_mem 1884 (by decide +kernel) (by decide +kernel))
def fX8_windowRegret (s : st_) (i0 : Int32) (i1 : Int32) : Option (st_ × Int32) :=
  bn_ (fX8_noWindow s i0 i1) fun r1 =>
  if r1.2 = (0 : Int32) then (bn_ (fX8_isWindow r1.1 i0 i1) fun r5 =>
  if r5 = (0 : Int32) then (some (r1.1, (-2000000000 : Int32)))
  else (bn_ (fX8_regretIn1 r1.1 i0 i1) fun r9 =>
  some (r9.1, r9.2)))
  else (some (r1.1, (0 : Int32)))
set_option maxRecDepth 8000 in
theorem kX8_windowRegret {E : ev_} {H : Heap} {a : Nat} {s : st_} {i0 : Int32} {i1 : Int32} {r : st_ × Int32} (hm : fX8_windowRegret s i0 i1 = some r) (h0 : has_ E H a ly_O s) (hf : ev_fr E a) : sp_ E mX8_windowRegret [.ref a, .int i0, .int i1] H (po1 (.inl (some (.int r.2))) (fun Hn => sm_ H Hn a 10 ∧ has_ E Hn a ly_O r.1)) := by
  refine sp_of (by decide +kernel) rfl rfl ?_
  generalize hQ : po1 _ _ = Q
  have hs : sm_ H H a 10 := sm_.rfl'
  unfold fX8_windowRegret at hm
  refine aw_lv (lv' := [(0, .ref a), (1, .int i0), (2, .int i1)]) [0, 1, 2] rfl ?_
  refine aw_b (pc' := 3) (lv' := [(0, .ref a), (1, .int i0), (2, .int i1)]) (st' := [.int i1, .int i0, .ref a]) [(0, .aload_n 0, 1, .null), (1, .iload_n 1, 1, .null), (2, .iload_n 2, 1, .null)] (by decide +kernel) rfl ?_
  obtain ⟨r1, e2, hm⟩ := bn_x hm
  refine aw_cv (rest := []) (st1 := [.int r1.2]) a 0 (kX8_noWindow e2 h0 hf) rfl rfl ckX8_noWindow lkX8_419 h0 eo_O_0 ⟨_, _, rfl⟩ nkX8_noWindow rfl rfl rfl (Nat.le_of_ble_eq_true rfl) (Nat.zero_le _) (Nat.zero_le _) (by decide +kernel) (fun H3 z4 => ?_)
  obtain ⟨z4, hn⟩ := z4
  have h0 := hn
  have hs := hs.step z4 (by omega) (by omega)
  refine aw_if_eq (off := 7) 13 (by decide) (by decide +kernel) (fun hc => ?_) (fun hc => ?_)
  · have hm := (if_pos hc).symm.trans hm
    refine aw_b (pc' := 16) (lv' := [(0, .ref a), (1, .int i0), (2, .int i1)]) (st' := [.int i1, .int i0, .ref a]) [(13, .aload_n 0, 1, .null), (14, .iload_n 1, 1, .null), (15, .iload_n 2, 1, .null)] (by decide +kernel) rfl ?_
    obtain ⟨r5, e6, hm⟩ := bn_x hm
    refine aw_cv (rest := []) (st1 := [.int r5]) a 0 (kX8_isWindow e6 h0) rfl rfl ckX8_isWindow lkX8_422 h0 eo_O_0 ⟨_, _, rfl⟩ nkX8_isWindow rfl rfl rfl (Nat.le_of_ble_eq_true rfl) (Nat.zero_le _) (Nat.zero_le _) (by decide +kernel) (fun H7 z8 => ?_)
    have h0 := h0.kept0 z8
    have hs := hs.step0 z8
    refine aw_if_eq (off := 12) 31 (by decide) (by decide +kernel) (fun hc => ?_) (fun hc => ?_)
    · have hm := (if_pos hc).symm.trans hm
      refine aw_ldcw (v := (-2000000000 : Int32)) kwX8_397 (by decide +kernel) ?_
      obtain rfl := Option.some.inj hm
      subst hQ
      exact aw_iret rfl (Nat.zero_le _) (Nat.zero_le _) (by decide +kernel) ⟨rfl, hs, h0⟩
    · have hm := (if_neg hc).symm.trans hm
      refine aw_b (pc' := 25) (lv' := [(0, .ref a), (1, .int i0), (2, .int i1)]) (st' := [.int i1, .int i0, .ref a]) [(22, .aload_n 0, 1, .null), (23, .iload_n 1, 1, .null), (24, .iload_n 2, 1, .null)] (by decide +kernel) rfl ?_
      obtain ⟨r9, e10, hm⟩ := bn_x hm
      refine aw_cv (rest := []) (st1 := [.int r9.2]) a 0 (kX8_regretIn1 e10 h0 hf) rfl rfl ckX8_regretIn1 lkX8_425 h0 eo_O_0 ⟨_, _, rfl⟩ nkX8_regretIn1 rfl rfl rfl (Nat.le_of_ble_eq_true rfl) (Nat.zero_le _) (Nat.zero_le _) (by decide +kernel) (fun H11 z12 => ?_)
      obtain ⟨z12, hn⟩ := z12
      have h0 := hn
      have hs := hs.step z12 (by omega) (by omega)
      refine aw_b (pc' := 34) (lv' := [(0, .ref a), (1, .int i0), (2, .int i1)]) (st' := [.int r9.2]) [(28, .goto 6, 3, .null)] (by decide +kernel) rfl ?_
      obtain rfl := Option.some.inj hm
      subst hQ
      exact aw_iret rfl (Nat.zero_le _) (Nat.zero_le _) (by decide +kernel) ⟨rfl, hs, h0⟩
  · have hm := (if_neg hc).symm.trans hm
    refine aw_b (pc' := 34) (lv' := [(0, .ref a), (1, .int i0), (2, .int i1)]) (st' := [.int (0 : Int32)]) [(9, .iconst 0, 1, .int (0 : Int32)), (10, .goto 24, 3, .null)] (by decide +kernel) rfl ?_
    obtain rfl := Option.some.inj hm
    subst hQ
    exact aw_iret rfl (Nat.zero_le _) (Nat.zero_le _) (by decide +kernel) ⟨rfl, hs, h0⟩
def mX8_windowBest : mt_ := (yX8_windowBest, cX8_windowBest, 3, some .int, [], { frames := 3, locals := 72, cells := 0, slots := 0 })
theorem ckX8_windowBest : cokV_ mX8_windowBest := ⟨⟨(uw_mem 1899 (by decide +kernel) (by decide +kernel)), (uw_mem 112 (by decide +kernel) (by decide +kernel)), by decide +kernel, by decide +kernel⟩, (uw_mem 1897 (by decide +kernel) (by decide +kernel)), (uw_mem 1898 (by decide +kernel) (by decide +kernel))⟩
theorem nkX8_windowBest : nok_ mX8_windowBest 2 := by decide +kernel
def fX8_windowBest (s : st_) (i0 : Int32) (i1 : Int32) : Option (st_ × Int32) :=
  bn_ (fX8_noWindow s i0 i1) fun r1 =>
  if r1.2 = (0 : Int32) then (bn_ (fX8_isWindow r1.1 i0 i1) fun r5 =>
  if r5 = (0 : Int32) then (some (r1.1, (-1 : Int32)))
  else (bn_ (fX8_bestIn r1.1 i0 i1) fun r9 =>
  some (r9.1, r9.2)))
  else (some (r1.1, (0 : Int32)))
set_option maxRecDepth 8000 in
theorem kX8_windowBest {E : ev_} {H : Heap} {a : Nat} {s : st_} {i0 : Int32} {i1 : Int32} {r : st_ × Int32} (hm : fX8_windowBest s i0 i1 = some r) (h0 : has_ E H a ly_O s) (hf : ev_fr E a) : sp_ E mX8_windowBest [.ref a, .int i0, .int i1] H (po1 (.inl (some (.int r.2))) (fun Hn => sm_ H Hn a 10 ∧ has_ E Hn a ly_O r.1)) := by
  refine sp_of (by decide +kernel) rfl rfl ?_
  generalize hQ : po1 _ _ = Q
  have hs : sm_ H H a 10 := sm_.rfl'
  unfold fX8_windowBest at hm
  refine aw_lv (lv' := [(0, .ref a), (1, .int i0), (2, .int i1)]) [0, 1, 2] rfl ?_
  refine aw_b (pc' := 3) (lv' := [(0, .ref a), (1, .int i0), (2, .int i1)]) (st' := [.int i1, .int i0, .ref a]) [(0, .aload_n 0, 1, .null), (1, .iload_n 1, 1, .null), (2, .iload_n 2, 1, .null)] (by decide +kernel) rfl ?_
  obtain ⟨r1, e2, hm⟩ := bn_x hm
  refine aw_cv (rest := []) (st1 := [.int r1.2]) a 0 (kX8_noWindow e2 h0 hf) rfl rfl ckX8_noWindow lkX8_419 h0 eo_O_0 ⟨_, _, rfl⟩ nkX8_noWindow rfl rfl rfl (Nat.le_of_ble_eq_true rfl) (Nat.zero_le _) (Nat.zero_le _) (by decide +kernel) (fun H3 z4 => ?_)
  obtain ⟨z4, hn⟩ := z4
  have h0 := hn
  have hs := hs.step z4 (by omega) (by omega)
  refine aw_if_eq (off := 7) 13 (by decide) (by decide +kernel) (fun hc => ?_) (fun hc => ?_)
  · have hm := (if_pos hc).symm.trans hm
    refine aw_b (pc' := 16) (lv' := [(0, .ref a), (1, .int i0), (2, .int i1)]) (st' := [.int i1, .int i0, .ref a]) [(13, .aload_n 0, 1, .null), (14, .iload_n 1, 1, .null), (15, .iload_n 2, 1, .null)] (by decide +kernel) rfl ?_
    obtain ⟨r5, e6, hm⟩ := bn_x hm
    refine aw_cv (rest := []) (st1 := [.int r5]) a 0 (kX8_isWindow e6 h0) rfl rfl ckX8_isWindow lkX8_422 h0 eo_O_0 ⟨_, _, rfl⟩ nkX8_isWindow rfl rfl rfl (Nat.le_of_ble_eq_true rfl) (Nat.zero_le _) (Nat.zero_le _) (by decide +kernel) (fun H7 z8 => ?_)
    have h0 := h0.kept0 z8
    have hs := hs.step0 z8
    refine aw_if_eq (off := 12) 31 (by decide) (by decide +kernel) (fun hc => ?_) (fun hc => ?_)
    · have hm := (if_pos hc).symm.trans hm
      refine aw_b (pc' := 32) (lv' := [(0, .ref a), (1, .int i0), (2, .int i1)]) (st' := [.int (-1 : Int32)]) [(31, .iconst (-1), 1, .int (-1 : Int32))] (by decide +kernel) rfl ?_
      obtain rfl := Option.some.inj hm
      subst hQ
      exact aw_iret rfl (Nat.zero_le _) (Nat.zero_le _) (by decide +kernel) ⟨rfl, hs, h0⟩
    · have hm := (if_neg hc).symm.trans hm
      refine aw_b (pc' := 25) (lv' := [(0, .ref a), (1, .int i0), (2, .int i1)]) (st' := [.int i1, .int i0, .ref a]) [(22, .aload_n 0, 1, .null), (23, .iload_n 1, 1, .null), (24, .iload_n 2, 1, .null)] (by decide +kernel) rfl ?_
      obtain ⟨r9, e10, hm⟩ := bn_x hm
      refine aw_cv (rest := []) (st1 := [.int r9.2]) a 0 (kX8_bestIn e10 h0 hf) rfl rfl ckX8_bestIn lkX8_416 h0 eo_O_0 ⟨_, _, rfl⟩ nkX8_bestIn rfl rfl rfl (Nat.le_of_ble_eq_true rfl) (Nat.zero_le _) (Nat.zero_le _) (by decide +kernel) (fun H11 z12 => ?_)
      obtain ⟨z12, hn⟩ := z12
      have h0 := hn
      have hs := hs.step z12 (by omega) (by omega)
      refine aw_b (pc' := 32) (lv' := [(0, .ref a), (1, .int i0), (2, .int i1)]) (st' := [.int r9.2]) [(28, .goto 4, 3, .null)] (by decide +kernel) rfl ?_
      obtain rfl := Option.some.inj hm
      subst hQ
      exact aw_iret rfl (Nat.zero_le _) (Nat.zero_le _) (by decide +kernel) ⟨rfl, hs, h0⟩
  · have hm := (if_neg hc).symm.trans hm
    refine aw_b (pc' := 32) (lv' := [(0, .ref a), (1, .int i0), (2, .int i1)]) (st' := [.int (0 : Int32)]) [(9, .iconst 0, 1, .int (0 : Int32)), (10, .goto 22, 3, .null)] (by decide +kernel) rfl ?_
    obtain rfl := Option.some.inj hm
    subst hQ
    exact aw_iret rfl (Nat.zero_le _) (Nat.zero_le _) (by decide +kernel) ⟨rfl, hs, h0⟩
def mX8_worstWindow : mt_ := (yX8_worstWindow, cX8_worstWindow, 6, some .int, [], { frames := 4, locals := 95, cells := 0, slots := 0 })
theorem ckX8_worstWindow : cokV_ mX8_worstWindow := ⟨⟨(uw_mem 1903 (by decide +kernel) (by decide +kernel)), (uw_mem 112 (by decide +kernel) (by decide +kernel)), by decide +kernel, by decide +kernel⟩, (uw_mem 1901 (by decide +kernel) (by decide +kernel)), (uw_mem 1902 (by decide +kernel) (by decide +kernel))⟩
theorem nkX8_worstWindow : nok_ mX8_worstWindow 1 := by decide +kernel
def fX8_worstWindow_x18_63 (v2_x18_63 : Int32) (s_x18_63 : st_) : Option (st_ × Int32) :=
  some (s_x18_63, v2_x18_63)
def fX8_worstWindow_k18 (x : Int32 × st_) : Option (st_ × Int32) :=
  fX8_worstWindow_x18_63 x.1 x.2
def fX8_worstWindow_j57 (v4_b18 : Int32) (r9 : st_ × Int32) (v2_j57 : Int32) (v3_j57 : Int32) : Option ((Int32 × Int32 × Int32 × st_) ⊕ (Int32 × st_)) :=
  some (.inl (v2_j57, v3_j57, (v4_b18 + (1 : Int32)), r9.1))
def fX8_worstWindow_j51 (v4_b18 : Int32) (r9 : st_ × Int32) : Option ((Int32 × Int32 × Int32 × st_) ⊕ (Int32 × st_)) :=
  fX8_worstWindow_j57 v4_b18 r9 v4_b18 r9.2
def fX8_worstWindow_b18 (i0 : Int32) (v2_b18 : Int32) (v3_b18 : Int32) (v4_b18 : Int32) (s_b18 : st_) : Option ((Int32 × Int32 × Int32 × st_) ⊕ (Int32 × st_)) :=
  bn_ (fX8_isWindow s_b18 v4_b18 i0) fun r5 =>
  if r5 = (0 : Int32) then (some (.inr (v2_b18, s_b18)))
  else (bn_ (fX8_regretIn1 s_b18 v4_b18 i0) fun r9 =>
  if v2_b18 = (-1 : Int32) then (fX8_worstWindow_j51 v4_b18 r9)
  else (if v3_b18 < r9.2 then (fX8_worstWindow_j51 v4_b18 r9)
  else (fX8_worstWindow_j57 v4_b18 r9 v2_b18 v3_b18)))
def fX8_worstWindow_l18 (i0 : Int32) : Nat → (Int32 × Int32 × Int32 × st_) → Option (Int32 × st_) :=
  it_ (fun v => fX8_worstWindow_b18 i0 v.1 v.2.1 v.2.2.1 v.2.2.2)
def fX8_worstWindow (s : st_) (i0 : Int32) : Option (st_ × Int32) :=
  bn_ (fX8_noWindow s (0 : Int32) i0) fun r1 =>
  if r1.2 = (0 : Int32) then (bn_ (fX8_worstWindow_l18 i0 FU_ ((-1 : Int32), (0 : Int32), (0 : Int32), r1.1)) (fX8_worstWindow_k18))
  else (some (r1.1, (0 : Int32)))
set_option maxRecDepth 8000 in
theorem kX8_worstWindow {E : ev_} {H : Heap} {a : Nat} {s : st_} {i0 : Int32} {r : st_ × Int32} (hm : fX8_worstWindow s i0 = some r) (h0 : has_ E H a ly_O s) (hf : ev_fr E a) : sp_ E mX8_worstWindow [.ref a, .int i0] H (po1 (.inl (some (.int r.2))) (fun Hn => sm_ H Hn a 10 ∧ has_ E Hn a ly_O r.1)) := by
  refine sp_of (by decide +kernel) rfl rfl ?_
  generalize hQ : po1 _ _ = Q
  have hs : sm_ H H a 10 := sm_.rfl'
  unfold fX8_worstWindow at hm
  refine aw_lv (lv' := [(0, .ref a), (1, .int i0)]) [0, 1] rfl ?_
  refine aw_b (pc' := 3) (lv' := [(0, .ref a), (1, .int i0)]) (st' := [.int i0, .int (0 : Int32), .ref a]) [(0, .aload_n 0, 1, .null), (1, .iconst 0, 1, .int (0 : Int32)), (2, .iload_n 1, 1, .null)] (by decide +kernel) rfl ?_
  obtain ⟨r1, e2, hm⟩ := bn_x hm
  refine aw_cv (rest := []) (st1 := [.int r1.2]) a 0 (kX8_noWindow e2 h0 hf) rfl rfl ckX8_noWindow lkX8_419 h0 eo_O_0 ⟨_, _, rfl⟩ nkX8_noWindow rfl rfl rfl (Nat.le_of_ble_eq_true rfl) (Nat.zero_le _) (Nat.zero_le _) (by decide +kernel) (fun H3 z4 => ?_)
  obtain ⟨z4, hn⟩ := z4
  have h0 := hn
  have hs := hs.step z4 (by omega) (by omega)
  refine aw_if_eq (off := 5) 11 (by decide) (by decide +kernel) (fun hc => ?_) (fun hc => ?_)
  · have hm := (if_pos hc).symm.trans hm
    refine aw_b (pc' := 18) (lv' := [(4, .int (0 : Int32)), (3, .int (0 : Int32)), (2, .int (-1 : Int32)), (0, .ref a), (1, .int i0)]) (st' := []) [(11, .iconst (-1), 1, .int (-1 : Int32)), (12, .istore_n 2, 1, .null), (13, .iconst 0, 1, .int (0 : Int32)), (14, .istore_n 3, 1, .null), (15, .iconst 0, 1, .int (0 : Int32)), (16, .istore 4, 2, .null)] (by decide +kernel) rfl ?_
    obtain ⟨x18, hx18, hr18⟩ := bn_x hm
    have X18_63 : ∀ (v2_x18_63 : Int32) (s_x18_63 : st_) (H_x18_63 : Heap), has_ E H_x18_63 a ly_O s_x18_63 → sm_ H H_x18_63 a 10 → fX8_worstWindow_x18_63 v2_x18_63 s_x18_63 = some r → aw E mX8_worstWindow Q 63 [(2, .int v2_x18_63)] [] H_x18_63 0 0 := by
      intro v2_x18_63 s_x18_63 H_x18_63 h0 hs hm
      unfold fX8_worstWindow_x18_63 at hm
      refine aw_b (pc' := 64) (lv' := [(2, .int v2_x18_63)]) (st' := [.int v2_x18_63]) [(63, .iload_n 2, 1, .null)] (by decide +kernel) rfl ?_
      obtain rfl := Option.some.inj hm
      subst hQ
      exact aw_iret rfl (Nat.zero_le _) (Nat.zero_le _) (by decide +kernel) ⟨rfl, hs, h0⟩
    have L18 : ∀ (fu : Nat) (v2_b18 : Int32) (v3_b18 : Int32) (v4_b18 : Int32) (s_b18 : st_) (H_b18 : Heap), has_ E H_b18 a ly_O s_b18 → sm_ H H_b18 a 10 → fX8_worstWindow_l18 i0 fu (v2_b18, v3_b18, v4_b18, s_b18) = some x18 → aw E mX8_worstWindow Q 18 [(0, .ref a), (1, .int i0), (2, .int v2_b18), (3, .int v3_b18), (4, .int v4_b18)] [] H_b18 0 0 := by
      intro fu
      induction fu with
      | zero =>
        intro v2_b18 v3_b18 v4_b18 s_b18 H_b18 h0 hs hm
        exact (it_0 hm).elim
      | succ fu ih18 =>
        intro v2_b18 v3_b18 v4_b18 s_b18 H_b18 h0 hs hm
        obtain ⟨y18, hm, hk18⟩ := it_s hm
        have hm : fX8_worstWindow_b18 i0 v2_b18 v3_b18 v4_b18 s_b18 = some y18 := hm
        unfold fX8_worstWindow_b18 at hm
        refine aw_b (pc' := 22) (lv' := [(0, .ref a), (1, .int i0), (2, .int v2_b18), (3, .int v3_b18), (4, .int v4_b18)]) (st' := [.int i0, .int v4_b18, .ref a]) [(18, .aload_n 0, 1, .null), (19, .iload 4, 2, .null), (21, .iload_n 1, 1, .null)] (by decide +kernel) rfl ?_
        obtain ⟨r5, e6, hm⟩ := bn_x hm
        refine aw_cv (rest := []) (st1 := [.int r5]) a 0 (kX8_isWindow e6 h0) rfl rfl ckX8_isWindow lkX8_422 h0 eo_O_0 ⟨_, _, rfl⟩ nkX8_isWindow rfl rfl rfl (Nat.le_of_ble_eq_true rfl) (Nat.zero_le _) (Nat.zero_le _) (by decide +kernel) (fun H7 z8 => ?_)
        have h0 := h0.kept0 z8
        have hs := hs.step0 z8
        refine aw_if_eq (off := 38) 63 (by decide) (by decide +kernel) (fun hc => ?_) (fun hc => ?_)
        · have hm := (if_pos hc).symm.trans hm
          cases hm
          refine aw_lv (lv' := [(2, .int v2_b18)]) [2] rfl ?_
          exact X18_63 v2_b18 s_b18 H7 h0 hs ((congrArg fX8_worstWindow_k18 (show ((v2_b18, s_b18)) = x18 from hk18)).trans hr18)
        · have hm := (if_neg hc).symm.trans hm
          refine aw_b (pc' := 32) (lv' := [(0, .ref a), (1, .int i0), (2, .int v2_b18), (3, .int v3_b18), (4, .int v4_b18)]) (st' := [.int i0, .int v4_b18, .ref a]) [(28, .aload_n 0, 1, .null), (29, .iload 4, 2, .null), (31, .iload_n 1, 1, .null)] (by decide +kernel) rfl ?_
          obtain ⟨r9, e10, hm⟩ := bn_x hm
          refine aw_cv (rest := []) (st1 := [.int r9.2]) a 0 (kX8_regretIn1 e10 h0 hf) rfl rfl ckX8_regretIn1 lkX8_425 h0 eo_O_0 ⟨_, _, rfl⟩ nkX8_regretIn1 rfl rfl rfl (Nat.le_of_ble_eq_true rfl) (Nat.zero_le _) (Nat.zero_le _) (by decide +kernel) (fun H11 z12 => ?_)
          obtain ⟨z12, hn⟩ := z12
          have h0 := hn
          have hs := hs.step z12 (by omega) (by omega)
          refine aw_b (pc' := 39) (lv' := [(5, .int r9.2), (0, .ref a), (1, .int i0), (2, .int v2_b18), (3, .int v3_b18), (4, .int v4_b18)]) (st' := [.int (-1 : Int32), .int v2_b18]) [(35, .istore 5, 2, .null), (37, .iload_n 2, 1, .null), (38, .iconst (-1), 1, .int (-1 : Int32))] (by decide +kernel) rfl ?_
          have J57 : ∀ (v2_j57 : Int32) (v3_j57 : Int32) (H_j57 : Heap), has_ E H_j57 a ly_O r9.1 → sm_ H H_j57 a 10 → fX8_worstWindow_j57 v4_b18 r9 v2_j57 v3_j57 = some y18 → aw E mX8_worstWindow Q 57 [(0, .ref a), (1, .int i0), (2, .int v2_j57), (3, .int v3_j57), (4, .int v4_b18)] [] H_j57 0 0 := by
            intro v2_j57 v3_j57 H_j57 h0 hs hm
            unfold fX8_worstWindow_j57 at hm
            refine aw_b (pc' := 18) (lv' := [(4, .int (v4_b18 + (1 : Int32))), (0, .ref a), (1, .int i0), (2, .int v2_j57), (3, .int v3_j57)]) (st' := []) [(57, .iinc 4 1, 3, .int (1 : Int32)), (60, .goto (-42), 3, .null)] (by decide +kernel) rfl ?_
            cases hm
            refine aw_lv (lv' := [(0, .ref a), (1, .int i0), (2, .int v2_j57), (3, .int v3_j57), (4, .int (v4_b18 + (1 : Int32)))]) [1, 2, 3, 4, 0] rfl ?_
            exact ih18 v2_j57 v3_j57 (v4_b18 + (1 : Int32)) r9.1 H_j57 h0 hs hk18
          have J51 : ∀ (H_j51 : Heap), has_ E H_j51 a ly_O r9.1 → sm_ H H_j51 a 10 → fX8_worstWindow_j51 v4_b18 r9 = some y18 → aw E mX8_worstWindow Q 51 [(0, .ref a), (1, .int i0), (4, .int v4_b18), (5, .int r9.2)] [] H_j51 0 0 := by
            intro H_j51 h0 hs hm
            unfold fX8_worstWindow_j51 at hm
            refine aw_b (pc' := 57) (lv' := [(3, .int r9.2), (2, .int v4_b18), (0, .ref a), (1, .int i0), (4, .int v4_b18), (5, .int r9.2)]) (st' := []) [(51, .iload 4, 2, .null), (53, .istore_n 2, 1, .null), (54, .iload 5, 2, .null), (56, .istore_n 3, 1, .null)] (by decide +kernel) rfl ?_
            refine aw_lv (lv' := [(0, .ref a), (1, .int i0), (2, .int v4_b18), (3, .int r9.2), (4, .int v4_b18)]) [2, 3, 1, 0, 4] rfl ?_
            exact J57 v4_b18 r9.2 H_j51 h0 hs hm
          refine aw_ic_eq (off := 12) 51 (by decide) (by decide +kernel) (fun hc => ?_) (fun hc => ?_)
          · have hm := (if_pos hc).symm.trans hm
            refine aw_lv (lv' := [(0, .ref a), (1, .int i0), (4, .int v4_b18), (5, .int r9.2)]) [1, 2, 5, 0] rfl ?_
            exact J51 H11 h0 hs hm
          · have hm := (if_neg hc).symm.trans hm
            refine aw_b (pc' := 45) (lv' := [(5, .int r9.2), (0, .ref a), (1, .int i0), (2, .int v2_b18), (3, .int v3_b18), (4, .int v4_b18)]) (st' := [.int v3_b18, .int r9.2]) [(42, .iload 5, 2, .null), (44, .iload_n 3, 1, .null)] (by decide +kernel) rfl ?_
            refine aw_ic_gt (off := 6) 51 (by decide) (by decide +kernel) (fun hc => ?_) (fun hc => ?_)
            · have hm := (if_pos hc).symm.trans hm
              refine aw_lv (lv' := [(0, .ref a), (1, .int i0), (4, .int v4_b18), (5, .int r9.2)]) [1, 2, 5, 0] rfl ?_
              exact J51 H11 h0 hs hm
            · have hm := (if_neg hc).symm.trans hm
              refine aw_b (pc' := 57) (lv' := [(5, .int r9.2), (0, .ref a), (1, .int i0), (2, .int v2_b18), (3, .int v3_b18), (4, .int v4_b18)]) (st' := []) [(48, .goto 9, 3, .null)] (by decide +kernel) rfl ?_
              refine aw_lv (lv' := [(0, .ref a), (1, .int i0), (2, .int v2_b18), (3, .int v3_b18), (4, .int v4_b18)]) [1, 2, 3, 4, 5] rfl ?_
              exact J57 v2_b18 v3_b18 H11 h0 hs hm
    refine aw_lv (lv' := [(0, .ref a), (1, .int i0), (2, .int (-1 : Int32)), (3, .int (0 : Int32)), (4, .int (0 : Int32))]) [3, 4, 2, 1, 0] rfl ?_
    exact L18 FU_ (-1 : Int32) (0 : Int32) (0 : Int32) r1.1 H3 h0 hs hx18
  · have hm := (if_neg hc).symm.trans hm
    refine aw_b (pc' := 10) (lv' := [(0, .ref a), (1, .int i0)]) (st' := [.int (0 : Int32)]) [(9, .iconst 0, 1, .int (0 : Int32))] (by decide +kernel) rfl ?_
    obtain rfl := Option.some.inj hm
    subst hQ
    exact aw_iret rfl (Nat.zero_le _) (Nat.zero_le _) (by decide +kernel) ⟨rfl, hs, h0⟩
