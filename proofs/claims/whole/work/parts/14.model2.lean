/-! mirrors of methods, and that the methods do as they say: printed by wip/whole/gen_parts.py out of the listing -/
def mX8_isFull : mt_ := (yX8_isFull, cX8_isFull, 1, some .boolean, [], { frames := 2, locals := 42, cells := 0, slots := 0 })
theorem ckX8_isFull : cokV_ mX8_isFull := ⟨⟨(uw_mem 1669 (by decide +kernel) (by decide +kernel)), (uw_mem 112 (by decide +kernel) (by decide +kernel)), by decide +kernel, by decide +kernel⟩, (uw_mem 1668 (by decide +kernel) (by decide +kernel)), (uw_mem 51 (by decide +kernel) (by decide +kernel))⟩
theorem nkX8_isFull : nok_ mX8_isFull 0 := by decide +kernel
def fX8_isFull (s : st_) : Option (Int32) :=
  bn_ (fX8_armOf s (6 : Int32) (2 : Int32)) fun r1 =>
  if r1 = (20 : Int32) then (some (1 : Int32))
  else (some (0 : Int32))
set_option maxRecDepth 8000 in
theorem kX8_isFull {E : ev_} {H : Heap} {a : Nat} {s : st_} {r : Int32} (hm : fX8_isFull s = some r) (h0 : has_ E H a ly_O s) : sp_ E mX8_isFull [.ref a] H (po1 (.inl (some (.int r))) (fun Hn => sm_ H Hn 0 0)) := by
  refine sp_of (by decide +kernel) rfl rfl ?_
  generalize hQ : po1 _ _ = Q
  have hs : sm_ H H 0 0 := sm_.rfl'
  unfold fX8_isFull at hm
  refine aw_lv (lv' := [(0, .ref a)]) [0] rfl ?_
  refine aw_b (pc' := 4) (lv' := [(0, .ref a)]) (st' := [.int (2 : Int32), .int (6 : Int32), .ref a]) [(0, .aload_n 0, 1, .null), (1, .bipush 6, 2, .int (6 : Int32)), (3, .iconst 2, 1, .int (2 : Int32))] (by decide +kernel) rfl ?_
  obtain ⟨r1, e2, hm⟩ := bn_x hm
  refine aw_cv (rest := []) (st1 := [.int r1]) a 0 (kX8_armOf e2 h0) rfl rfl ckX8_armOf lkX8_232 h0 eo_O_0 ⟨_, _, rfl⟩ nkX8_armOf rfl rfl rfl (Nat.le_of_ble_eq_true rfl) (Nat.zero_le _) (Nat.zero_le _) (by decide +kernel) (fun H3 z4 => ?_)
  have h0 := h0.kept0 z4
  have hs := hs.step0 z4
  refine aw_b (pc' := 9) (lv' := [(0, .ref a)]) (st' := [.int (20 : Int32), .int r1]) [(7, .bipush 20, 2, .int (20 : Int32))] (by decide +kernel) rfl ?_
  refine aw_ic_ne (off := 7) 16 (by decide) (by decide +kernel) (fun hc => ?_) (fun hc => ?_)
  · have hm := (if_neg hc).symm.trans hm
    refine aw_b (pc' := 17) (lv' := [(0, .ref a)]) (st' := [.int (0 : Int32)]) [(16, .iconst 0, 1, .int (0 : Int32))] (by decide +kernel) rfl ?_
    obtain rfl := Option.some.inj hm
    subst hQ
    exact aw_zret rfl (by decide +kernel) (Nat.zero_le _) (Nat.zero_le _) (by decide +kernel) ⟨rfl, hs⟩
  · have hm := (if_pos hc).symm.trans hm
    refine aw_b (pc' := 17) (lv' := [(0, .ref a)]) (st' := [.int (1 : Int32)]) [(12, .iconst 1, 1, .int (1 : Int32)), (13, .goto 4, 3, .null)] (by decide +kernel) rfl ?_
    obtain rfl := Option.some.inj hm
    subst hQ
    exact aw_zret rfl (by decide +kernel) (Nat.zero_le _) (Nat.zero_le _) (by decide +kernel) ⟨rfl, hs⟩
def mX8_isThere : mt_ := (yX8_isThere, cX8_isThere, 2, some .boolean, [], { frames := 0, locals := 0, cells := 0, slots := 0 })
theorem ckX8_isThere : cokV_ mX8_isThere := ⟨⟨(uw_mem 1677 (by decide +kernel) (by decide +kernel)), (uw_mem 112 (by decide +kernel) (by decide +kernel)), by decide +kernel, by decide +kernel⟩, (uw_mem 1676 (by decide +kernel) (by decide +kernel)), (uw_mem 53 (by decide +kernel) (by decide +kernel))⟩
theorem nkX8_isThere : nok_ mX8_isThere 1 := by decide +kernel
def fX8_isThere_j33 : Option (Int32) :=
  some (1 : Int32)
def fX8_isThere_j37 : Option (Int32) :=
  some (0 : Int32)
def fX8_isThere (s : st_) (i0 : Int32) : Option (Int32) :=
  gd_ (ib_ (4 : Int32) 12584) <|
  if i0 < (s 1 (ix_ (4 : Int32))) then (fX8_isThere_j33)
  else (if i0 = (6 : Int32) then (fX8_isThere_j33)
  else (if i0 = (7 : Int32) then (gd_ (ib_ (21 : Int32) 12584) <|
  if (s 1 (ix_ (21 : Int32))) = (-1 : Int32) then (fX8_isThere_j37)
  else (fX8_isThere_j33))
  else (fX8_isThere_j37)))
set_option maxRecDepth 8000 in
theorem kX8_isThere {E : ev_} {H : Heap} {a : Nat} {s : st_} {i0 : Int32} {r : Int32} (hm : fX8_isThere s i0 = some r) (h0 : has_ E H a ly_O s) : sp_ E mX8_isThere [.ref a, .int i0] H (po1 (.inl (some (.int r))) (fun Hn => sm_ H Hn 0 0)) := by
  refine sp_of (by decide +kernel) rfl rfl ?_
  generalize hQ : po1 _ _ = Q
  have hs : sm_ H H 0 0 := sm_.rfl'
  unfold fX8_isThere at hm
  refine aw_lv (lv' := [(0, .ref a), (1, .int i0)]) [0, 1] rfl ?_
  refine aw_b (pc' := 2) (lv' := [(0, .ref a), (1, .int i0)]) (st' := [.ref a, .int i0]) [(0, .iload_n 1, 1, .null), (1, .aload_n 0, 1, .null)] (by decide +kernel) rfl ?_
  refine aw_gl (v := .ref (a + 1)) a 0 h0 eo_O_0 fgX8_9 rfl (by decide +kernel) ?_
  refine aw_b (pc' := 6) (lv' := [(0, .ref a), (1, .int i0)]) (st' := [.int (4 : Int32), .ref (a + 1), .int i0]) [(5, .iconst 4, 1, .int (4 : Int32))] (by decide +kernel) rfl ?_
  obtain ⟨g1, hm⟩ := gd_x hm
  refine aw_ial a 1 h0 rfl g1 (by decide +kernel) ?_
  have J33 : ∀ (H_j33 : Heap), has_ E H_j33 a ly_O s → sm_ H H_j33 0 0 → fX8_isThere_j33 = some r → aw E mX8_isThere Q 33 [] [] H_j33 0 0 := by
    intro H_j33 h0 hs hm
    unfold fX8_isThere_j33 at hm
    refine aw_b (pc' := 38) (lv' := []) (st' := [.int (1 : Int32)]) [(33, .iconst 1, 1, .int (1 : Int32)), (34, .goto 4, 3, .null)] (by decide +kernel) rfl ?_
    obtain rfl := Option.some.inj hm
    subst hQ
    exact aw_zret rfl (by decide +kernel) (Nat.zero_le _) (Nat.zero_le _) (by decide +kernel) ⟨rfl, hs⟩
  refine aw_ic_lt (off := 26) 33 (by decide) (by decide +kernel) (fun hc => ?_) (fun hc => ?_)
  · have hm := (if_pos hc).symm.trans hm
    refine aw_lv (lv' := []) [] rfl ?_
    exact J33 H h0 hs hm
  · have hm := (if_neg hc).symm.trans hm
    refine aw_b (pc' := 13) (lv' := [(0, .ref a), (1, .int i0)]) (st' := [.int (6 : Int32), .int i0]) [(10, .iload_n 1, 1, .null), (11, .bipush 6, 2, .int (6 : Int32))] (by decide +kernel) rfl ?_
    refine aw_ic_eq (off := 20) 33 (by decide) (by decide +kernel) (fun hc => ?_) (fun hc => ?_)
    · have hm := (if_pos hc).symm.trans hm
      refine aw_lv (lv' := []) [] rfl ?_
      exact J33 H h0 hs hm
    · have hm := (if_neg hc).symm.trans hm
      refine aw_b (pc' := 19) (lv' := [(0, .ref a), (1, .int i0)]) (st' := [.int (7 : Int32), .int i0]) [(16, .iload_n 1, 1, .null), (17, .bipush 7, 2, .int (7 : Int32))] (by decide +kernel) rfl ?_
      have J37 : ∀ (H_j37 : Heap), has_ E H_j37 a ly_O s → sm_ H H_j37 0 0 → fX8_isThere_j37 = some r → aw E mX8_isThere Q 37 [] [] H_j37 0 0 := by
        intro H_j37 h0 hs hm
        unfold fX8_isThere_j37 at hm
        refine aw_b (pc' := 38) (lv' := []) (st' := [.int (0 : Int32)]) [(37, .iconst 0, 1, .int (0 : Int32))] (by decide +kernel) rfl ?_
        obtain rfl := Option.some.inj hm
        subst hQ
        exact aw_zret rfl (by decide +kernel) (Nat.zero_le _) (Nat.zero_le _) (by decide +kernel) ⟨rfl, hs⟩
      refine aw_ic_ne (off := 18) 37 (by decide) (by decide +kernel) (fun hc => ?_) (fun hc => ?_)
      · have hm := (if_neg hc).symm.trans hm
        refine aw_lv (lv' := []) [] rfl ?_
        exact J37 H h0 hs hm
      · have hm := (if_pos hc).symm.trans hm
        refine aw_b (pc' := 23) (lv' := [(0, .ref a), (1, .int i0)]) (st' := [.ref a]) [(22, .aload_n 0, 1, .null)] (by decide +kernel) rfl ?_
        refine aw_gl (v := .ref (a + 1)) a 0 h0 eo_O_0 fgX8_9 rfl (by decide +kernel) ?_
        refine aw_b (pc' := 28) (lv' := [(0, .ref a), (1, .int i0)]) (st' := [.int (21 : Int32), .ref (a + 1)]) [(26, .bipush 21, 2, .int (21 : Int32))] (by decide +kernel) rfl ?_
        obtain ⟨g2, hm⟩ := gd_x hm
        refine aw_ial a 1 h0 rfl g2 (by decide +kernel) ?_
        refine aw_b (pc' := 30) (lv' := [(0, .ref a), (1, .int i0)]) (st' := [.int (-1 : Int32), .int (s 1 (ix_ (21 : Int32)))]) [(29, .iconst (-1), 1, .int (-1 : Int32))] (by decide +kernel) rfl ?_
        refine aw_ic_eq (off := 7) 37 (by decide) (by decide +kernel) (fun hc => ?_) (fun hc => ?_)
        · have hm := (if_pos hc).symm.trans hm
          refine aw_lv (lv' := []) [] rfl ?_
          exact J37 H h0 hs hm
        · have hm := (if_neg hc).symm.trans hm
          refine aw_lv (lv' := []) [] rfl ?_
          exact J33 H h0 hs hm
def mX8_comes : mt_ := (yX8_comes, cX8_comes, 4, none, [], { frames := 2, locals := 42, cells := 0, slots := 0 })
theorem ckX8_comes : cokV_ mX8_comes := ⟨⟨(uw_mem 1673 (by decide +kernel) (by decide +kernel)), (uw_mem 112 (by decide +kernel) (by decide +kernel)), by decide +kernel, by decide +kernel⟩, (uw_mem 1672 (by decide +kernel) (by decide +kernel)), (uw_mem 52 (by decide +kernel) (by decide +kernel))⟩
theorem nkX8_comes : nok_ mX8_comes 1 := by decide +kernel
theorem lkX8_239 : Cond.methodLink RX8 239 yX8_isThere ∈ uw_ := (uw_mem 1674 (by decide +kernel) (by decide +kernel))
def fX8_comes_x2_79 (s_x2_79 : st_) : Option (st_) :=
  some s_x2_79
def fX8_comes_k2 (x : st_) : Option (st_) :=
  fX8_comes_x2_79 x
def fX8_comes_j73 (v2_b2 : Int32) (s_j73 : st_) : Option ((Int32 × st_) ⊕ (st_)) :=
  some (.inl ((v2_b2 + (1 : Int32)), s_j73))
def fX8_comes_b2 (i0 : Int32) (v2_b2 : Int32) (s_b2 : st_) : Option ((Int32 × st_) ⊕ (st_)) :=
  if (8 : Int32) ≤ v2_b2 then (some (.inr s_b2))
  else (bn_ (fX8_isThere s_b2 v2_b2) fun r1 =>
  if r1 = (0 : Int32) then (fX8_comes_j73 v2_b2 s_b2)
  else (bn_ (fX8_armAt v2_b2) fun r5 =>
  bn_ (fX8_armOf s_b2 v2_b2 (2 : Int32)) fun r9 =>
  gd_ (ib_ ((r5 + (7 : Int32)) + ((2 : Int32) * r9)) 12584) <|
  bd_ (pt_ s_b2 1 (ix_ ((r5 + (7 : Int32)) + ((2 : Int32) * r9))) i0) fun s14 =>
  gd_ (ib_ (16 : Int32) 12584) <|
  gd_ (ib_ (((r5 + (7 : Int32)) + ((2 : Int32) * r9)) + (1 : Int32)) 12584) <|
  bd_ (pt_ s14 1 (ix_ (((r5 + (7 : Int32)) + ((2 : Int32) * r9)) + (1 : Int32))) (s14 1 (ix_ (16 : Int32)))) fun s20 =>
  bn_ (fX8_armAt v2_b2) fun r24 =>
  gd_ (ib_ (r24 + (2 : Int32)) 12584) <|
  gd_ (ib_ (r24 + (2 : Int32)) 12584) <|
  bd_ (pt_ s20 1 (ix_ (r24 + (2 : Int32))) ((s20 1 (ix_ (r24 + (2 : Int32)))) + (1 : Int32))) fun s30 =>
  fX8_comes_j73 v2_b2 s30))
def fX8_comes_l2 (i0 : Int32) : Nat → (Int32 × st_) → Option (st_) :=
  it_ (fun v => fX8_comes_b2 i0 v.1 v.2)
def fX8_comes (s : st_) (i0 : Int32) : Option (st_) :=
  bn_ (fX8_comes_l2 i0 FU_ ((0 : Int32), s)) (fX8_comes_k2)
set_option maxRecDepth 8000 in
theorem kX8_comes {E : ev_} {H : Heap} {a : Nat} {s : st_} {i0 : Int32} {r : st_} (hm : fX8_comes s i0 = some r) (h0 : has_ E H a ly_O s) (hf : ev_fr E a) : sp_ E mX8_comes [.ref a, .int i0] H (po1 (.inl (none)) (fun Hn => sm_ H Hn a 10 ∧ has_ E Hn a ly_O r)) := by
  refine sp_of (by decide +kernel) rfl rfl ?_
  generalize hQ : po1 _ _ = Q
  have hs : sm_ H H a 10 := sm_.rfl'
  unfold fX8_comes at hm
  refine aw_lv (lv' := [(0, .ref a), (1, .int i0)]) [0, 1] rfl ?_
  refine aw_b (pc' := 2) (lv' := [(2, .int (0 : Int32)), (0, .ref a), (1, .int i0)]) (st' := []) [(0, .iconst 0, 1, .int (0 : Int32)), (1, .istore_n 2, 1, .null)] (by decide +kernel) rfl ?_
  obtain ⟨x2, hx2, hr2⟩ := bn_x hm
  have X2_79 : ∀ (s_x2_79 : st_) (H_x2_79 : Heap), has_ E H_x2_79 a ly_O s_x2_79 → sm_ H H_x2_79 a 10 → fX8_comes_x2_79 s_x2_79 = some r → aw E mX8_comes Q 79 [] [] H_x2_79 0 0 := by
    intro s_x2_79 H_x2_79 h0 hs hm
    unfold fX8_comes_x2_79 at hm
    obtain rfl := Option.some.inj hm
    subst hQ
    exact aw_vret rfl (Nat.zero_le _) (Nat.zero_le _) (by decide +kernel) ⟨rfl, hs, h0⟩
  have L2 : ∀ (fu : Nat) (v2_b2 : Int32) (s_b2 : st_) (H_b2 : Heap), has_ E H_b2 a ly_O s_b2 → sm_ H H_b2 a 10 → fX8_comes_l2 i0 fu (v2_b2, s_b2) = some x2 → aw E mX8_comes Q 2 [(0, .ref a), (1, .int i0), (2, .int v2_b2)] [] H_b2 0 0 := by
    intro fu
    induction fu with
    | zero =>
      intro v2_b2 s_b2 H_b2 h0 hs hm
      exact (it_0 hm).elim
    | succ fu ih2 =>
      intro v2_b2 s_b2 H_b2 h0 hs hm
      obtain ⟨y2, hm, hk2⟩ := it_s hm
      have hm : fX8_comes_b2 i0 v2_b2 s_b2 = some y2 := hm
      unfold fX8_comes_b2 at hm
      refine aw_b (pc' := 5) (lv' := [(0, .ref a), (1, .int i0), (2, .int v2_b2)]) (st' := [.int (8 : Int32), .int v2_b2]) [(2, .iload_n 2, 1, .null), (3, .bipush 8, 2, .int (8 : Int32))] (by decide +kernel) rfl ?_
      refine aw_ic_ge (off := 74) 79 (by decide) (by decide +kernel) (fun hc => ?_) (fun hc => ?_)
      · have hm := (if_pos hc).symm.trans hm
        cases hm
        refine aw_lv (lv' := []) [] rfl ?_
        exact X2_79 s_b2 H_b2 h0 hs ((congrArg fX8_comes_k2 (show (s_b2) = x2 from hk2)).trans hr2)
      · have hm := (if_neg hc).symm.trans hm
        refine aw_b (pc' := 10) (lv' := [(0, .ref a), (1, .int i0), (2, .int v2_b2)]) (st' := [.int v2_b2, .ref a]) [(8, .aload_n 0, 1, .null), (9, .iload_n 2, 1, .null)] (by decide +kernel) rfl ?_
        obtain ⟨r1, e2, hm⟩ := bn_x hm
        refine aw_cv (rest := []) (st1 := [.int r1]) a 0 (kX8_isThere e2 h0) rfl rfl ckX8_isThere lkX8_239 h0 eo_O_0 ⟨_, _, rfl⟩ nkX8_isThere rfl rfl rfl (Nat.le_of_ble_eq_true rfl) (Nat.zero_le _) (Nat.zero_le _) (by decide +kernel) (fun H3 z4 => ?_)
        have h0 := h0.kept0 z4
        have hs := hs.step0 z4
        have J73 : ∀ (s_j73 : st_) (H_j73 : Heap), has_ E H_j73 a ly_O s_j73 → sm_ H H_j73 a 10 → fX8_comes_j73 v2_b2 s_j73 = some y2 → aw E mX8_comes Q 73 [(0, .ref a), (1, .int i0), (2, .int v2_b2)] [] H_j73 0 0 := by
          intro s_j73 H_j73 h0 hs hm
          unfold fX8_comes_j73 at hm
          refine aw_b (pc' := 2) (lv' := [(2, .int (v2_b2 + (1 : Int32))), (0, .ref a), (1, .int i0)]) (st' := []) [(73, .iinc 2 1, 3, .int (1 : Int32)), (76, .goto (-74), 3, .null)] (by decide +kernel) rfl ?_
          cases hm
          refine aw_lv (lv' := [(0, .ref a), (1, .int i0), (2, .int (v2_b2 + (1 : Int32)))]) [1, 2, 0] rfl ?_
          exact ih2 (v2_b2 + (1 : Int32)) s_j73 H_j73 h0 hs hk2
        refine aw_if_ne (off := 6) 19 (by decide) (by decide +kernel) (fun hc => ?_) (fun hc => ?_)
        · have hm := (if_neg hc).symm.trans hm
          refine aw_b (pc' := 20) (lv' := [(0, .ref a), (1, .int i0), (2, .int v2_b2)]) (st' := [.int v2_b2]) [(19, .iload_n 2, 1, .null)] (by decide +kernel) rfl ?_
          obtain ⟨r5, e6, hm⟩ := bn_x hm
          refine aw_cs (rest := []) (st1 := [.int r5]) (kX8_armAt e6) rfl rfl ckX8_armAt lkX8_215 nkX8_armAt rfl rfl rfl (Nat.le_of_ble_eq_true rfl) (Nat.zero_le _) (Nat.zero_le _) (by decide +kernel) (fun H7 z8 => ?_)
          have h0 := h0.kept0 z8
          have hs := hs.step0 z8
          refine aw_b (pc' := 30) (lv' := [(0, .ref a), (1, .int i0), (2, .int v2_b2)]) (st' := [.int (2 : Int32), .int v2_b2, .ref a, .int (2 : Int32), .int (r5 + (7 : Int32))]) [(23, .bipush 7, 2, .int (7 : Int32)), (25, .iadd, 1, .null), (26, .iconst 2, 1, .int (2 : Int32)), (27, .aload_n 0, 1, .null), (28, .iload_n 2, 1, .null), (29, .iconst 2, 1, .int (2 : Int32))] (by decide +kernel) rfl ?_
          obtain ⟨r9, e10, hm⟩ := bn_x hm
          refine aw_cv (rest := [.int (2 : Int32), .int (r5 + (7 : Int32))]) (st1 := [.int r9, .int (2 : Int32), .int (r5 + (7 : Int32))]) a 0 (kX8_armOf e10 h0) rfl rfl ckX8_armOf lkX8_232 h0 eo_O_0 ⟨_, _, rfl⟩ nkX8_armOf rfl rfl rfl (Nat.le_of_ble_eq_true rfl) (Nat.zero_le _) (Nat.zero_le _) (by decide +kernel) (fun H11 z12 => ?_)
          have h0 := h0.kept0 z12
          have hs := hs.step0 z12
          refine aw_b (pc' := 37) (lv' := [(3, .int ((r5 + (7 : Int32)) + ((2 : Int32) * r9))), (0, .ref a), (1, .int i0), (2, .int v2_b2)]) (st' := [.ref a]) [(33, .imul, 1, .null), (34, .iadd, 1, .null), (35, .istore_n 3, 1, .null), (36, .aload_n 0, 1, .null)] (by decide +kernel) rfl ?_
          refine aw_gl (v := .ref (a + 1)) a 0 h0 eo_O_0 fgX8_9 rfl (by decide +kernel) ?_
          refine aw_b (pc' := 42) (lv' := [(3, .int ((r5 + (7 : Int32)) + ((2 : Int32) * r9))), (0, .ref a), (1, .int i0), (2, .int v2_b2)]) (st' := [.int i0, .int ((r5 + (7 : Int32)) + ((2 : Int32) * r9)), .ref (a + 1)]) [(40, .iload_n 3, 1, .null), (41, .iload_n 1, 1, .null)] (by decide +kernel) rfl ?_
          obtain ⟨g13, hm⟩ := gd_x hm
          obtain ⟨s14, e15, hm⟩ := bd_x hm
          refine aw_isl a 1 h0 rfl hf g13 e15 (by decide +kernel) (fun H16 h0 z17 => ?_)
          have hs := hs.step z17 (by omega) (by omega)
          refine aw_b (pc' := 44) (lv' := [(3, .int ((r5 + (7 : Int32)) + ((2 : Int32) * r9))), (0, .ref a), (1, .int i0), (2, .int v2_b2)]) (st' := [.ref a]) [(43, .aload_n 0, 1, .null)] (by decide +kernel) rfl ?_
          refine aw_gl (v := .ref (a + 1)) a 0 h0 eo_O_0 fgX8_9 rfl (by decide +kernel) ?_
          refine aw_b (pc' := 51) (lv' := [(3, .int ((r5 + (7 : Int32)) + ((2 : Int32) * r9))), (0, .ref a), (1, .int i0), (2, .int v2_b2)]) (st' := [.ref a, .int (((r5 + (7 : Int32)) + ((2 : Int32) * r9)) + (1 : Int32)), .ref (a + 1)]) [(47, .iload_n 3, 1, .null), (48, .iconst 1, 1, .int (1 : Int32)), (49, .iadd, 1, .null), (50, .aload_n 0, 1, .null)] (by decide +kernel) rfl ?_
          refine aw_gl (v := .ref (a + 1)) a 0 h0 eo_O_0 fgX8_9 rfl (by decide +kernel) ?_
          refine aw_b (pc' := 56) (lv' := [(3, .int ((r5 + (7 : Int32)) + ((2 : Int32) * r9))), (0, .ref a), (1, .int i0), (2, .int v2_b2)]) (st' := [.int (16 : Int32), .ref (a + 1), .int (((r5 + (7 : Int32)) + ((2 : Int32) * r9)) + (1 : Int32)), .ref (a + 1)]) [(54, .bipush 16, 2, .int (16 : Int32))] (by decide +kernel) rfl ?_
          obtain ⟨g18, hm⟩ := gd_x hm
          refine aw_ial a 1 h0 rfl g18 (by decide +kernel) ?_
          obtain ⟨g19, hm⟩ := gd_x hm
          obtain ⟨s20, e21, hm⟩ := bd_x hm
          refine aw_isl a 1 h0 rfl hf g19 e21 (by decide +kernel) (fun H22 h0 z23 => ?_)
          have hs := hs.step z23 (by omega) (by omega)
          refine aw_b (pc' := 59) (lv' := [(3, .int ((r5 + (7 : Int32)) + ((2 : Int32) * r9))), (0, .ref a), (1, .int i0), (2, .int v2_b2)]) (st' := [.ref a]) [(58, .aload_n 0, 1, .null)] (by decide +kernel) rfl ?_
          refine aw_gl (v := .ref (a + 1)) a 0 h0 eo_O_0 fgX8_9 rfl (by decide +kernel) ?_
          refine aw_b (pc' := 63) (lv' := [(3, .int ((r5 + (7 : Int32)) + ((2 : Int32) * r9))), (0, .ref a), (1, .int i0), (2, .int v2_b2)]) (st' := [.int v2_b2, .ref (a + 1)]) [(62, .iload_n 2, 1, .null)] (by decide +kernel) rfl ?_
          obtain ⟨r24, e25, hm⟩ := bn_x hm
          refine aw_cs (rest := [.ref (a + 1)]) (st1 := [.int r24, .ref (a + 1)]) (kX8_armAt e25) rfl rfl ckX8_armAt lkX8_215 nkX8_armAt rfl rfl rfl (Nat.le_of_ble_eq_true rfl) (Nat.zero_le _) (Nat.zero_le _) (by decide +kernel) (fun H26 z27 => ?_)
          have h0 := h0.kept0 z27
          have hs := hs.step0 z27
          refine aw_b (pc' := 69) (lv' := [(3, .int ((r5 + (7 : Int32)) + ((2 : Int32) * r9))), (0, .ref a), (1, .int i0), (2, .int v2_b2)]) (st' := [.int (r24 + (2 : Int32)), .ref (a + 1), .int (r24 + (2 : Int32)), .ref (a + 1)]) [(66, .iconst 2, 1, .int (2 : Int32)), (67, .iadd, 1, .null), (68, .dup2, 1, .null)] (by decide +kernel) rfl ?_
          obtain ⟨g28, hm⟩ := gd_x hm
          refine aw_ial a 1 h0 rfl g28 (by decide +kernel) ?_
          refine aw_b (pc' := 72) (lv' := [(3, .int ((r5 + (7 : Int32)) + ((2 : Int32) * r9))), (0, .ref a), (1, .int i0), (2, .int v2_b2)]) (st' := [.int ((s20 1 (ix_ (r24 + (2 : Int32)))) + (1 : Int32)), .int (r24 + (2 : Int32)), .ref (a + 1)]) [(70, .iconst 1, 1, .int (1 : Int32)), (71, .iadd, 1, .null)] (by decide +kernel) rfl ?_
          obtain ⟨g29, hm⟩ := gd_x hm
          obtain ⟨s30, e31, hm⟩ := bd_x hm
          refine aw_isl a 1 h0 rfl hf g29 e31 (by decide +kernel) (fun H32 h0 z33 => ?_)
          have hs := hs.step z33 (by omega) (by omega)
          refine aw_lv (lv' := [(0, .ref a), (1, .int i0), (2, .int v2_b2)]) [1, 2, 3] rfl ?_
          exact J73 s30 H32 h0 hs hm
        · have hm := (if_pos hc).symm.trans hm
          refine aw_b (pc' := 73) (lv' := [(0, .ref a), (1, .int i0), (2, .int v2_b2)]) (st' := []) [(16, .goto 57, 3, .null)] (by decide +kernel) rfl ?_
          exact J73 s_b2 H3 h0 hs hm
  refine aw_lv (lv' := [(0, .ref a), (1, .int i0), (2, .int (0 : Int32))]) [1, 2, 0] rfl ?_
  exact L2 FU_ (0 : Int32) s H h0 hs hx2
def mX8_request : mt_ := (yX8_request, cX8_request, 2, some .int, [], { frames := 3, locals := 65, cells := 0, slots := 0 })
theorem ckX8_request : cokV_ mX8_request := ⟨⟨(uw_mem 1661 (by decide +kernel) (by decide +kernel)), (uw_mem 112 (by decide +kernel) (by decide +kernel)), by decide +kernel, by decide +kernel⟩, (uw_mem 1659 (by decide +kernel) (by decide +kernel)), (uw_mem 1660 (by decide +kernel) (by decide +kernel))⟩
theorem nkX8_request : nok_ mX8_request 1 := by decide +kernel
theorem lkX8_242 : Cond.methodLink RX8 242 yX8_noCylinder ∈ uw_ := (uw_mem 1662 (by decide +kernel) (by decide +kernel))
theorem lkX8_245 : Cond.methodLink RX8 245 yX8_isFull ∈ uw_ := (uw_mem 1666 (by decide +kernel) (by decide +kernel))
theorem lkX8_248 : Cond.methodLink RX8 248 yX8_comes ∈ uw_ := (uw_mem 1670 (by decide +kernel) (by decide +kernel))
def fX8_request (s : st_) (i0 : Int32) : Option (st_ × Int32) :=
  bn_ (fX8_noCylinder s i0) fun r1 =>
  if r1.2 = (0 : Int32) then (bn_ (fX8_isFull r1.1) fun r5 =>
  if r5 = (0 : Int32) then (bn_ (fX8_comes r1.1 i0) fun r9 =>
  bn_ (fX8_armOf r9 (6 : Int32) (2 : Int32)) fun r13 =>
  some (r9, r13))
  else (some (r1.1, (-2 : Int32))))
  else (some (r1.1, (0 : Int32)))
set_option maxRecDepth 8000 in
theorem kX8_request {E : ev_} {H : Heap} {a : Nat} {s : st_} {i0 : Int32} {r : st_ × Int32} (hm : fX8_request s i0 = some r) (h0 : has_ E H a ly_O s) (hf : ev_fr E a) : sp_ E mX8_request [.ref a, .int i0] H (po1 (.inl (some (.int r.2))) (fun Hn => sm_ H Hn a 10 ∧ has_ E Hn a ly_O r.1)) := by
  refine sp_of (by decide +kernel) rfl rfl ?_
  generalize hQ : po1 _ _ = Q
  have hs : sm_ H H a 10 := sm_.rfl'
  unfold fX8_request at hm
  refine aw_lv (lv' := [(0, .ref a), (1, .int i0)]) [0, 1] rfl ?_
  refine aw_b (pc' := 2) (lv' := [(0, .ref a), (1, .int i0)]) (st' := [.int i0, .ref a]) [(0, .aload_n 0, 1, .null), (1, .iload_n 1, 1, .null)] (by decide +kernel) rfl ?_
  obtain ⟨r1, e2, hm⟩ := bn_x hm
  refine aw_cv (rest := []) (st1 := [.int r1.2]) a 0 (kX8_noCylinder e2 h0 hf) rfl rfl ckX8_noCylinder lkX8_242 h0 eo_O_0 ⟨_, _, rfl⟩ nkX8_noCylinder rfl rfl rfl (Nat.le_of_ble_eq_true rfl) (Nat.zero_le _) (Nat.zero_le _) (by decide +kernel) (fun H3 z4 => ?_)
  obtain ⟨z4, hn⟩ := z4
  have h0 := hn
  have hs := hs.step z4 (by omega) (by omega)
  refine aw_if_eq (off := 5) 10 (by decide) (by decide +kernel) (fun hc => ?_) (fun hc => ?_)
  · have hm := (if_pos hc).symm.trans hm
    refine aw_b (pc' := 11) (lv' := [(0, .ref a), (1, .int i0)]) (st' := [.ref a]) [(10, .aload_n 0, 1, .null)] (by decide +kernel) rfl ?_
    obtain ⟨r5, e6, hm⟩ := bn_x hm
    refine aw_cv (rest := []) (st1 := [.int r5]) a 0 (kX8_isFull e6 h0) rfl rfl ckX8_isFull lkX8_245 h0 eo_O_0 ⟨_, _, rfl⟩ nkX8_isFull rfl rfl rfl (Nat.le_of_ble_eq_true rfl) (Nat.zero_le _) (Nat.zero_le _) (by decide +kernel) (fun H7 z8 => ?_)
    have h0 := h0.kept0 z8
    have hs := hs.step0 z8
    refine aw_if_eq (off := 6) 20 (by decide) (by decide +kernel) (fun hc => ?_) (fun hc => ?_)
    · have hm := (if_pos hc).symm.trans hm
      refine aw_b (pc' := 22) (lv' := [(0, .ref a), (1, .int i0)]) (st' := [.int i0, .ref a]) [(20, .aload_n 0, 1, .null), (21, .iload_n 1, 1, .null)] (by decide +kernel) rfl ?_
      obtain ⟨r9, e10, hm⟩ := bn_x hm
      refine aw_cv (rest := []) (st1 := []) a 0 (kX8_comes e10 h0 hf) rfl rfl ckX8_comes lkX8_248 h0 eo_O_0 ⟨_, _, rfl⟩ nkX8_comes rfl rfl rfl (Nat.le_of_ble_eq_true rfl) (Nat.zero_le _) (Nat.zero_le _) (by decide +kernel) (fun H11 z12 => ?_)
      obtain ⟨z12, hn⟩ := z12
      have h0 := hn
      have hs := hs.step z12 (by omega) (by omega)
      refine aw_b (pc' := 29) (lv' := [(0, .ref a), (1, .int i0)]) (st' := [.int (2 : Int32), .int (6 : Int32), .ref a]) [(25, .aload_n 0, 1, .null), (26, .bipush 6, 2, .int (6 : Int32)), (28, .iconst 2, 1, .int (2 : Int32))] (by decide +kernel) rfl ?_
      obtain ⟨r13, e14, hm⟩ := bn_x hm
      refine aw_cv (rest := []) (st1 := [.int r13]) a 0 (kX8_armOf e14 h0) rfl rfl ckX8_armOf lkX8_232 h0 eo_O_0 ⟨_, _, rfl⟩ nkX8_armOf rfl rfl rfl (Nat.le_of_ble_eq_true rfl) (Nat.zero_le _) (Nat.zero_le _) (by decide +kernel) (fun H15 z16 => ?_)
      have h0 := h0.kept0 z16
      have hs := hs.step0 z16
      obtain rfl := Option.some.inj hm
      subst hQ
      exact aw_iret rfl (Nat.zero_le _) (Nat.zero_le _) (by decide +kernel) ⟨rfl, hs, h0⟩
    · have hm := (if_neg hc).symm.trans hm
      refine aw_b (pc' := 19) (lv' := [(0, .ref a), (1, .int i0)]) (st' := [.int (-2 : Int32)]) [(17, .bipush (-2), 2, .int (-2 : Int32))] (by decide +kernel) rfl ?_
      obtain rfl := Option.some.inj hm
      subst hQ
      exact aw_iret rfl (Nat.zero_le _) (Nat.zero_le _) (by decide +kernel) ⟨rfl, hs, h0⟩
  · have hm := (if_neg hc).symm.trans hm
    refine aw_b (pc' := 9) (lv' := [(0, .ref a), (1, .int i0)]) (st' := [.int (0 : Int32)]) [(8, .iconst 0, 1, .int (0 : Int32))] (by decide +kernel) rfl ?_
    obtain rfl := Option.some.inj hm
    subst hQ
    exact aw_iret rfl (Nat.zero_le _) (Nat.zero_le _) (by decide +kernel) ⟨rfl, hs, h0⟩
def mX8_setFoe : mt_ := (yX8_setFoe, cX8_setFoe, 2, some .int, [], { frames := 2, locals := 43, cells := 0, slots := 0 })
theorem ckX8_setFoe : cokV_ mX8_setFoe := ⟨⟨(uw_mem 1681 (by decide +kernel) (by decide +kernel)), (uw_mem 112 (by decide +kernel) (by decide +kernel)), by decide +kernel, by decide +kernel⟩, (uw_mem 1679 (by decide +kernel) (by decide +kernel)), (uw_mem 1680 (by decide +kernel) (by decide +kernel))⟩
theorem nkX8_setFoe : nok_ mX8_setFoe 1 := by decide +kernel
theorem lkX8_252 : Cond.methodLink RX8 252 yX8_sets ∈ uw_ := (uw_mem 1682 (by decide +kernel) (by decide +kernel))
def fX8_setFoe_j18 (s : st_) (i0 : Int32) (z1_j18 : Int32) : Option (st_ × Int32) :=
  bn_ (fX8_wrong s z1_j18) fun r5 =>
  if r5.2 = (0 : Int32) then (bn_ (fX8_sets r5.1 (9 : Int32) i0) fun r9 =>
  some (r9.1, r9.2))
  else (some (r5.1, (0 : Int32)))
def fX8_setFoe (s : st_) (i0 : Int32) : Option (st_ × Int32) :=
  bn_ (fX8_in (Int32.toInt64 i0) (0 : Int64) (5 : Int64)) fun r1 =>
  if r1 = (0 : Int32) then (fX8_setFoe_j18 s i0 (1 : Int32))
  else (fX8_setFoe_j18 s i0 (0 : Int32))
set_option maxRecDepth 8000 in
theorem kX8_setFoe {E : ev_} {H : Heap} {a : Nat} {s : st_} {i0 : Int32} {r : st_ × Int32} (hm : fX8_setFoe s i0 = some r) (h0 : has_ E H a ly_O s) (hf : ev_fr E a) : sp_ E mX8_setFoe [.ref a, .int i0] H (po1 (.inl (some (.int r.2))) (fun Hn => sm_ H Hn a 10 ∧ has_ E Hn a ly_O r.1)) := by
  refine sp_of (by decide +kernel) rfl rfl ?_
  generalize hQ : po1 _ _ = Q
  have hs : sm_ H H a 10 := sm_.rfl'
  unfold fX8_setFoe at hm
  refine aw_lv (lv' := [(0, .ref a), (1, .int i0)]) [0, 1] rfl ?_
  refine aw_b (pc' := 4) (lv' := [(0, .ref a), (1, .int i0)]) (st' := [.long (0 : Int64), .long (Int32.toInt64 i0), .ref a]) [(0, .aload_n 0, 1, .null), (1, .iload_n 1, 1, .null), (2, .i2l, 1, .null), (3, .lconst 0, 1, .long (0 : Int64))] (by decide +kernel) rfl ?_
  refine aw_ldc2 (v := (5 : Int64)) kwX8_230 (by decide +kernel) ?_
  obtain ⟨r1, e2, hm⟩ := bn_x hm
  refine aw_cs (rest := [.ref a]) (st1 := [.int r1, .ref a]) (kX8_in e2) rfl rfl ckX8_in lkX8_70 nkX8_in rfl rfl rfl (Nat.le_of_ble_eq_true rfl) (Nat.zero_le _) (Nat.zero_le _) (by decide +kernel) (fun H3 z4 => ?_)
  have h0 := h0.kept0 z4
  have hs := hs.step0 z4
  have J18 : ∀ (z1_j18 : Int32) (H_j18 : Heap), has_ E H_j18 a ly_O s → sm_ H H_j18 a 10 → fX8_setFoe_j18 s i0 z1_j18 = some r → aw E mX8_setFoe Q 18 [(0, .ref a), (1, .int i0)] [.int z1_j18, .ref a] H_j18 0 0 := by
    intro z1_j18 H_j18 h0 hs hm
    unfold fX8_setFoe_j18 at hm
    obtain ⟨r5, e6, hm⟩ := bn_x hm
    refine aw_cv (rest := []) (st1 := [.int r5.2]) a 0 (kX8_wrong e6 h0 hf) rfl rfl ckX8_wrong lkX8_221 h0 eo_O_0 ⟨_, _, rfl⟩ nkX8_wrong rfl rfl rfl (Nat.le_of_ble_eq_true rfl) (Nat.zero_le _) (Nat.zero_le _) (by decide +kernel) (fun H7 z8 => ?_)
    obtain ⟨z8, hn⟩ := z8
    have h0 := hn
    have hs := hs.step z8 (by omega) (by omega)
    refine aw_if_eq (off := 7) 28 (by decide) (by decide +kernel) (fun hc => ?_) (fun hc => ?_)
    · have hm := (if_pos hc).symm.trans hm
      refine aw_b (pc' := 32) (lv' := [(0, .ref a), (1, .int i0)]) (st' := [.int i0, .int (9 : Int32), .ref a]) [(28, .aload_n 0, 1, .null), (29, .bipush 9, 2, .int (9 : Int32)), (31, .iload_n 1, 1, .null)] (by decide +kernel) rfl ?_
      obtain ⟨r9, e10, hm⟩ := bn_x hm
      refine aw_cv (rest := []) (st1 := [.int r9.2]) a 0 (kX8_sets e10 h0 hf) rfl rfl ckX8_sets lkX8_252 h0 eo_O_0 ⟨_, _, rfl⟩ nkX8_sets rfl rfl rfl (Nat.le_of_ble_eq_true rfl) (Nat.zero_le _) (Nat.zero_le _) (by decide +kernel) (fun H11 z12 => ?_)
      obtain ⟨z12, hn⟩ := z12
      have h0 := hn
      have hs := hs.step z12 (by omega) (by omega)
      obtain rfl := Option.some.inj hm
      subst hQ
      exact aw_iret rfl (Nat.zero_le _) (Nat.zero_le _) (by decide +kernel) ⟨rfl, hs, h0⟩
    · have hm := (if_neg hc).symm.trans hm
      refine aw_b (pc' := 35) (lv' := [(0, .ref a), (1, .int i0)]) (st' := [.int (0 : Int32)]) [(24, .iconst 0, 1, .int (0 : Int32)), (25, .goto 10, 3, .null)] (by decide +kernel) rfl ?_
      obtain rfl := Option.some.inj hm
      subst hQ
      exact aw_iret rfl (Nat.zero_le _) (Nat.zero_le _) (by decide +kernel) ⟨rfl, hs, h0⟩
  refine aw_if_ne (off := 7) 17 (by decide) (by decide +kernel) (fun hc => ?_) (fun hc => ?_)
  · have hm := (if_neg hc).symm.trans hm
    refine aw_b (pc' := 18) (lv' := [(0, .ref a), (1, .int i0)]) (st' := [.int (0 : Int32), .ref a]) [(17, .iconst 0, 1, .int (0 : Int32))] (by decide +kernel) rfl ?_
    exact J18 (0 : Int32) H3 h0 hs hm
  · have hm := (if_pos hc).symm.trans hm
    refine aw_b (pc' := 18) (lv' := [(0, .ref a), (1, .int i0)]) (st' := [.int (1 : Int32), .ref a]) [(13, .iconst 1, 1, .int (1 : Int32)), (14, .goto 4, 3, .null)] (by decide +kernel) rfl ?_
    exact J18 (1 : Int32) H3 h0 hs hm
def mX8_setMaster : mt_ := (yX8_setMaster, cX8_setMaster, 3, some .int, [], { frames := 2, locals := 46, cells := 0, slots := 0 })
theorem ckX8_setMaster : cokV_ mX8_setMaster := ⟨⟨(uw_mem 1689 (by decide +kernel) (by decide +kernel)), (uw_mem 112 (by decide +kernel) (by decide +kernel)), by decide +kernel, by decide +kernel⟩, (uw_mem 1687 (by decide +kernel) (by decide +kernel)), (uw_mem 1688 (by decide +kernel) (by decide +kernel))⟩
theorem nkX8_setMaster : nok_ mX8_setMaster 2 := by decide +kernel
theorem kwX8_255 : Cond.constantLong RX8 255 (2 : Int64) ∈ uw_ := (uw_mem 1690 (by decide +kernel) (by decide +kernel))
def fX8_setMaster_j68 (i0 : Int32) (r9 : st_ × Int32) (z2_j68 : Int32) : Option (st_ × Int32) :=
  gd_ (ib_ (6 : Int32) 12584) <|
  bd_ (pt_ r9.1 1 (ix_ (6 : Int32)) z2_j68) fun s14 =>
  bn_ (fX8_sets s14 (5 : Int32) i0) fun r18 =>
  some (r18.1, r18.2)
def fX8_setMaster_j43 (i0 : Int32) (i1 : Int32) (r5 : st_ × Int32) (z1_j43 : Int32) : Option (st_ × Int32) :=
  bn_ (fX8_throwsIf r5.1 z1_j43 (2 : Int32)) fun r9 =>
  if r9.2 = (0 : Int32) then (if i0 = (2 : Int32) then (fX8_setMaster_j68 i0 r9 i1)
  else (fX8_setMaster_j68 i0 r9 (0 : Int32)))
  else (some (r9.1, (0 : Int32)))
def fX8_setMaster_j42 (i0 : Int32) (i1 : Int32) (r5 : st_ × Int32) : Option (st_ × Int32) :=
  fX8_setMaster_j43 i0 i1 r5 (0 : Int32)
def fX8_setMaster_j18 (s : st_) (i0 : Int32) (i1 : Int32) (z1_j18 : Int32) : Option (st_ × Int32) :=
  bn_ (fX8_wrong s z1_j18) fun r5 =>
  if r5.2 = (0 : Int32) then (if i0 = (2 : Int32) then (bn_ (fX8_isRule r5.1 i1) fun r22 =>
  if r22 = (0 : Int32) then (fX8_setMaster_j43 i0 i1 r5 (1 : Int32))
  else (fX8_setMaster_j42 i0 i1 r5))
  else (fX8_setMaster_j42 i0 i1 r5))
  else (some (r5.1, (0 : Int32)))
def fX8_setMaster (s : st_) (i0 : Int32) (i1 : Int32) : Option (st_ × Int32) :=
  bn_ (fX8_in (Int32.toInt64 i0) (0 : Int64) (2 : Int64)) fun r1 =>
  if r1 = (0 : Int32) then (fX8_setMaster_j18 s i0 i1 (1 : Int32))
  else (fX8_setMaster_j18 s i0 i1 (0 : Int32))
set_option maxRecDepth 8000 in
theorem kX8_setMaster {E : ev_} {H : Heap} {a : Nat} {s : st_} {i0 : Int32} {i1 : Int32} {r : st_ × Int32} (hm : fX8_setMaster s i0 i1 = some r) (h0 : has_ E H a ly_O s) (hf : ev_fr E a) : sp_ E mX8_setMaster [.ref a, .int i0, .int i1] H (po1 (.inl (some (.int r.2))) (fun Hn => sm_ H Hn a 10 ∧ has_ E Hn a ly_O r.1)) := by
  refine sp_of (by decide +kernel) rfl rfl ?_
  generalize hQ : po1 _ _ = Q
  have hs : sm_ H H a 10 := sm_.rfl'
  unfold fX8_setMaster at hm
  refine aw_lv (lv' := [(0, .ref a), (1, .int i0), (2, .int i1)]) [0, 1, 2] rfl ?_
  refine aw_b (pc' := 4) (lv' := [(0, .ref a), (1, .int i0), (2, .int i1)]) (st' := [.long (0 : Int64), .long (Int32.toInt64 i0), .ref a]) [(0, .aload_n 0, 1, .null), (1, .iload_n 1, 1, .null), (2, .i2l, 1, .null), (3, .lconst 0, 1, .long (0 : Int64))] (by decide +kernel) rfl ?_
  refine aw_ldc2 (v := (2 : Int64)) kwX8_255 (by decide +kernel) ?_
  obtain ⟨r1, e2, hm⟩ := bn_x hm
  refine aw_cs (rest := [.ref a]) (st1 := [.int r1, .ref a]) (kX8_in e2) rfl rfl ckX8_in lkX8_70 nkX8_in rfl rfl rfl (Nat.le_of_ble_eq_true rfl) (Nat.zero_le _) (Nat.zero_le _) (by decide +kernel) (fun H3 z4 => ?_)
  have h0 := h0.kept0 z4
  have hs := hs.step0 z4
  have J18 : ∀ (z1_j18 : Int32) (H_j18 : Heap), has_ E H_j18 a ly_O s → sm_ H H_j18 a 10 → fX8_setMaster_j18 s i0 i1 z1_j18 = some r → aw E mX8_setMaster Q 18 [(0, .ref a), (1, .int i0), (2, .int i1)] [.int z1_j18, .ref a] H_j18 0 0 := by
    intro z1_j18 H_j18 h0 hs hm
    unfold fX8_setMaster_j18 at hm
    obtain ⟨r5, e6, hm⟩ := bn_x hm
    refine aw_cv (rest := []) (st1 := [.int r5.2]) a 0 (kX8_wrong e6 h0 hf) rfl rfl ckX8_wrong lkX8_221 h0 eo_O_0 ⟨_, _, rfl⟩ nkX8_wrong rfl rfl rfl (Nat.le_of_ble_eq_true rfl) (Nat.zero_le _) (Nat.zero_le _) (by decide +kernel) (fun H7 z8 => ?_)
    obtain ⟨z8, hn⟩ := z8
    have h0 := hn
    have hs := hs.step z8 (by omega) (by omega)
    refine aw_if_ne (off := 29) 50 (by decide) (by decide +kernel) (fun hc => ?_) (fun hc => ?_)
    · have hm := (if_neg hc).symm.trans hm
      refine aw_b (pc' := 51) (lv' := [(0, .ref a), (1, .int i0), (2, .int i1)]) (st' := [.int (0 : Int32)]) [(50, .iconst 0, 1, .int (0 : Int32))] (by decide +kernel) rfl ?_
      obtain rfl := Option.some.inj hm
      subst hQ
      exact aw_iret rfl (Nat.zero_le _) (Nat.zero_le _) (by decide +kernel) ⟨rfl, hs, h0⟩
    · have hm := (if_pos hc).symm.trans hm
      refine aw_b (pc' := 27) (lv' := [(0, .ref a), (1, .int i0), (2, .int i1)]) (st' := [.int (2 : Int32), .int i0, .ref a]) [(24, .aload_n 0, 1, .null), (25, .iload_n 1, 1, .null), (26, .iconst 2, 1, .int (2 : Int32))] (by decide +kernel) rfl ?_
      have J43 : ∀ (z1_j43 : Int32) (H_j43 : Heap), has_ E H_j43 a ly_O r5.1 → sm_ H H_j43 a 10 → fX8_setMaster_j43 i0 i1 r5 z1_j43 = some r → aw E mX8_setMaster Q 43 [(0, .ref a), (1, .int i0), (2, .int i1)] [.int z1_j43, .ref a] H_j43 0 0 := by
        intro z1_j43 H_j43 h0 hs hm
        unfold fX8_setMaster_j43 at hm
        refine aw_b (pc' := 44) (lv' := [(0, .ref a), (1, .int i0), (2, .int i1)]) (st' := [.int (2 : Int32), .int z1_j43, .ref a]) [(43, .iconst 2, 1, .int (2 : Int32))] (by decide +kernel) rfl ?_
        obtain ⟨r9, e10, hm⟩ := bn_x hm
        refine aw_cv (rest := []) (st1 := [.int r9.2]) a 0 (kX8_throwsIf e10 h0 hf) rfl rfl ckX8_throwsIf lkX8_49 h0 eo_O_0 ⟨_, _, rfl⟩ nkX8_throwsIf rfl rfl rfl (Nat.le_of_ble_eq_true rfl) (Nat.zero_le _) (Nat.zero_le _) (by decide +kernel) (fun H11 z12 => ?_)
        obtain ⟨z12, hn⟩ := z12
        have h0 := hn
        have hs := hs.step z12 (by omega) (by omega)
        refine aw_if_eq (off := 5) 52 (by decide) (by decide +kernel) (fun hc => ?_) (fun hc => ?_)
        · have hm := (if_pos hc).symm.trans hm
          refine aw_b (pc' := 53) (lv' := [(0, .ref a), (1, .int i0), (2, .int i1)]) (st' := [.ref a]) [(52, .aload_n 0, 1, .null)] (by decide +kernel) rfl ?_
          refine aw_gl (v := .ref (a + 1)) a 0 h0 eo_O_0 fgX8_9 rfl (by decide +kernel) ?_
          refine aw_b (pc' := 60) (lv' := [(0, .ref a), (1, .int i0), (2, .int i1)]) (st' := [.int (2 : Int32), .int i0, .int (6 : Int32), .ref (a + 1)]) [(56, .bipush 6, 2, .int (6 : Int32)), (58, .iload_n 1, 1, .null), (59, .iconst 2, 1, .int (2 : Int32))] (by decide +kernel) rfl ?_
          have J68 : ∀ (z2_j68 : Int32) (H_j68 : Heap), has_ E H_j68 a ly_O r9.1 → sm_ H H_j68 a 10 → fX8_setMaster_j68 i0 r9 z2_j68 = some r → aw E mX8_setMaster Q 68 [(0, .ref a), (1, .int i0)] [.int z2_j68, .int (6 : Int32), .ref (a + 1)] H_j68 0 0 := by
            intro z2_j68 H_j68 h0 hs hm
            unfold fX8_setMaster_j68 at hm
            obtain ⟨g13, hm⟩ := gd_x hm
            obtain ⟨s14, e15, hm⟩ := bd_x hm
            refine aw_isl a 1 h0 rfl hf g13 e15 (by decide +kernel) (fun H16 h0 z17 => ?_)
            have hs := hs.step z17 (by omega) (by omega)
            refine aw_b (pc' := 72) (lv' := [(0, .ref a), (1, .int i0)]) (st' := [.int i0, .int (5 : Int32), .ref a]) [(69, .aload_n 0, 1, .null), (70, .iconst 5, 1, .int (5 : Int32)), (71, .iload_n 1, 1, .null)] (by decide +kernel) rfl ?_
            obtain ⟨r18, e19, hm⟩ := bn_x hm
            refine aw_cv (rest := []) (st1 := [.int r18.2]) a 0 (kX8_sets e19 h0 hf) rfl rfl ckX8_sets lkX8_252 h0 eo_O_0 ⟨_, _, rfl⟩ nkX8_sets rfl rfl rfl (Nat.le_of_ble_eq_true rfl) (Nat.zero_le _) (Nat.zero_le _) (by decide +kernel) (fun H20 z21 => ?_)
            obtain ⟨z21, hn⟩ := z21
            have h0 := hn
            have hs := hs.step z21 (by omega) (by omega)
            obtain rfl := Option.some.inj hm
            subst hQ
            exact aw_iret rfl (Nat.zero_le _) (Nat.zero_le _) (by decide +kernel) ⟨rfl, hs, h0⟩
          refine aw_ic_ne (off := 7) 67 (by decide) (by decide +kernel) (fun hc => ?_) (fun hc => ?_)
          · have hm := (if_neg hc).symm.trans hm
            refine aw_b (pc' := 68) (lv' := [(0, .ref a), (1, .int i0), (2, .int i1)]) (st' := [.int (0 : Int32), .int (6 : Int32), .ref (a + 1)]) [(67, .iconst 0, 1, .int (0 : Int32))] (by decide +kernel) rfl ?_
            refine aw_lv (lv' := [(0, .ref a), (1, .int i0)]) [0, 1] rfl ?_
            exact J68 (0 : Int32) H11 h0 hs hm
          · have hm := (if_pos hc).symm.trans hm
            refine aw_b (pc' := 68) (lv' := [(0, .ref a), (1, .int i0), (2, .int i1)]) (st' := [.int i1, .int (6 : Int32), .ref (a + 1)]) [(63, .iload_n 2, 1, .null), (64, .goto 4, 3, .null)] (by decide +kernel) rfl ?_
            refine aw_lv (lv' := [(0, .ref a), (1, .int i0)]) [0, 1] rfl ?_
            exact J68 i1 H11 h0 hs hm
        · have hm := (if_neg hc).symm.trans hm
          refine aw_b (pc' := 51) (lv' := [(0, .ref a), (1, .int i0), (2, .int i1)]) (st' := [.int (0 : Int32)]) [(50, .iconst 0, 1, .int (0 : Int32))] (by decide +kernel) rfl ?_
          obtain rfl := Option.some.inj hm
          subst hQ
          exact aw_iret rfl (Nat.zero_le _) (Nat.zero_le _) (by decide +kernel) ⟨rfl, hs, h0⟩
      have J42 : ∀ (H_j42 : Heap), has_ E H_j42 a ly_O r5.1 → sm_ H H_j42 a 10 → fX8_setMaster_j42 i0 i1 r5 = some r → aw E mX8_setMaster Q 42 [(0, .ref a), (1, .int i0), (2, .int i1)] [.ref a] H_j42 0 0 := by
        intro H_j42 h0 hs hm
        unfold fX8_setMaster_j42 at hm
        refine aw_b (pc' := 43) (lv' := [(0, .ref a), (1, .int i0), (2, .int i1)]) (st' := [.int (0 : Int32), .ref a]) [(42, .iconst 0, 1, .int (0 : Int32))] (by decide +kernel) rfl ?_
        exact J43 (0 : Int32) H_j42 h0 hs hm
      refine aw_ic_ne (off := 15) 42 (by decide) (by decide +kernel) (fun hc => ?_) (fun hc => ?_)
      · have hm := (if_neg hc).symm.trans hm
        exact J42 H7 h0 hs hm
      · have hm := (if_pos hc).symm.trans hm
        refine aw_b (pc' := 32) (lv' := [(0, .ref a), (1, .int i0), (2, .int i1)]) (st' := [.int i1, .ref a, .ref a]) [(30, .aload_n 0, 1, .null), (31, .iload_n 2, 1, .null)] (by decide +kernel) rfl ?_
        obtain ⟨r22, e23, hm⟩ := bn_x hm
        refine aw_cv (rest := [.ref a]) (st1 := [.int r22, .ref a]) a 0 (kX8_isRule e23 h0) rfl rfl ckX8_isRule lkX8_218 h0 eo_O_0 ⟨_, _, rfl⟩ nkX8_isRule rfl rfl rfl (Nat.le_of_ble_eq_true rfl) (Nat.zero_le _) (Nat.zero_le _) (by decide +kernel) (fun H24 z25 => ?_)
        have h0 := h0.kept0 z25
        have hs := hs.step0 z25
        refine aw_if_ne (off := 7) 42 (by decide) (by decide +kernel) (fun hc => ?_) (fun hc => ?_)
        · have hm := (if_neg hc).symm.trans hm
          exact J42 H24 h0 hs hm
        · have hm := (if_pos hc).symm.trans hm
          refine aw_b (pc' := 43) (lv' := [(0, .ref a), (1, .int i0), (2, .int i1)]) (st' := [.int (1 : Int32), .ref a]) [(38, .iconst 1, 1, .int (1 : Int32)), (39, .goto 4, 3, .null)] (by decide +kernel) rfl ?_
          exact J43 (1 : Int32) H24 h0 hs hm
  refine aw_if_ne (off := 7) 17 (by decide) (by decide +kernel) (fun hc => ?_) (fun hc => ?_)
  · have hm := (if_neg hc).symm.trans hm
    refine aw_b (pc' := 18) (lv' := [(0, .ref a), (1, .int i0), (2, .int i1)]) (st' := [.int (0 : Int32), .ref a]) [(17, .iconst 0, 1, .int (0 : Int32))] (by decide +kernel) rfl ?_
    exact J18 (0 : Int32) H3 h0 hs hm
  · have hm := (if_pos hc).symm.trans hm
    refine aw_b (pc' := 18) (lv' := [(0, .ref a), (1, .int i0), (2, .int i1)]) (st' := [.int (1 : Int32), .ref a]) [(13, .iconst 1, 1, .int (1 : Int32)), (14, .goto 4, 3, .null)] (by decide +kernel) rfl ?_
    exact J18 (1 : Int32) H3 h0 hs hm
def mX8_setEta : mt_ := (yX8_setEta, cX8_setEta, 2, some .int, [], { frames := 2, locals := 43, cells := 0, slots := 0 })
theorem ckX8_setEta : cokV_ mX8_setEta := ⟨⟨(uw_mem 1694 (by decide +kernel) (by decide +kernel)), (uw_mem 112 (by decide +kernel) (by decide +kernel)), by decide +kernel, by decide +kernel⟩, (uw_mem 1692 (by decide +kernel) (by decide +kernel)), (uw_mem 1693 (by decide +kernel) (by decide +kernel))⟩
theorem nkX8_setEta : nok_ mX8_setEta 1 := by decide +kernel
theorem kwX8_257 : Cond.constantLong RX8 257 (500 : Int64) ∈ uw_ := (uw_mem 1695 (by decide +kernel) (by decide +kernel))
def fX8_setEta_j18 (s : st_) (i0 : Int32) (z1_j18 : Int32) : Option (st_ × Int32) :=
  bn_ (fX8_wrong s z1_j18) fun r5 =>
  if r5.2 = (0 : Int32) then (bn_ (fX8_sets r5.1 (7 : Int32) i0) fun r9 =>
  some (r9.1, r9.2))
  else (some (r5.1, (0 : Int32)))
def fX8_setEta (s : st_) (i0 : Int32) : Option (st_ × Int32) :=
  bn_ (fX8_in (Int32.toInt64 i0) (1 : Int64) (500 : Int64)) fun r1 =>
  if r1 = (0 : Int32) then (fX8_setEta_j18 s i0 (1 : Int32))
  else (fX8_setEta_j18 s i0 (0 : Int32))
set_option maxRecDepth 8000 in
theorem kX8_setEta {E : ev_} {H : Heap} {a : Nat} {s : st_} {i0 : Int32} {r : st_ × Int32} (hm : fX8_setEta s i0 = some r) (h0 : has_ E H a ly_O s) (hf : ev_fr E a) : sp_ E mX8_setEta [.ref a, .int i0] H (po1 (.inl (some (.int r.2))) (fun Hn => sm_ H Hn a 10 ∧ has_ E Hn a ly_O r.1)) := by
  refine sp_of (by decide +kernel) rfl rfl ?_
  generalize hQ : po1 _ _ = Q
  have hs : sm_ H H a 10 := sm_.rfl'
  unfold fX8_setEta at hm
  refine aw_lv (lv' := [(0, .ref a), (1, .int i0)]) [0, 1] rfl ?_
  refine aw_b (pc' := 4) (lv' := [(0, .ref a), (1, .int i0)]) (st' := [.long (1 : Int64), .long (Int32.toInt64 i0), .ref a]) [(0, .aload_n 0, 1, .null), (1, .iload_n 1, 1, .null), (2, .i2l, 1, .null), (3, .lconst 1, 1, .long (1 : Int64))] (by decide +kernel) rfl ?_
  refine aw_ldc2 (v := (500 : Int64)) kwX8_257 (by decide +kernel) ?_
  obtain ⟨r1, e2, hm⟩ := bn_x hm
  refine aw_cs (rest := [.ref a]) (st1 := [.int r1, .ref a]) (kX8_in e2) rfl rfl ckX8_in lkX8_70 nkX8_in rfl rfl rfl (Nat.le_of_ble_eq_true rfl) (Nat.zero_le _) (Nat.zero_le _) (by decide +kernel) (fun H3 z4 => ?_)
  have h0 := h0.kept0 z4
  have hs := hs.step0 z4
  have J18 : ∀ (z1_j18 : Int32) (H_j18 : Heap), has_ E H_j18 a ly_O s → sm_ H H_j18 a 10 → fX8_setEta_j18 s i0 z1_j18 = some r → aw E mX8_setEta Q 18 [(0, .ref a), (1, .int i0)] [.int z1_j18, .ref a] H_j18 0 0 := by
    intro z1_j18 H_j18 h0 hs hm
    unfold fX8_setEta_j18 at hm
    obtain ⟨r5, e6, hm⟩ := bn_x hm
    refine aw_cv (rest := []) (st1 := [.int r5.2]) a 0 (kX8_wrong e6 h0 hf) rfl rfl ckX8_wrong lkX8_221 h0 eo_O_0 ⟨_, _, rfl⟩ nkX8_wrong rfl rfl rfl (Nat.le_of_ble_eq_true rfl) (Nat.zero_le _) (Nat.zero_le _) (by decide +kernel) (fun H7 z8 => ?_)
    obtain ⟨z8, hn⟩ := z8
    have h0 := hn
    have hs := hs.step z8 (by omega) (by omega)
    refine aw_if_eq (off := 7) 28 (by decide) (by decide +kernel) (fun hc => ?_) (fun hc => ?_)
    · have hm := (if_pos hc).symm.trans hm
      refine aw_b (pc' := 32) (lv' := [(0, .ref a), (1, .int i0)]) (st' := [.int i0, .int (7 : Int32), .ref a]) [(28, .aload_n 0, 1, .null), (29, .bipush 7, 2, .int (7 : Int32)), (31, .iload_n 1, 1, .null)] (by decide +kernel) rfl ?_
      obtain ⟨r9, e10, hm⟩ := bn_x hm
      refine aw_cv (rest := []) (st1 := [.int r9.2]) a 0 (kX8_sets e10 h0 hf) rfl rfl ckX8_sets lkX8_252 h0 eo_O_0 ⟨_, _, rfl⟩ nkX8_sets rfl rfl rfl (Nat.le_of_ble_eq_true rfl) (Nat.zero_le _) (Nat.zero_le _) (by decide +kernel) (fun H11 z12 => ?_)
      obtain ⟨z12, hn⟩ := z12
      have h0 := hn
      have hs := hs.step z12 (by omega) (by omega)
      obtain rfl := Option.some.inj hm
      subst hQ
      exact aw_iret rfl (Nat.zero_le _) (Nat.zero_le _) (by decide +kernel) ⟨rfl, hs, h0⟩
    · have hm := (if_neg hc).symm.trans hm
      refine aw_b (pc' := 35) (lv' := [(0, .ref a), (1, .int i0)]) (st' := [.int (0 : Int32)]) [(24, .iconst 0, 1, .int (0 : Int32)), (25, .goto 10, 3, .null)] (by decide +kernel) rfl ?_
      obtain rfl := Option.some.inj hm
      subst hQ
      exact aw_iret rfl (Nat.zero_le _) (Nat.zero_le _) (by decide +kernel) ⟨rfl, hs, h0⟩
  refine aw_if_ne (off := 7) 17 (by decide) (by decide +kernel) (fun hc => ?_) (fun hc => ?_)
  · have hm := (if_neg hc).symm.trans hm
    refine aw_b (pc' := 18) (lv' := [(0, .ref a), (1, .int i0)]) (st' := [.int (0 : Int32), .ref a]) [(17, .iconst 0, 1, .int (0 : Int32))] (by decide +kernel) rfl ?_
    exact J18 (0 : Int32) H3 h0 hs hm
  · have hm := (if_pos hc).symm.trans hm
    refine aw_b (pc' := 18) (lv' := [(0, .ref a), (1, .int i0)]) (st' := [.int (1 : Int32), .ref a]) [(13, .iconst 1, 1, .int (1 : Int32)), (14, .goto 4, 3, .null)] (by decide +kernel) rfl ?_
    exact J18 (1 : Int32) H3 h0 hs hm
def mX8_setBound : mt_ := (yX8_setBound, cX8_setBound, 3, some .int, [], { frames := 2, locals := 43, cells := 0, slots := 0 })
theorem ckX8_setBound : cokV_ mX8_setBound := ⟨⟨(uw_mem 1699 (by decide +kernel) (by decide +kernel)), (uw_mem 112 (by decide +kernel) (by decide +kernel)), by decide +kernel, by decide +kernel⟩, (uw_mem 1697 (by decide +kernel) (by decide +kernel)), (uw_mem 1698 (by decide +kernel) (by decide +kernel))⟩
theorem nkX8_setBound : nok_ mX8_setBound 2 := by decide +kernel
theorem kwX8_259 : Cond.constantLong RX8 259 (99999 : Int64) ∈ uw_ := (uw_mem 1700 (by decide +kernel) (by decide +kernel))
theorem kwX8_261 : Cond.constantLong RX8 261 (9999 : Int64) ∈ uw_ := (uw_mem 1701 (by decide +kernel) (by decide +kernel))
def fX8_setBound_j30 (s : st_) (i0 : Int32) (i1 : Int32) (z1_j30 : Int32) : Option (st_ × Int32) :=
  bn_ (fX8_wrong s z1_j30) fun r5 =>
  if r5.2 = (0 : Int32) then (gd_ (ib_ (12 : Int32) 12584) <|
  bd_ (pt_ r5.1 1 (ix_ (12 : Int32)) i1) fun s10 =>
  bn_ (fX8_sets s10 (11 : Int32) i0) fun r14 =>
  some (r14.1, r14.2))
  else (some (r5.1, (0 : Int32)))
def fX8_setBound_j25 (s : st_) (i0 : Int32) (i1 : Int32) : Option (st_ × Int32) :=
  fX8_setBound_j30 s i0 i1 (1 : Int32)
def fX8_setBound (s : st_) (i0 : Int32) (i1 : Int32) : Option (st_ × Int32) :=
  bn_ (fX8_in (Int32.toInt64 i0) (0 : Int64) (99999 : Int64)) fun r1 =>
  if r1 = (0 : Int32) then (fX8_setBound_j25 s i0 i1)
  else (bn_ (fX8_in (Int32.toInt64 i1) (0 : Int64) (9999 : Int64)) fun r18 =>
  if r18 = (0 : Int32) then (fX8_setBound_j25 s i0 i1)
  else (fX8_setBound_j30 s i0 i1 (0 : Int32)))
set_option maxRecDepth 8000 in
theorem kX8_setBound {E : ev_} {H : Heap} {a : Nat} {s : st_} {i0 : Int32} {i1 : Int32} {r : st_ × Int32} (hm : fX8_setBound s i0 i1 = some r) (h0 : has_ E H a ly_O s) (hf : ev_fr E a) : sp_ E mX8_setBound [.ref a, .int i0, .int i1] H (po1 (.inl (some (.int r.2))) (fun Hn => sm_ H Hn a 10 ∧ has_ E Hn a ly_O r.1)) := by
  refine sp_of (by decide +kernel) rfl rfl ?_
  generalize hQ : po1 _ _ = Q
  have hs : sm_ H H a 10 := sm_.rfl'
  unfold fX8_setBound at hm
  refine aw_lv (lv' := [(0, .ref a), (1, .int i0), (2, .int i1)]) [0, 1, 2] rfl ?_
  refine aw_b (pc' := 4) (lv' := [(0, .ref a), (1, .int i0), (2, .int i1)]) (st' := [.long (0 : Int64), .long (Int32.toInt64 i0), .ref a]) [(0, .aload_n 0, 1, .null), (1, .iload_n 1, 1, .null), (2, .i2l, 1, .null), (3, .lconst 0, 1, .long (0 : Int64))] (by decide +kernel) rfl ?_
  refine aw_ldc2 (v := (99999 : Int64)) kwX8_259 (by decide +kernel) ?_
  obtain ⟨r1, e2, hm⟩ := bn_x hm
  refine aw_cs (rest := [.ref a]) (st1 := [.int r1, .ref a]) (kX8_in e2) rfl rfl ckX8_in lkX8_70 nkX8_in rfl rfl rfl (Nat.le_of_ble_eq_true rfl) (Nat.zero_le _) (Nat.zero_le _) (by decide +kernel) (fun H3 z4 => ?_)
  have h0 := h0.kept0 z4
  have hs := hs.step0 z4
  have J30 : ∀ (z1_j30 : Int32) (H_j30 : Heap), has_ E H_j30 a ly_O s → sm_ H H_j30 a 10 → fX8_setBound_j30 s i0 i1 z1_j30 = some r → aw E mX8_setBound Q 30 [(0, .ref a), (1, .int i0), (2, .int i1)] [.int z1_j30, .ref a] H_j30 0 0 := by
    intro z1_j30 H_j30 h0 hs hm
    unfold fX8_setBound_j30 at hm
    obtain ⟨r5, e6, hm⟩ := bn_x hm
    refine aw_cv (rest := []) (st1 := [.int r5.2]) a 0 (kX8_wrong e6 h0 hf) rfl rfl ckX8_wrong lkX8_221 h0 eo_O_0 ⟨_, _, rfl⟩ nkX8_wrong rfl rfl rfl (Nat.le_of_ble_eq_true rfl) (Nat.zero_le _) (Nat.zero_le _) (by decide +kernel) (fun H7 z8 => ?_)
    obtain ⟨z8, hn⟩ := z8
    have h0 := hn
    have hs := hs.step z8 (by omega) (by omega)
    refine aw_if_eq (off := 5) 38 (by decide) (by decide +kernel) (fun hc => ?_) (fun hc => ?_)
    · have hm := (if_pos hc).symm.trans hm
      refine aw_b (pc' := 39) (lv' := [(0, .ref a), (1, .int i0), (2, .int i1)]) (st' := [.ref a]) [(38, .aload_n 0, 1, .null)] (by decide +kernel) rfl ?_
      refine aw_gl (v := .ref (a + 1)) a 0 h0 eo_O_0 fgX8_9 rfl (by decide +kernel) ?_
      refine aw_b (pc' := 45) (lv' := [(0, .ref a), (1, .int i0), (2, .int i1)]) (st' := [.int i1, .int (12 : Int32), .ref (a + 1)]) [(42, .bipush 12, 2, .int (12 : Int32)), (44, .iload_n 2, 1, .null)] (by decide +kernel) rfl ?_
      obtain ⟨g9, hm⟩ := gd_x hm
      obtain ⟨s10, e11, hm⟩ := bd_x hm
      refine aw_isl a 1 h0 rfl hf g9 e11 (by decide +kernel) (fun H12 h0 z13 => ?_)
      have hs := hs.step z13 (by omega) (by omega)
      refine aw_b (pc' := 50) (lv' := [(0, .ref a), (1, .int i0), (2, .int i1)]) (st' := [.int i0, .int (11 : Int32), .ref a]) [(46, .aload_n 0, 1, .null), (47, .bipush 11, 2, .int (11 : Int32)), (49, .iload_n 1, 1, .null)] (by decide +kernel) rfl ?_
      obtain ⟨r14, e15, hm⟩ := bn_x hm
      refine aw_cv (rest := []) (st1 := [.int r14.2]) a 0 (kX8_sets e15 h0 hf) rfl rfl ckX8_sets lkX8_252 h0 eo_O_0 ⟨_, _, rfl⟩ nkX8_sets rfl rfl rfl (Nat.le_of_ble_eq_true rfl) (Nat.zero_le _) (Nat.zero_le _) (by decide +kernel) (fun H16 z17 => ?_)
      obtain ⟨z17, hn⟩ := z17
      have h0 := hn
      have hs := hs.step z17 (by omega) (by omega)
      obtain rfl := Option.some.inj hm
      subst hQ
      exact aw_iret rfl (Nat.zero_le _) (Nat.zero_le _) (by decide +kernel) ⟨rfl, hs, h0⟩
    · have hm := (if_neg hc).symm.trans hm
      refine aw_b (pc' := 37) (lv' := [(0, .ref a), (1, .int i0), (2, .int i1)]) (st' := [.int (0 : Int32)]) [(36, .iconst 0, 1, .int (0 : Int32))] (by decide +kernel) rfl ?_
      obtain rfl := Option.some.inj hm
      subst hQ
      exact aw_iret rfl (Nat.zero_le _) (Nat.zero_le _) (by decide +kernel) ⟨rfl, hs, h0⟩
  have J25 : ∀ (H_j25 : Heap), has_ E H_j25 a ly_O s → sm_ H H_j25 a 10 → fX8_setBound_j25 s i0 i1 = some r → aw E mX8_setBound Q 25 [(0, .ref a), (1, .int i0), (2, .int i1)] [.ref a] H_j25 0 0 := by
    intro H_j25 h0 hs hm
    unfold fX8_setBound_j25 at hm
    refine aw_b (pc' := 30) (lv' := [(0, .ref a), (1, .int i0), (2, .int i1)]) (st' := [.int (1 : Int32), .ref a]) [(25, .iconst 1, 1, .int (1 : Int32)), (26, .goto 4, 3, .null)] (by decide +kernel) rfl ?_
    exact J30 (1 : Int32) H_j25 h0 hs hm
  refine aw_if_eq (off := 15) 25 (by decide) (by decide +kernel) (fun hc => ?_) (fun hc => ?_)
  · have hm := (if_pos hc).symm.trans hm
    exact J25 H3 h0 hs hm
  · have hm := (if_neg hc).symm.trans hm
    refine aw_b (pc' := 16) (lv' := [(0, .ref a), (1, .int i0), (2, .int i1)]) (st' := [.long (0 : Int64), .long (Int32.toInt64 i1), .ref a]) [(13, .iload_n 2, 1, .null), (14, .i2l, 1, .null), (15, .lconst 0, 1, .long (0 : Int64))] (by decide +kernel) rfl ?_
    refine aw_ldc2 (v := (9999 : Int64)) kwX8_261 (by decide +kernel) ?_
    obtain ⟨r18, e19, hm⟩ := bn_x hm
    refine aw_cs (rest := [.ref a]) (st1 := [.int r18, .ref a]) (kX8_in e19) rfl rfl ckX8_in lkX8_70 nkX8_in rfl rfl rfl (Nat.le_of_ble_eq_true rfl) (Nat.zero_le _) (Nat.zero_le _) (by decide +kernel) (fun H20 z21 => ?_)
    have h0 := h0.kept0 z21
    have hs := hs.step0 z21
    refine aw_if_ne (off := 7) 29 (by decide) (by decide +kernel) (fun hc => ?_) (fun hc => ?_)
    · have hm := (if_neg hc).symm.trans hm
      refine aw_b (pc' := 30) (lv' := [(0, .ref a), (1, .int i0), (2, .int i1)]) (st' := [.int (0 : Int32), .ref a]) [(29, .iconst 0, 1, .int (0 : Int32))] (by decide +kernel) rfl ?_
      exact J30 (0 : Int32) H20 h0 hs hm
    · have hm := (if_pos hc).symm.trans hm
      exact J25 H20 h0 hs hm
def mX8_addAsk : mt_ := (yX8_addAsk, cX8_addAsk, 2, some .int, [], { frames := 3, locals := 64, cells := 0, slots := 0 })
theorem ckX8_addAsk : cokV_ mX8_addAsk := ⟨⟨(uw_mem 1705 (by decide +kernel) (by decide +kernel)), (uw_mem 112 (by decide +kernel) (by decide +kernel)), by decide +kernel, by decide +kernel⟩, (uw_mem 1703 (by decide +kernel) (by decide +kernel)), (uw_mem 1704 (by decide +kernel) (by decide +kernel))⟩
theorem nkX8_addAsk : nok_ mX8_addAsk 1 := by decide +kernel
def fX8_addAsk (s : st_) (i0 : Int32) : Option (st_ × Int32) :=
  bn_ (fX8_noCylinder s i0) fun r1 =>
  if r1.2 = (0 : Int32) then (gd_ (ib_ (10 : Int32) 12584) <|
  if (r1.1 1 (ix_ (10 : Int32))) = (16 : Int32) then (some (r1.1, (-2 : Int32)))
  else (gd_ (ib_ (10 : Int32) 12584) <|
  gd_ (ib_ ((56 : Int32) + (r1.1 1 (ix_ (10 : Int32)))) 12584) <|
  bd_ (pt_ r1.1 1 (ix_ ((56 : Int32) + (r1.1 1 (ix_ (10 : Int32))))) i0) fun s8 =>
  gd_ (ib_ (10 : Int32) 12584) <|
  gd_ (ib_ (10 : Int32) 12584) <|
  bd_ (pt_ s8 1 (ix_ (10 : Int32)) ((s8 1 (ix_ (10 : Int32))) + (1 : Int32))) fun s14 =>
  gd_ (ib_ (10 : Int32) 12584) <|
  some (s14, ((s14 1 (ix_ (10 : Int32))) - (1 : Int32)))))
  else (some (r1.1, (0 : Int32)))
set_option maxRecDepth 8000 in
theorem kX8_addAsk {E : ev_} {H : Heap} {a : Nat} {s : st_} {i0 : Int32} {r : st_ × Int32} (hm : fX8_addAsk s i0 = some r) (h0 : has_ E H a ly_O s) (hf : ev_fr E a) : sp_ E mX8_addAsk [.ref a, .int i0] H (po1 (.inl (some (.int r.2))) (fun Hn => sm_ H Hn a 10 ∧ has_ E Hn a ly_O r.1)) := by
  refine sp_of (by decide +kernel) rfl rfl ?_
  generalize hQ : po1 _ _ = Q
  have hs : sm_ H H a 10 := sm_.rfl'
  unfold fX8_addAsk at hm
  refine aw_lv (lv' := [(0, .ref a), (1, .int i0)]) [0, 1] rfl ?_
  refine aw_b (pc' := 2) (lv' := [(0, .ref a), (1, .int i0)]) (st' := [.int i0, .ref a]) [(0, .aload_n 0, 1, .null), (1, .iload_n 1, 1, .null)] (by decide +kernel) rfl ?_
  obtain ⟨r1, e2, hm⟩ := bn_x hm
  refine aw_cv (rest := []) (st1 := [.int r1.2]) a 0 (kX8_noCylinder e2 h0 hf) rfl rfl ckX8_noCylinder lkX8_242 h0 eo_O_0 ⟨_, _, rfl⟩ nkX8_noCylinder rfl rfl rfl (Nat.le_of_ble_eq_true rfl) (Nat.zero_le _) (Nat.zero_le _) (by decide +kernel) (fun H3 z4 => ?_)
  obtain ⟨z4, hn⟩ := z4
  have h0 := hn
  have hs := hs.step z4 (by omega) (by omega)
  refine aw_if_eq (off := 5) 10 (by decide) (by decide +kernel) (fun hc => ?_) (fun hc => ?_)
  · have hm := (if_pos hc).symm.trans hm
    refine aw_b (pc' := 11) (lv' := [(0, .ref a), (1, .int i0)]) (st' := [.ref a]) [(10, .aload_n 0, 1, .null)] (by decide +kernel) rfl ?_
    refine aw_gl (v := .ref (a + 1)) a 0 h0 eo_O_0 fgX8_9 rfl (by decide +kernel) ?_
    refine aw_b (pc' := 16) (lv' := [(0, .ref a), (1, .int i0)]) (st' := [.int (10 : Int32), .ref (a + 1)]) [(14, .bipush 10, 2, .int (10 : Int32))] (by decide +kernel) rfl ?_
    obtain ⟨g5, hm⟩ := gd_x hm
    refine aw_ial a 1 h0 rfl g5 (by decide +kernel) ?_
    refine aw_b (pc' := 19) (lv' := [(0, .ref a), (1, .int i0)]) (st' := [.int (16 : Int32), .int (r1.1 1 (ix_ (10 : Int32)))]) [(17, .bipush 16, 2, .int (16 : Int32))] (by decide +kernel) rfl ?_
    refine aw_ic_ne (off := 6) 25 (by decide) (by decide +kernel) (fun hc => ?_) (fun hc => ?_)
    · have hm := (if_neg hc).symm.trans hm
      refine aw_b (pc' := 26) (lv' := [(0, .ref a), (1, .int i0)]) (st' := [.ref a]) [(25, .aload_n 0, 1, .null)] (by decide +kernel) rfl ?_
      refine aw_gl (v := .ref (a + 1)) a 0 h0 eo_O_0 fgX8_9 rfl (by decide +kernel) ?_
      refine aw_b (pc' := 32) (lv' := [(0, .ref a), (1, .int i0)]) (st' := [.ref a, .int (56 : Int32), .ref (a + 1)]) [(29, .bipush 56, 2, .int (56 : Int32)), (31, .aload_n 0, 1, .null)] (by decide +kernel) rfl ?_
      refine aw_gl (v := .ref (a + 1)) a 0 h0 eo_O_0 fgX8_9 rfl (by decide +kernel) ?_
      refine aw_b (pc' := 37) (lv' := [(0, .ref a), (1, .int i0)]) (st' := [.int (10 : Int32), .ref (a + 1), .int (56 : Int32), .ref (a + 1)]) [(35, .bipush 10, 2, .int (10 : Int32))] (by decide +kernel) rfl ?_
      obtain ⟨g6, hm⟩ := gd_x hm
      refine aw_ial a 1 h0 rfl g6 (by decide +kernel) ?_
      refine aw_b (pc' := 40) (lv' := [(0, .ref a), (1, .int i0)]) (st' := [.int i0, .int ((56 : Int32) + (r1.1 1 (ix_ (10 : Int32)))), .ref (a + 1)]) [(38, .iadd, 1, .null), (39, .iload_n 1, 1, .null)] (by decide +kernel) rfl ?_
      obtain ⟨g7, hm⟩ := gd_x hm
      obtain ⟨s8, e9, hm⟩ := bd_x hm
      refine aw_isl a 1 h0 rfl hf g7 e9 (by decide +kernel) (fun H10 h0 z11 => ?_)
      have hs := hs.step z11 (by omega) (by omega)
      refine aw_b (pc' := 42) (lv' := [(0, .ref a), (1, .int i0)]) (st' := [.ref a]) [(41, .aload_n 0, 1, .null)] (by decide +kernel) rfl ?_
      refine aw_gl (v := .ref (a + 1)) a 0 h0 eo_O_0 fgX8_9 rfl (by decide +kernel) ?_
      refine aw_b (pc' := 48) (lv' := [(0, .ref a), (1, .int i0)]) (st' := [.int (10 : Int32), .ref (a + 1), .int (10 : Int32), .ref (a + 1)]) [(45, .bipush 10, 2, .int (10 : Int32)), (47, .dup2, 1, .null)] (by decide +kernel) rfl ?_
      obtain ⟨g12, hm⟩ := gd_x hm
      refine aw_ial a 1 h0 rfl g12 (by decide +kernel) ?_
      refine aw_b (pc' := 51) (lv' := [(0, .ref a), (1, .int i0)]) (st' := [.int ((s8 1 (ix_ (10 : Int32))) + (1 : Int32)), .int (10 : Int32), .ref (a + 1)]) [(49, .iconst 1, 1, .int (1 : Int32)), (50, .iadd, 1, .null)] (by decide +kernel) rfl ?_
      obtain ⟨g13, hm⟩ := gd_x hm
      obtain ⟨s14, e15, hm⟩ := bd_x hm
      refine aw_isl a 1 h0 rfl hf g13 e15 (by decide +kernel) (fun H16 h0 z17 => ?_)
      have hs := hs.step z17 (by omega) (by omega)
      refine aw_b (pc' := 53) (lv' := [(0, .ref a), (1, .int i0)]) (st' := [.ref a]) [(52, .aload_n 0, 1, .null)] (by decide +kernel) rfl ?_
      refine aw_gl (v := .ref (a + 1)) a 0 h0 eo_O_0 fgX8_9 rfl (by decide +kernel) ?_
      refine aw_b (pc' := 58) (lv' := [(0, .ref a), (1, .int i0)]) (st' := [.int (10 : Int32), .ref (a + 1)]) [(56, .bipush 10, 2, .int (10 : Int32))] (by decide +kernel) rfl ?_
      obtain ⟨g18, hm⟩ := gd_x hm
      refine aw_ial a 1 h0 rfl g18 (by decide +kernel) ?_
      refine aw_b (pc' := 61) (lv' := [(0, .ref a), (1, .int i0)]) (st' := [.int ((s14 1 (ix_ (10 : Int32))) - (1 : Int32))]) [(59, .iconst 1, 1, .int (1 : Int32)), (60, .isub, 1, .null)] (by decide +kernel) rfl ?_
      obtain rfl := Option.some.inj hm
      subst hQ
      exact aw_iret rfl (Nat.zero_le _) (Nat.zero_le _) (by decide +kernel) ⟨rfl, hs, h0⟩
    · have hm := (if_pos hc).symm.trans hm
      refine aw_b (pc' := 24) (lv' := [(0, .ref a), (1, .int i0)]) (st' := [.int (-2 : Int32)]) [(22, .bipush (-2), 2, .int (-2 : Int32))] (by decide +kernel) rfl ?_
      obtain rfl := Option.some.inj hm
      subst hQ
      exact aw_iret rfl (Nat.zero_le _) (Nat.zero_le _) (by decide +kernel) ⟨rfl, hs, h0⟩
  · have hm := (if_neg hc).symm.trans hm
    refine aw_b (pc' := 9) (lv' := [(0, .ref a), (1, .int i0)]) (st' := [.int (0 : Int32)]) [(8, .iconst 0, 1, .int (0 : Int32))] (by decide +kernel) rfl ?_
    obtain rfl := Option.some.inj hm
    subst hQ
    exact aw_iret rfl (Nat.zero_le _) (Nat.zero_le _) (by decide +kernel) ⟨rfl, hs, h0⟩
def mX8_setBudget : mt_ := (yX8_setBudget, cX8_setBudget, 2, some .int, [], { frames := 2, locals := 43, cells := 0, slots := 0 })
theorem ckX8_setBudget : cokV_ mX8_setBudget := ⟨⟨(uw_mem 1709 (by decide +kernel) (by decide +kernel)), (uw_mem 112 (by decide +kernel) (by decide +kernel)), by decide +kernel, by decide +kernel⟩, (uw_mem 1707 (by decide +kernel) (by decide +kernel)), (uw_mem 1708 (by decide +kernel) (by decide +kernel))⟩
theorem nkX8_setBudget : nok_ mX8_setBudget 1 := by decide +kernel
theorem kwX8_263 : Cond.constantLong RX8 263 (-1 : Int64) ∈ uw_ := (uw_mem 1710 (by decide +kernel) (by decide +kernel))
theorem kwX8_265 : Cond.constantLong RX8 265 (999 : Int64) ∈ uw_ := (uw_mem 1711 (by decide +kernel) (by decide +kernel))
def fX8_setBudget_j20 (s : st_) (i0 : Int32) (z1_j20 : Int32) : Option (st_ × Int32) :=
  bn_ (fX8_wrong s z1_j20) fun r5 =>
  if r5.2 = (0 : Int32) then (gd_ (ib_ (14 : Int32) 12584) <|
  bd_ (pt_ r5.1 1 (ix_ (14 : Int32)) (0 : Int32)) fun s10 =>
  bn_ (fX8_sets s10 (13 : Int32) i0) fun r14 =>
  some (r14.1, r14.2))
  else (some (r5.1, (0 : Int32)))
def fX8_setBudget (s : st_) (i0 : Int32) : Option (st_ × Int32) :=
  bn_ (fX8_in (Int32.toInt64 i0) (-1 : Int64) (999 : Int64)) fun r1 =>
  if r1 = (0 : Int32) then (fX8_setBudget_j20 s i0 (1 : Int32))
  else (fX8_setBudget_j20 s i0 (0 : Int32))
set_option maxRecDepth 8000 in
theorem kX8_setBudget {E : ev_} {H : Heap} {a : Nat} {s : st_} {i0 : Int32} {r : st_ × Int32} (hm : fX8_setBudget s i0 = some r) (h0 : has_ E H a ly_O s) (hf : ev_fr E a) : sp_ E mX8_setBudget [.ref a, .int i0] H (po1 (.inl (some (.int r.2))) (fun Hn => sm_ H Hn a 10 ∧ has_ E Hn a ly_O r.1)) := by
  refine sp_of (by decide +kernel) rfl rfl ?_
  generalize hQ : po1 _ _ = Q
  have hs : sm_ H H a 10 := sm_.rfl'
  unfold fX8_setBudget at hm
  refine aw_lv (lv' := [(0, .ref a), (1, .int i0)]) [0, 1] rfl ?_
  refine aw_b (pc' := 3) (lv' := [(0, .ref a), (1, .int i0)]) (st' := [.long (Int32.toInt64 i0), .ref a]) [(0, .aload_n 0, 1, .null), (1, .iload_n 1, 1, .null), (2, .i2l, 1, .null)] (by decide +kernel) rfl ?_
  refine aw_ldc2 (v := (-1 : Int64)) kwX8_263 (by decide +kernel) ?_
  refine aw_ldc2 (v := (999 : Int64)) kwX8_265 (by decide +kernel) ?_
  obtain ⟨r1, e2, hm⟩ := bn_x hm
  refine aw_cs (rest := [.ref a]) (st1 := [.int r1, .ref a]) (kX8_in e2) rfl rfl ckX8_in lkX8_70 nkX8_in rfl rfl rfl (Nat.le_of_ble_eq_true rfl) (Nat.zero_le _) (Nat.zero_le _) (by decide +kernel) (fun H3 z4 => ?_)
  have h0 := h0.kept0 z4
  have hs := hs.step0 z4
  have J20 : ∀ (z1_j20 : Int32) (H_j20 : Heap), has_ E H_j20 a ly_O s → sm_ H H_j20 a 10 → fX8_setBudget_j20 s i0 z1_j20 = some r → aw E mX8_setBudget Q 20 [(0, .ref a), (1, .int i0)] [.int z1_j20, .ref a] H_j20 0 0 := by
    intro z1_j20 H_j20 h0 hs hm
    unfold fX8_setBudget_j20 at hm
    obtain ⟨r5, e6, hm⟩ := bn_x hm
    refine aw_cv (rest := []) (st1 := [.int r5.2]) a 0 (kX8_wrong e6 h0 hf) rfl rfl ckX8_wrong lkX8_221 h0 eo_O_0 ⟨_, _, rfl⟩ nkX8_wrong rfl rfl rfl (Nat.le_of_ble_eq_true rfl) (Nat.zero_le _) (Nat.zero_le _) (by decide +kernel) (fun H7 z8 => ?_)
    obtain ⟨z8, hn⟩ := z8
    have h0 := hn
    have hs := hs.step z8 (by omega) (by omega)
    refine aw_if_eq (off := 5) 28 (by decide) (by decide +kernel) (fun hc => ?_) (fun hc => ?_)
    · have hm := (if_pos hc).symm.trans hm
      refine aw_b (pc' := 29) (lv' := [(0, .ref a), (1, .int i0)]) (st' := [.ref a]) [(28, .aload_n 0, 1, .null)] (by decide +kernel) rfl ?_
      refine aw_gl (v := .ref (a + 1)) a 0 h0 eo_O_0 fgX8_9 rfl (by decide +kernel) ?_
      refine aw_b (pc' := 35) (lv' := [(0, .ref a), (1, .int i0)]) (st' := [.int (0 : Int32), .int (14 : Int32), .ref (a + 1)]) [(32, .bipush 14, 2, .int (14 : Int32)), (34, .iconst 0, 1, .int (0 : Int32))] (by decide +kernel) rfl ?_
      obtain ⟨g9, hm⟩ := gd_x hm
      obtain ⟨s10, e11, hm⟩ := bd_x hm
      refine aw_isl a 1 h0 rfl hf g9 e11 (by decide +kernel) (fun H12 h0 z13 => ?_)
      have hs := hs.step z13 (by omega) (by omega)
      refine aw_b (pc' := 40) (lv' := [(0, .ref a), (1, .int i0)]) (st' := [.int i0, .int (13 : Int32), .ref a]) [(36, .aload_n 0, 1, .null), (37, .bipush 13, 2, .int (13 : Int32)), (39, .iload_n 1, 1, .null)] (by decide +kernel) rfl ?_
      obtain ⟨r14, e15, hm⟩ := bn_x hm
      refine aw_cv (rest := []) (st1 := [.int r14.2]) a 0 (kX8_sets e15 h0 hf) rfl rfl ckX8_sets lkX8_252 h0 eo_O_0 ⟨_, _, rfl⟩ nkX8_sets rfl rfl rfl (Nat.le_of_ble_eq_true rfl) (Nat.zero_le _) (Nat.zero_le _) (by decide +kernel) (fun H16 z17 => ?_)
      obtain ⟨z17, hn⟩ := z17
      have h0 := hn
      have hs := hs.step z17 (by omega) (by omega)
      obtain rfl := Option.some.inj hm
      subst hQ
      exact aw_iret rfl (Nat.zero_le _) (Nat.zero_le _) (by decide +kernel) ⟨rfl, hs, h0⟩
    · have hm := (if_neg hc).symm.trans hm
      refine aw_b (pc' := 27) (lv' := [(0, .ref a), (1, .int i0)]) (st' := [.int (0 : Int32)]) [(26, .iconst 0, 1, .int (0 : Int32))] (by decide +kernel) rfl ?_
      obtain rfl := Option.some.inj hm
      subst hQ
      exact aw_iret rfl (Nat.zero_le _) (Nat.zero_le _) (by decide +kernel) ⟨rfl, hs, h0⟩
  refine aw_if_ne (off := 7) 19 (by decide) (by decide +kernel) (fun hc => ?_) (fun hc => ?_)
  · have hm := (if_neg hc).symm.trans hm
    refine aw_b (pc' := 20) (lv' := [(0, .ref a), (1, .int i0)]) (st' := [.int (0 : Int32), .ref a]) [(19, .iconst 0, 1, .int (0 : Int32))] (by decide +kernel) rfl ?_
    exact J20 (0 : Int32) H3 h0 hs hm
  · have hm := (if_pos hc).symm.trans hm
    refine aw_b (pc' := 20) (lv' := [(0, .ref a), (1, .int i0)]) (st' := [.int (1 : Int32), .ref a]) [(15, .iconst 1, 1, .int (1 : Int32)), (16, .goto 4, 3, .null)] (by decide +kernel) rfl ?_
    exact J20 (1 : Int32) H3 h0 hs hm
def mX8_evenWeights : mt_ := (yX8_evenWeights, cX8_evenWeights, 3, some .int, [], { frames := 1, locals := 22, cells := 0, slots := 0 })
theorem ckX8_evenWeights : cokV_ mX8_evenWeights := ⟨⟨(uw_mem 1715 (by decide +kernel) (by decide +kernel)), (uw_mem 112 (by decide +kernel) (by decide +kernel)), by decide +kernel, by decide +kernel⟩, (uw_mem 1713 (by decide +kernel) (by decide +kernel)), (uw_mem 1714 (by decide +kernel) (by decide +kernel))⟩
theorem nkX8_evenWeights : nok_ mX8_evenWeights 0 := by decide +kernel
def fX8_evenWeights_x14_45 (r5 : Int32) (s_x14_45 : st_) : Option (st_ × Int32) :=
  some (s_x14_45, r5)
def fX8_evenWeights_k14 (r5 : Int32) (x : st_) : Option (st_ × Int32) :=
  fX8_evenWeights_x14_45 r5 x
def fX8_evenWeights_b14 (v2_b14 : Int32) (s_b14 : st_) : Option ((Int32 × st_) ⊕ (st_)) :=
  gd_ (ib_ (4 : Int32) 12584) <|
  if (s_b14 1 (ix_ (4 : Int32))) ≤ v2_b14 then (some (.inr s_b14))
  else (gd_ (ib_ (((26 : Int32) + ((5 : Int32) * v2_b14)) + (2 : Int32)) 12584) <|
  bd_ (pt_ s_b14 1 (ix_ (((26 : Int32) + ((5 : Int32) * v2_b14)) + (2 : Int32))) (1000000 : Int32)) fun s11 =>
  some (.inl ((v2_b14 + (1 : Int32)), s11)))
def fX8_evenWeights_l14 : Nat → (Int32 × st_) → Option (st_) :=
  it_ (fun v => fX8_evenWeights_b14 v.1 v.2)
def fX8_evenWeights (s : st_) : Option (st_ × Int32) :=
  bd_ (pt_ s 0 6 (0 : Int32)) fun s1 =>
  bn_ (fX8_of s1 (0 : Int32) (2 : Int32)) fun r5 =>
  bn_ (fX8_evenWeights_l14 FU_ ((0 : Int32), s1)) (fX8_evenWeights_k14 r5)
set_option maxRecDepth 8000 in
theorem kX8_evenWeights {E : ev_} {H : Heap} {a : Nat} {s : st_} {r : st_ × Int32} (hm : fX8_evenWeights s = some r) (h0 : has_ E H a ly_O s) (hf : ev_fr E a) : sp_ E mX8_evenWeights [.ref a] H (po1 (.inl (some (.int r.2))) (fun Hn => sm_ H Hn a 10 ∧ has_ E Hn a ly_O r.1)) := by
  refine sp_of (by decide +kernel) rfl rfl ?_
  generalize hQ : po1 _ _ = Q
  have hs : sm_ H H a 10 := sm_.rfl'
  unfold fX8_evenWeights at hm
  refine aw_lv (lv' := [(0, .ref a)]) [0] rfl ?_
  refine aw_b (pc' := 2) (lv' := [(0, .ref a)]) (st' := [.int (0 : Int32), .ref a]) [(0, .aload_n 0, 1, .null), (1, .iconst 0, 1, .int (0 : Int32))] (by decide +kernel) rfl ?_
  obtain ⟨s1, e2, hm⟩ := bd_x hm
  refine aw_pl a 0 h0 eo_O_0 fsq_8_6 fpX8_45 hf rfl rfl e2 (by decide +kernel) (fun H3 h0 z4 => ?_)
  have hs := hs.step z4 (by omega) (by omega)
  refine aw_b (pc' := 8) (lv' := [(0, .ref a)]) (st' := [.int (2 : Int32), .int (0 : Int32), .ref a]) [(5, .aload_n 0, 1, .null), (6, .iconst 0, 1, .int (0 : Int32)), (7, .iconst 2, 1, .int (2 : Int32))] (by decide +kernel) rfl ?_
  obtain ⟨r5, e6, hm⟩ := bn_x hm
  refine aw_cv (rest := []) (st1 := [.int r5]) a 0 (kX8_of e6 h0) rfl rfl ckX8_of lkX8_236 h0 eo_O_0 ⟨_, _, rfl⟩ nkX8_of rfl rfl rfl (Nat.le_of_ble_eq_true rfl) (Nat.zero_le _) (Nat.zero_le _) (by decide +kernel) (fun H7 z8 => ?_)
  have h0 := h0.kept0 z8
  have hs := hs.step0 z8
  refine aw_b (pc' := 14) (lv' := [(2, .int (0 : Int32)), (1, .int r5), (0, .ref a)]) (st' := []) [(11, .istore_n 1, 1, .null), (12, .iconst 0, 1, .int (0 : Int32)), (13, .istore_n 2, 1, .null)] (by decide +kernel) rfl ?_
  obtain ⟨x14, hx14, hr14⟩ := bn_x hm
  have X14_45 : ∀ (s_x14_45 : st_) (H_x14_45 : Heap), has_ E H_x14_45 a ly_O s_x14_45 → sm_ H H_x14_45 a 10 → fX8_evenWeights_x14_45 r5 s_x14_45 = some r → aw E mX8_evenWeights Q 45 [(1, .int r5)] [] H_x14_45 0 0 := by
    intro s_x14_45 H_x14_45 h0 hs hm
    unfold fX8_evenWeights_x14_45 at hm
    refine aw_b (pc' := 46) (lv' := [(1, .int r5)]) (st' := [.int r5]) [(45, .iload_n 1, 1, .null)] (by decide +kernel) rfl ?_
    obtain rfl := Option.some.inj hm
    subst hQ
    exact aw_iret rfl (Nat.zero_le _) (Nat.zero_le _) (by decide +kernel) ⟨rfl, hs, h0⟩
  have L14 : ∀ (fu : Nat) (v2_b14 : Int32) (s_b14 : st_) (H_b14 : Heap), has_ E H_b14 a ly_O s_b14 → sm_ H H_b14 a 10 → fX8_evenWeights_l14 fu (v2_b14, s_b14) = some x14 → aw E mX8_evenWeights Q 14 [(0, .ref a), (1, .int r5), (2, .int v2_b14)] [] H_b14 0 0 := by
    intro fu
    induction fu with
    | zero =>
      intro v2_b14 s_b14 H_b14 h0 hs hm
      exact (it_0 hm).elim
    | succ fu ih14 =>
      intro v2_b14 s_b14 H_b14 h0 hs hm
      obtain ⟨y14, hm, hk14⟩ := it_s hm
      have hm : fX8_evenWeights_b14 v2_b14 s_b14 = some y14 := hm
      unfold fX8_evenWeights_b14 at hm
      refine aw_b (pc' := 16) (lv' := [(0, .ref a), (1, .int r5), (2, .int v2_b14)]) (st' := [.ref a, .int v2_b14]) [(14, .iload_n 2, 1, .null), (15, .aload_n 0, 1, .null)] (by decide +kernel) rfl ?_
      refine aw_gl (v := .ref (a + 1)) a 0 h0 eo_O_0 fgX8_9 rfl (by decide +kernel) ?_
      refine aw_b (pc' := 20) (lv' := [(0, .ref a), (1, .int r5), (2, .int v2_b14)]) (st' := [.int (4 : Int32), .ref (a + 1), .int v2_b14]) [(19, .iconst 4, 1, .int (4 : Int32))] (by decide +kernel) rfl ?_
      obtain ⟨g9, hm⟩ := gd_x hm
      refine aw_ial a 1 h0 rfl g9 (by decide +kernel) ?_
      refine aw_ic_ge (off := 24) 45 (by decide) (by decide +kernel) (fun hc => ?_) (fun hc => ?_)
      · have hm := (if_pos hc).symm.trans hm
        cases hm
        refine aw_lv (lv' := [(1, .int r5)]) [1] rfl ?_
        exact X14_45 s_b14 H_b14 h0 hs ((congrArg (fX8_evenWeights_k14 r5) (show (s_b14) = x14 from hk14)).trans hr14)
      · have hm := (if_neg hc).symm.trans hm
        refine aw_b (pc' := 25) (lv' := [(0, .ref a), (1, .int r5), (2, .int v2_b14)]) (st' := [.ref a]) [(24, .aload_n 0, 1, .null)] (by decide +kernel) rfl ?_
        refine aw_gl (v := .ref (a + 1)) a 0 h0 eo_O_0 fgX8_9 rfl (by decide +kernel) ?_
        refine aw_b (pc' := 36) (lv' := [(0, .ref a), (1, .int r5), (2, .int v2_b14)]) (st' := [.int (((26 : Int32) + ((5 : Int32) * v2_b14)) + (2 : Int32)), .ref (a + 1)]) [(28, .bipush 26, 2, .int (26 : Int32)), (30, .iconst 5, 1, .int (5 : Int32)), (31, .iload_n 2, 1, .null), (32, .imul, 1, .null), (33, .iadd, 1, .null), (34, .iconst 2, 1, .int (2 : Int32)), (35, .iadd, 1, .null)] (by decide +kernel) rfl ?_
        refine aw_ldc (v := (1000000 : Int32)) kwX8_53 (by decide +kernel) ?_
        obtain ⟨g10, hm⟩ := gd_x hm
        obtain ⟨s11, e12, hm⟩ := bd_x hm
        refine aw_isl a 1 h0 rfl hf g10 e12 (by decide +kernel) (fun H13 h0 z14 => ?_)
        have hs := hs.step z14 (by omega) (by omega)
        refine aw_b (pc' := 14) (lv' := [(2, .int (v2_b14 + (1 : Int32))), (0, .ref a), (1, .int r5)]) (st' := []) [(39, .iinc 2 1, 3, .int (1 : Int32)), (42, .goto (-28), 3, .null)] (by decide +kernel) rfl ?_
        cases hm
        refine aw_lv (lv' := [(0, .ref a), (1, .int r5), (2, .int (v2_b14 + (1 : Int32)))]) [1, 2, 0] rfl ?_
        exact ih14 (v2_b14 + (1 : Int32)) s11 H13 h0 hs hk14
  refine aw_lv (lv' := [(0, .ref a), (1, .int r5), (2, .int (0 : Int32))]) [2, 1, 0] rfl ?_
  exact L14 FU_ (0 : Int32) s1 H7 h0 hs hx14
def mX8_cylinderOf : mt_ := (yX8_cylinderOf, cX8_cylinderOf, 3, some .int, [], { frames := 1, locals := 20, cells := 0, slots := 0 })
theorem ckX8_cylinderOf : cokV_ mX8_cylinderOf := ⟨⟨(uw_mem 1747 (by decide +kernel) (by decide +kernel)), (uw_mem 112 (by decide +kernel) (by decide +kernel)), by decide +kernel, by decide +kernel⟩, (uw_mem 1746 (by decide +kernel) (by decide +kernel)), (uw_mem 58 (by decide +kernel) (by decide +kernel))⟩
theorem nkX8_cylinderOf : nok_ mX8_cylinderOf 2 := by decide +kernel
def fX8_cylinderOf (s : st_) (i0 : Int32) (i1 : Int32) : Option (Int32) :=
  bn_ (fX8_armAt i0) fun r1 =>
  gd_ (ib_ ((r1 + (7 : Int32)) + ((2 : Int32) * i1)) 12584) <|
  some (s 1 (ix_ ((r1 + (7 : Int32)) + ((2 : Int32) * i1))))
set_option maxRecDepth 8000 in
theorem kX8_cylinderOf {E : ev_} {H : Heap} {a : Nat} {s : st_} {i0 : Int32} {i1 : Int32} {r : Int32} (hm : fX8_cylinderOf s i0 i1 = some r) (h0 : has_ E H a ly_O s) : sp_ E mX8_cylinderOf [.ref a, .int i0, .int i1] H (po1 (.inl (some (.int r))) (fun Hn => sm_ H Hn 0 0)) := by
  refine sp_of (by decide +kernel) rfl rfl ?_
  generalize hQ : po1 _ _ = Q
  have hs : sm_ H H 0 0 := sm_.rfl'
  unfold fX8_cylinderOf at hm
  refine aw_lv (lv' := [(0, .ref a), (1, .int i0), (2, .int i1)]) [0, 1, 2] rfl ?_
  refine aw_b (pc' := 1) (lv' := [(0, .ref a), (1, .int i0), (2, .int i1)]) (st' := [.ref a]) [(0, .aload_n 0, 1, .null)] (by decide +kernel) rfl ?_
  refine aw_gl (v := .ref (a + 1)) a 0 h0 eo_O_0 fgX8_9 rfl (by decide +kernel) ?_
  refine aw_b (pc' := 5) (lv' := [(0, .ref a), (1, .int i0), (2, .int i1)]) (st' := [.int i0, .ref (a + 1)]) [(4, .iload_n 1, 1, .null)] (by decide +kernel) rfl ?_
  obtain ⟨r1, e2, hm⟩ := bn_x hm
  refine aw_cs (rest := [.ref (a + 1)]) (st1 := [.int r1, .ref (a + 1)]) (kX8_armAt e2) rfl rfl ckX8_armAt lkX8_215 nkX8_armAt rfl rfl rfl (Nat.le_of_ble_eq_true rfl) (Nat.zero_le _) (Nat.zero_le _) (by decide +kernel) (fun H3 z4 => ?_)
  have h0 := h0.kept0 z4
  have hs := hs.step0 z4
  refine aw_b (pc' := 15) (lv' := [(0, .ref a), (1, .int i0), (2, .int i1)]) (st' := [.int ((r1 + (7 : Int32)) + ((2 : Int32) * i1)), .ref (a + 1)]) [(8, .bipush 7, 2, .int (7 : Int32)), (10, .iadd, 1, .null), (11, .iconst 2, 1, .int (2 : Int32)), (12, .iload_n 2, 1, .null), (13, .imul, 1, .null), (14, .iadd, 1, .null)] (by decide +kernel) rfl ?_
  obtain ⟨g5, hm⟩ := gd_x hm
  refine aw_ial a 1 h0 rfl g5 (by decide +kernel) ?_
  obtain rfl := Option.some.inj hm
  subst hQ
  exact aw_iret rfl (Nat.zero_le _) (Nat.zero_le _) (by decide +kernel) ⟨rfl, hs⟩
def mX8_farOf : mt_ := (yX8_farOf, cX8_farOf, 3, some .int, [], { frames := 2, locals := 42, cells := 0, slots := 0 })
theorem ckX8_farOf : cokV_ mX8_farOf := ⟨⟨(uw_mem 1751 (by decide +kernel) (by decide +kernel)), (uw_mem 112 (by decide +kernel) (by decide +kernel)), by decide +kernel, by decide +kernel⟩, (uw_mem 1750 (by decide +kernel) (by decide +kernel)), (uw_mem 59 (by decide +kernel) (by decide +kernel))⟩
theorem nkX8_farOf : nok_ mX8_farOf 2 := by decide +kernel
theorem lkX8_267 : Cond.methodLink RX8 267 yX8_cylinderOf ∈ uw_ := (uw_mem 1744 (by decide +kernel) (by decide +kernel))
theorem mtX8_270 : ml_ RX8 270 Lib.Math.abs.name Lib.Math.abs.code 1 .int := ⟨(uw_mem 1752 (by decide +kernel) (by decide +kernel)), (uw_mem 873 (by decide +kernel) (by decide +kernel)), (uw_mem 113 (by decide +kernel) (by decide +kernel)), (uw_mem 874 (by decide +kernel) (by decide +kernel))⟩
def fX8_farOf (s : st_) (i0 : Int32) (i1 : Int32) : Option (Int32) :=
  bn_ (fX8_cylinderOf s i0 i1) fun r1 =>
  bn_ (fX8_armOf s i0 (0 : Int32)) fun r5 =>
  some (if (0 : Int32) ≤ (r1 - r5) then (r1 - r5) else (0 : Int32) - (r1 - r5))
set_option maxRecDepth 8000 in
theorem kX8_farOf {E : ev_} {H : Heap} {a : Nat} {s : st_} {i0 : Int32} {i1 : Int32} {r : Int32} (hm : fX8_farOf s i0 i1 = some r) (h0 : has_ E H a ly_O s) : sp_ E mX8_farOf [.ref a, .int i0, .int i1] H (po1 (.inl (some (.int r))) (fun Hn => sm_ H Hn 0 0)) := by
  refine sp_of (by decide +kernel) rfl rfl ?_
  generalize hQ : po1 _ _ = Q
  have hs : sm_ H H 0 0 := sm_.rfl'
  unfold fX8_farOf at hm
  refine aw_lv (lv' := [(0, .ref a), (1, .int i0), (2, .int i1)]) [0, 1, 2] rfl ?_
  refine aw_b (pc' := 3) (lv' := [(0, .ref a), (1, .int i0), (2, .int i1)]) (st' := [.int i1, .int i0, .ref a]) [(0, .aload_n 0, 1, .null), (1, .iload_n 1, 1, .null), (2, .iload_n 2, 1, .null)] (by decide +kernel) rfl ?_
  obtain ⟨r1, e2, hm⟩ := bn_x hm
  refine aw_cv (rest := []) (st1 := [.int r1]) a 0 (kX8_cylinderOf e2 h0) rfl rfl ckX8_cylinderOf lkX8_267 h0 eo_O_0 ⟨_, _, rfl⟩ nkX8_cylinderOf rfl rfl rfl (Nat.le_of_ble_eq_true rfl) (Nat.zero_le _) (Nat.zero_le _) (by decide +kernel) (fun H3 z4 => ?_)
  have h0 := h0.kept0 z4
  have hs := hs.step0 z4
  refine aw_b (pc' := 9) (lv' := [(0, .ref a), (1, .int i0), (2, .int i1)]) (st' := [.int (0 : Int32), .int i0, .ref a, .int r1]) [(6, .aload_n 0, 1, .null), (7, .iload_n 1, 1, .null), (8, .iconst 0, 1, .int (0 : Int32))] (by decide +kernel) rfl ?_
  obtain ⟨r5, e6, hm⟩ := bn_x hm
  refine aw_cv (rest := [.int r1]) (st1 := [.int r5, .int r1]) a 0 (kX8_armOf e6 h0) rfl rfl ckX8_armOf lkX8_232 h0 eo_O_0 ⟨_, _, rfl⟩ nkX8_armOf rfl rfl rfl (Nat.le_of_ble_eq_true rfl) (Nat.zero_le _) (Nat.zero_le _) (by decide +kernel) (fun H7 z8 => ?_)
  have h0 := h0.kept0 z8
  have hs := hs.step0 z8
  refine aw_b (pc' := 13) (lv' := [(0, .ref a), (1, .int i0), (2, .int i1)]) (st' := [.int (r1 - r5)]) [(12, .isub, 1, .null)] (by decide +kernel) rfl ?_
  refine aw_mab (rest := []) mtX8_270 rfl (Nat.le_of_ble_eq_true rfl) (Nat.zero_le _) (Nat.zero_le _) (by decide +kernel) ?_
  obtain rfl := Option.some.inj hm
  subst hQ
  exact aw_iret rfl (Nat.zero_le _) (Nat.zero_le _) (by decide +kernel) ⟨rfl, hs⟩
def mX8_nearestOn : mt_ := (yX8_nearestOn, cX8_nearestOn, 7, some .int, [], { frames := 3, locals := 64, cells := 0, slots := 0 })
theorem ckX8_nearestOn : cokV_ mX8_nearestOn := ⟨⟨(uw_mem 1743 (by decide +kernel) (by decide +kernel)), (uw_mem 112 (by decide +kernel) (by decide +kernel)), by decide +kernel, by decide +kernel⟩, (uw_mem 1742 (by decide +kernel) (by decide +kernel)), (uw_mem 57 (by decide +kernel) (by decide +kernel))⟩
theorem nkX8_nearestOn : nok_ mX8_nearestOn 2 := by decide +kernel
theorem lkX8_273 : Cond.methodLink RX8 273 yX8_farOf ∈ uw_ := (uw_mem 1748 (by decide +kernel) (by decide +kernel))
def fX8_nearestOn_x5_120 (v3_x5_120 : Int32) : Option (Int32) :=
  some v3_x5_120
def fX8_nearestOn_k5 (x : Int32) : Option (Int32) :=
  fX8_nearestOn_x5_120 x
def fX8_nearestOn_j114 (v4_b5 : Int32) (v3_j114 : Int32) : Option ((Int32 × Int32) ⊕ (Int32)) :=
  some (.inl (v3_j114, (v4_b5 + (1 : Int32))))
def fX8_nearestOn_j113 (v4_b5 : Int32) (z0_j113 : Int32) : Option ((Int32 × Int32) ⊕ (Int32)) :=
  fX8_nearestOn_j114 v4_b5 z0_j113
def fX8_nearestOn_j100 (v3_b5 : Int32) (v4_b5 : Int32) (z0_j100 : Int32) : Option ((Int32 × Int32) ⊕ (Int32)) :=
  if z0_j100 = (0 : Int32) then (fX8_nearestOn_j113 v4_b5 v3_b5)
  else (fX8_nearestOn_j113 v4_b5 v4_b5)
def fX8_nearestOn_j95 (v3_b5 : Int32) (v4_b5 : Int32) : Option ((Int32 × Int32) ⊕ (Int32)) :=
  fX8_nearestOn_j100 v3_b5 v4_b5 (1 : Int32)
def fX8_nearestOn_j99 (v3_b5 : Int32) (v4_b5 : Int32) : Option ((Int32 × Int32) ⊕ (Int32)) :=
  fX8_nearestOn_j100 v3_b5 v4_b5 (0 : Int32)
def fX8_nearestOn_b5 (s : st_) (i0 : Int32) (i1 : Int32) (v3_b5 : Int32) (v4_b5 : Int32) : Option ((Int32 × Int32) ⊕ (Int32)) :=
  bn_ (fX8_armOf s i0 (2 : Int32)) fun r1 =>
  if r1 ≤ v4_b5 then (some (.inr v3_b5))
  else (bn_ (fX8_cylinderOf s i0 v4_b5) fun r5 =>
  bn_ (fX8_armOf s i0 (0 : Int32)) fun r9 =>
  if (0 : Int32) ≤ ((r5 - r9) * i1) then (if v3_b5 = (-1 : Int32) then (fX8_nearestOn_j95 v3_b5 v4_b5)
  else (bn_ (fX8_farOf s i0 v4_b5) fun r13 =>
  bn_ (fX8_farOf s i0 v3_b5) fun r17 =>
  if r13 < r17 then (fX8_nearestOn_j95 v3_b5 v4_b5)
  else (bn_ (fX8_farOf s i0 v4_b5) fun r21 =>
  bn_ (fX8_farOf s i0 v3_b5) fun r25 =>
  if r21 = r25 then (bn_ (fX8_cylinderOf s i0 v4_b5) fun r29 =>
  bn_ (fX8_cylinderOf s i0 v3_b5) fun r33 =>
  if r33 ≤ r29 then (fX8_nearestOn_j99 v3_b5 v4_b5)
  else (fX8_nearestOn_j95 v3_b5 v4_b5))
  else (fX8_nearestOn_j99 v3_b5 v4_b5))))
  else (fX8_nearestOn_j114 v4_b5 v3_b5))
def fX8_nearestOn_l5 (s : st_) (i0 : Int32) (i1 : Int32) : Nat → (Int32 × Int32) → Option (Int32) :=
  it_ (fun v => fX8_nearestOn_b5 s i0 i1 v.1 v.2)
def fX8_nearestOn (s : st_) (i0 : Int32) (i1 : Int32) : Option (Int32) :=
  bn_ (fX8_nearestOn_l5 s i0 i1 FU_ ((-1 : Int32), (0 : Int32))) (fX8_nearestOn_k5)
set_option maxRecDepth 8000 in
theorem kX8_nearestOn {E : ev_} {H : Heap} {a : Nat} {s : st_} {i0 : Int32} {i1 : Int32} {r : Int32} (hm : fX8_nearestOn s i0 i1 = some r) (h0 : has_ E H a ly_O s) : sp_ E mX8_nearestOn [.ref a, .int i0, .int i1] H (po1 (.inl (some (.int r))) (fun Hn => sm_ H Hn 0 0)) := by
  refine sp_of (by decide +kernel) rfl rfl ?_
  generalize hQ : po1 _ _ = Q
  have hs : sm_ H H 0 0 := sm_.rfl'
  unfold fX8_nearestOn at hm
  refine aw_lv (lv' := [(0, .ref a), (1, .int i0), (2, .int i1)]) [0, 1, 2] rfl ?_
  refine aw_b (pc' := 5) (lv' := [(4, .int (0 : Int32)), (3, .int (-1 : Int32)), (0, .ref a), (1, .int i0), (2, .int i1)]) (st' := []) [(0, .iconst (-1), 1, .int (-1 : Int32)), (1, .istore_n 3, 1, .null), (2, .iconst 0, 1, .int (0 : Int32)), (3, .istore 4, 2, .null)] (by decide +kernel) rfl ?_
  obtain ⟨x5, hx5, hr5⟩ := bn_x hm
  have X5_120 : ∀ (v3_x5_120 : Int32) (H_x5_120 : Heap), has_ E H_x5_120 a ly_O s → sm_ H H_x5_120 0 0 → fX8_nearestOn_x5_120 v3_x5_120 = some r → aw E mX8_nearestOn Q 120 [(3, .int v3_x5_120)] [] H_x5_120 0 0 := by
    intro v3_x5_120 H_x5_120 h0 hs hm
    unfold fX8_nearestOn_x5_120 at hm
    refine aw_b (pc' := 121) (lv' := [(3, .int v3_x5_120)]) (st' := [.int v3_x5_120]) [(120, .iload_n 3, 1, .null)] (by decide +kernel) rfl ?_
    obtain rfl := Option.some.inj hm
    subst hQ
    exact aw_iret rfl (Nat.zero_le _) (Nat.zero_le _) (by decide +kernel) ⟨rfl, hs⟩
  have L5 : ∀ (fu : Nat) (v3_b5 : Int32) (v4_b5 : Int32) (H_b5 : Heap), has_ E H_b5 a ly_O s → sm_ H H_b5 0 0 → fX8_nearestOn_l5 s i0 i1 fu (v3_b5, v4_b5) = some x5 → aw E mX8_nearestOn Q 5 [(0, .ref a), (1, .int i0), (2, .int i1), (3, .int v3_b5), (4, .int v4_b5)] [] H_b5 0 0 := by
    intro fu
    induction fu with
    | zero =>
      intro v3_b5 v4_b5 H_b5 h0 hs hm
      exact (it_0 hm).elim
    | succ fu ih5 =>
      intro v3_b5 v4_b5 H_b5 h0 hs hm
      obtain ⟨y5, hm, hk5⟩ := it_s hm
      have hm : fX8_nearestOn_b5 s i0 i1 v3_b5 v4_b5 = some y5 := hm
      unfold fX8_nearestOn_b5 at hm
      refine aw_b (pc' := 10) (lv' := [(0, .ref a), (1, .int i0), (2, .int i1), (3, .int v3_b5), (4, .int v4_b5)]) (st' := [.int (2 : Int32), .int i0, .ref a, .int v4_b5]) [(5, .iload 4, 2, .null), (7, .aload_n 0, 1, .null), (8, .iload_n 1, 1, .null), (9, .iconst 2, 1, .int (2 : Int32))] (by decide +kernel) rfl ?_
      obtain ⟨r1, e2, hm⟩ := bn_x hm
      refine aw_cv (rest := [.int v4_b5]) (st1 := [.int r1, .int v4_b5]) a 0 (kX8_armOf e2 h0) rfl rfl ckX8_armOf lkX8_232 h0 eo_O_0 ⟨_, _, rfl⟩ nkX8_armOf rfl rfl rfl (Nat.le_of_ble_eq_true rfl) (Nat.zero_le _) (Nat.zero_le _) (by decide +kernel) (fun H3 z4 => ?_)
      have h0 := h0.kept0 z4
      have hs := hs.step0 z4
      refine aw_ic_ge (off := 107) 120 (by decide) (by decide +kernel) (fun hc => ?_) (fun hc => ?_)
      · have hm := (if_pos hc).symm.trans hm
        cases hm
        refine aw_lv (lv' := [(3, .int v3_b5)]) [3] rfl ?_
        exact X5_120 v3_b5 H3 h0 hs ((congrArg fX8_nearestOn_k5 (show (v3_b5) = x5 from hk5)).trans hr5)
      · have hm := (if_neg hc).symm.trans hm
        refine aw_b (pc' := 20) (lv' := [(0, .ref a), (1, .int i0), (2, .int i1), (3, .int v3_b5), (4, .int v4_b5)]) (st' := [.int v4_b5, .int i0, .ref a]) [(16, .aload_n 0, 1, .null), (17, .iload_n 1, 1, .null), (18, .iload 4, 2, .null)] (by decide +kernel) rfl ?_
        obtain ⟨r5, e6, hm⟩ := bn_x hm
        refine aw_cv (rest := []) (st1 := [.int r5]) a 0 (kX8_cylinderOf e6 h0) rfl rfl ckX8_cylinderOf lkX8_267 h0 eo_O_0 ⟨_, _, rfl⟩ nkX8_cylinderOf rfl rfl rfl (Nat.le_of_ble_eq_true rfl) (Nat.zero_le _) (Nat.zero_le _) (by decide +kernel) (fun H7 z8 => ?_)
        have h0 := h0.kept0 z8
        have hs := hs.step0 z8
        refine aw_b (pc' := 26) (lv' := [(0, .ref a), (1, .int i0), (2, .int i1), (3, .int v3_b5), (4, .int v4_b5)]) (st' := [.int (0 : Int32), .int i0, .ref a, .int r5]) [(23, .aload_n 0, 1, .null), (24, .iload_n 1, 1, .null), (25, .iconst 0, 1, .int (0 : Int32))] (by decide +kernel) rfl ?_
        obtain ⟨r9, e10, hm⟩ := bn_x hm
        refine aw_cv (rest := [.int r5]) (st1 := [.int r9, .int r5]) a 0 (kX8_armOf e10 h0) rfl rfl ckX8_armOf lkX8_232 h0 eo_O_0 ⟨_, _, rfl⟩ nkX8_armOf rfl rfl rfl (Nat.le_of_ble_eq_true rfl) (Nat.zero_le _) (Nat.zero_le _) (by decide +kernel) (fun H11 z12 => ?_)
        have h0 := h0.kept0 z12
        have hs := hs.step0 z12
        refine aw_b (pc' := 36) (lv' := [(5, .int (r5 - r9)), (0, .ref a), (1, .int i0), (2, .int i1), (3, .int v3_b5), (4, .int v4_b5)]) (st' := [.int ((r5 - r9) * i1)]) [(29, .isub, 1, .null), (30, .istore 5, 2, .null), (32, .iload 5, 2, .null), (34, .iload_n 2, 1, .null), (35, .imul, 1, .null)] (by decide +kernel) rfl ?_
        have J114 : ∀ (v3_j114 : Int32) (H_j114 : Heap), has_ E H_j114 a ly_O s → sm_ H H_j114 0 0 → fX8_nearestOn_j114 v4_b5 v3_j114 = some y5 → aw E mX8_nearestOn Q 114 [(0, .ref a), (1, .int i0), (2, .int i1), (3, .int v3_j114), (4, .int v4_b5)] [] H_j114 0 0 := by
          intro v3_j114 H_j114 h0 hs hm
          unfold fX8_nearestOn_j114 at hm
          refine aw_b (pc' := 5) (lv' := [(4, .int (v4_b5 + (1 : Int32))), (0, .ref a), (1, .int i0), (2, .int i1), (3, .int v3_j114)]) (st' := []) [(114, .iinc 4 1, 3, .int (1 : Int32)), (117, .goto (-112), 3, .null)] (by decide +kernel) rfl ?_
          cases hm
          refine aw_lv (lv' := [(0, .ref a), (1, .int i0), (2, .int i1), (3, .int v3_j114), (4, .int (v4_b5 + (1 : Int32)))]) [1, 2, 3, 4, 0] rfl ?_
          exact ih5 v3_j114 (v4_b5 + (1 : Int32)) H_j114 h0 hs hk5
        refine aw_if_ge (off := 6) 42 (by decide) (by decide +kernel) (fun hc => ?_) (fun hc => ?_)
        · have hm := (if_pos hc).symm.trans hm
          refine aw_b (pc' := 44) (lv' := [(5, .int (r5 - r9)), (0, .ref a), (1, .int i0), (2, .int i1), (3, .int v3_b5), (4, .int v4_b5)]) (st' := [.int (-1 : Int32), .int v3_b5]) [(42, .iload_n 3, 1, .null), (43, .iconst (-1), 1, .int (-1 : Int32))] (by decide +kernel) rfl ?_
          have J100 : ∀ (z0_j100 : Int32) (H_j100 : Heap), has_ E H_j100 a ly_O s → sm_ H H_j100 0 0 → fX8_nearestOn_j100 v3_b5 v4_b5 z0_j100 = some y5 → aw E mX8_nearestOn Q 100 [(0, .ref a), (1, .int i0), (2, .int i1), (3, .int v3_b5), (4, .int v4_b5)] [.int z0_j100] H_j100 0 0 := by
            intro z0_j100 H_j100 h0 hs hm
            unfold fX8_nearestOn_j100 at hm
            refine aw_b (pc' := 104) (lv' := [(6, .int z0_j100), (0, .ref a), (1, .int i0), (2, .int i1), (3, .int v3_b5), (4, .int v4_b5)]) (st' := [.int z0_j100]) [(100, .istore 6, 2, .null), (102, .iload 6, 2, .null)] (by decide +kernel) rfl ?_
            have J113 : ∀ (z0_j113 : Int32) (H_j113 : Heap), has_ E H_j113 a ly_O s → sm_ H H_j113 0 0 → fX8_nearestOn_j113 v4_b5 z0_j113 = some y5 → aw E mX8_nearestOn Q 113 [(0, .ref a), (1, .int i0), (2, .int i1), (4, .int v4_b5)] [.int z0_j113] H_j113 0 0 := by
              intro z0_j113 H_j113 h0 hs hm
              unfold fX8_nearestOn_j113 at hm
              refine aw_b (pc' := 114) (lv' := [(3, .int z0_j113), (0, .ref a), (1, .int i0), (2, .int i1), (4, .int v4_b5)]) (st' := []) [(113, .istore_n 3, 1, .null)] (by decide +kernel) rfl ?_
              refine aw_lv (lv' := [(0, .ref a), (1, .int i0), (2, .int i1), (3, .int z0_j113), (4, .int v4_b5)]) [1, 2, 3, 0, 4] rfl ?_
              exact J114 z0_j113 H_j113 h0 hs hm
            refine aw_if_eq (off := 8) 112 (by decide) (by decide +kernel) (fun hc => ?_) (fun hc => ?_)
            · have hm := (if_pos hc).symm.trans hm
              refine aw_b (pc' := 113) (lv' := [(6, .int z0_j100), (0, .ref a), (1, .int i0), (2, .int i1), (3, .int v3_b5), (4, .int v4_b5)]) (st' := [.int v3_b5]) [(112, .iload_n 3, 1, .null)] (by decide +kernel) rfl ?_
              refine aw_lv (lv' := [(0, .ref a), (1, .int i0), (2, .int i1), (4, .int v4_b5)]) [1, 2, 3, 5] rfl ?_
              exact J113 v3_b5 H_j100 h0 hs hm
            · have hm := (if_neg hc).symm.trans hm
              refine aw_b (pc' := 113) (lv' := [(6, .int z0_j100), (0, .ref a), (1, .int i0), (2, .int i1), (3, .int v3_b5), (4, .int v4_b5)]) (st' := [.int v4_b5]) [(107, .iload 4, 2, .null), (109, .goto 4, 3, .null)] (by decide +kernel) rfl ?_
              refine aw_lv (lv' := [(0, .ref a), (1, .int i0), (2, .int i1), (4, .int v4_b5)]) [1, 2, 3, 5] rfl ?_
              exact J113 v4_b5 H_j100 h0 hs hm
          have J95 : ∀ (H_j95 : Heap), has_ E H_j95 a ly_O s → sm_ H H_j95 0 0 → fX8_nearestOn_j95 v3_b5 v4_b5 = some y5 → aw E mX8_nearestOn Q 95 [(0, .ref a), (1, .int i0), (2, .int i1), (3, .int v3_b5), (4, .int v4_b5)] [] H_j95 0 0 := by
            intro H_j95 h0 hs hm
            unfold fX8_nearestOn_j95 at hm
            refine aw_b (pc' := 100) (lv' := [(0, .ref a), (1, .int i0), (2, .int i1), (3, .int v3_b5), (4, .int v4_b5)]) (st' := [.int (1 : Int32)]) [(95, .iconst 1, 1, .int (1 : Int32)), (96, .goto 4, 3, .null)] (by decide +kernel) rfl ?_
            exact J100 (1 : Int32) H_j95 h0 hs hm
          refine aw_ic_eq (off := 51) 95 (by decide) (by decide +kernel) (fun hc => ?_) (fun hc => ?_)
          · have hm := (if_pos hc).symm.trans hm
            refine aw_lv (lv' := [(0, .ref a), (1, .int i0), (2, .int i1), (3, .int v3_b5), (4, .int v4_b5)]) [1, 2, 3, 4, 5] rfl ?_
            exact J95 H11 h0 hs hm
          · have hm := (if_neg hc).symm.trans hm
            refine aw_b (pc' := 51) (lv' := [(5, .int (r5 - r9)), (0, .ref a), (1, .int i0), (2, .int i1), (3, .int v3_b5), (4, .int v4_b5)]) (st' := [.int v4_b5, .int i0, .ref a]) [(47, .aload_n 0, 1, .null), (48, .iload_n 1, 1, .null), (49, .iload 4, 2, .null)] (by decide +kernel) rfl ?_
            obtain ⟨r13, e14, hm⟩ := bn_x hm
            refine aw_cv (rest := []) (st1 := [.int r13]) a 0 (kX8_farOf e14 h0) rfl rfl ckX8_farOf lkX8_273 h0 eo_O_0 ⟨_, _, rfl⟩ nkX8_farOf rfl rfl rfl (Nat.le_of_ble_eq_true rfl) (Nat.zero_le _) (Nat.zero_le _) (by decide +kernel) (fun H15 z16 => ?_)
            have h0 := h0.kept0 z16
            have hs := hs.step0 z16
            refine aw_b (pc' := 57) (lv' := [(5, .int (r5 - r9)), (0, .ref a), (1, .int i0), (2, .int i1), (3, .int v3_b5), (4, .int v4_b5)]) (st' := [.int v3_b5, .int i0, .ref a, .int r13]) [(54, .aload_n 0, 1, .null), (55, .iload_n 1, 1, .null), (56, .iload_n 3, 1, .null)] (by decide +kernel) rfl ?_
            obtain ⟨r17, e18, hm⟩ := bn_x hm
            refine aw_cv (rest := [.int r13]) (st1 := [.int r17, .int r13]) a 0 (kX8_farOf e18 h0) rfl rfl ckX8_farOf lkX8_273 h0 eo_O_0 ⟨_, _, rfl⟩ nkX8_farOf rfl rfl rfl (Nat.le_of_ble_eq_true rfl) (Nat.zero_le _) (Nat.zero_le _) (by decide +kernel) (fun H19 z20 => ?_)
            have h0 := h0.kept0 z20
            have hs := hs.step0 z20
            refine aw_ic_lt (off := 35) 95 (by decide) (by decide +kernel) (fun hc => ?_) (fun hc => ?_)
            · have hm := (if_pos hc).symm.trans hm
              refine aw_lv (lv' := [(0, .ref a), (1, .int i0), (2, .int i1), (3, .int v3_b5), (4, .int v4_b5)]) [1, 2, 3, 4, 5] rfl ?_
              exact J95 H19 h0 hs hm
            · have hm := (if_neg hc).symm.trans hm
              refine aw_b (pc' := 67) (lv' := [(5, .int (r5 - r9)), (0, .ref a), (1, .int i0), (2, .int i1), (3, .int v3_b5), (4, .int v4_b5)]) (st' := [.int v4_b5, .int i0, .ref a]) [(63, .aload_n 0, 1, .null), (64, .iload_n 1, 1, .null), (65, .iload 4, 2, .null)] (by decide +kernel) rfl ?_
              obtain ⟨r21, e22, hm⟩ := bn_x hm
              refine aw_cv (rest := []) (st1 := [.int r21]) a 0 (kX8_farOf e22 h0) rfl rfl ckX8_farOf lkX8_273 h0 eo_O_0 ⟨_, _, rfl⟩ nkX8_farOf rfl rfl rfl (Nat.le_of_ble_eq_true rfl) (Nat.zero_le _) (Nat.zero_le _) (by decide +kernel) (fun H23 z24 => ?_)
              have h0 := h0.kept0 z24
              have hs := hs.step0 z24
              refine aw_b (pc' := 73) (lv' := [(5, .int (r5 - r9)), (0, .ref a), (1, .int i0), (2, .int i1), (3, .int v3_b5), (4, .int v4_b5)]) (st' := [.int v3_b5, .int i0, .ref a, .int r21]) [(70, .aload_n 0, 1, .null), (71, .iload_n 1, 1, .null), (72, .iload_n 3, 1, .null)] (by decide +kernel) rfl ?_
              obtain ⟨r25, e26, hm⟩ := bn_x hm
              refine aw_cv (rest := [.int r21]) (st1 := [.int r25, .int r21]) a 0 (kX8_farOf e26 h0) rfl rfl ckX8_farOf lkX8_273 h0 eo_O_0 ⟨_, _, rfl⟩ nkX8_farOf rfl rfl rfl (Nat.le_of_ble_eq_true rfl) (Nat.zero_le _) (Nat.zero_le _) (by decide +kernel) (fun H27 z28 => ?_)
              have h0 := h0.kept0 z28
              have hs := hs.step0 z28
              have J99 : ∀ (H_j99 : Heap), has_ E H_j99 a ly_O s → sm_ H H_j99 0 0 → fX8_nearestOn_j99 v3_b5 v4_b5 = some y5 → aw E mX8_nearestOn Q 99 [(0, .ref a), (1, .int i0), (2, .int i1), (3, .int v3_b5), (4, .int v4_b5)] [] H_j99 0 0 := by
                intro H_j99 h0 hs hm
                unfold fX8_nearestOn_j99 at hm
                refine aw_b (pc' := 100) (lv' := [(0, .ref a), (1, .int i0), (2, .int i1), (3, .int v3_b5), (4, .int v4_b5)]) (st' := [.int (0 : Int32)]) [(99, .iconst 0, 1, .int (0 : Int32))] (by decide +kernel) rfl ?_
                exact J100 (0 : Int32) H_j99 h0 hs hm
              refine aw_ic_ne (off := 23) 99 (by decide) (by decide +kernel) (fun hc => ?_) (fun hc => ?_)
              · have hm := (if_neg hc).symm.trans hm
                refine aw_lv (lv' := [(0, .ref a), (1, .int i0), (2, .int i1), (3, .int v3_b5), (4, .int v4_b5)]) [1, 2, 3, 4, 5] rfl ?_
                exact J99 H27 h0 hs hm
              · have hm := (if_pos hc).symm.trans hm
                refine aw_b (pc' := 83) (lv' := [(5, .int (r5 - r9)), (0, .ref a), (1, .int i0), (2, .int i1), (3, .int v3_b5), (4, .int v4_b5)]) (st' := [.int v4_b5, .int i0, .ref a]) [(79, .aload_n 0, 1, .null), (80, .iload_n 1, 1, .null), (81, .iload 4, 2, .null)] (by decide +kernel) rfl ?_
                obtain ⟨r29, e30, hm⟩ := bn_x hm
                refine aw_cv (rest := []) (st1 := [.int r29]) a 0 (kX8_cylinderOf e30 h0) rfl rfl ckX8_cylinderOf lkX8_267 h0 eo_O_0 ⟨_, _, rfl⟩ nkX8_cylinderOf rfl rfl rfl (Nat.le_of_ble_eq_true rfl) (Nat.zero_le _) (Nat.zero_le _) (by decide +kernel) (fun H31 z32 => ?_)
                have h0 := h0.kept0 z32
                have hs := hs.step0 z32
                refine aw_b (pc' := 89) (lv' := [(5, .int (r5 - r9)), (0, .ref a), (1, .int i0), (2, .int i1), (3, .int v3_b5), (4, .int v4_b5)]) (st' := [.int v3_b5, .int i0, .ref a, .int r29]) [(86, .aload_n 0, 1, .null), (87, .iload_n 1, 1, .null), (88, .iload_n 3, 1, .null)] (by decide +kernel) rfl ?_
                obtain ⟨r33, e34, hm⟩ := bn_x hm
                refine aw_cv (rest := [.int r29]) (st1 := [.int r33, .int r29]) a 0 (kX8_cylinderOf e34 h0) rfl rfl ckX8_cylinderOf lkX8_267 h0 eo_O_0 ⟨_, _, rfl⟩ nkX8_cylinderOf rfl rfl rfl (Nat.le_of_ble_eq_true rfl) (Nat.zero_le _) (Nat.zero_le _) (by decide +kernel) (fun H35 z36 => ?_)
                have h0 := h0.kept0 z36
                have hs := hs.step0 z36
                refine aw_ic_ge (off := 7) 99 (by decide) (by decide +kernel) (fun hc => ?_) (fun hc => ?_)
                · have hm := (if_pos hc).symm.trans hm
                  refine aw_lv (lv' := [(0, .ref a), (1, .int i0), (2, .int i1), (3, .int v3_b5), (4, .int v4_b5)]) [1, 2, 3, 4, 5] rfl ?_
                  exact J99 H35 h0 hs hm
                · have hm := (if_neg hc).symm.trans hm
                  refine aw_lv (lv' := [(0, .ref a), (1, .int i0), (2, .int i1), (3, .int v3_b5), (4, .int v4_b5)]) [1, 2, 3, 4, 5] rfl ?_
                  exact J95 H35 h0 hs hm
        · have hm := (if_neg hc).symm.trans hm
          refine aw_b (pc' := 114) (lv' := [(5, .int (r5 - r9)), (0, .ref a), (1, .int i0), (2, .int i1), (3, .int v3_b5), (4, .int v4_b5)]) (st' := []) [(39, .goto 75, 3, .null)] (by decide +kernel) rfl ?_
          refine aw_lv (lv' := [(0, .ref a), (1, .int i0), (2, .int i1), (3, .int v3_b5), (4, .int v4_b5)]) [1, 2, 3, 4, 5] rfl ?_
          exact J114 v3_b5 H11 h0 hs hm
  refine aw_lv (lv' := [(0, .ref a), (1, .int i0), (2, .int i1), (3, .int (-1 : Int32)), (4, .int (0 : Int32))]) [2, 3, 4, 1, 0] rfl ?_
  exact L5 FU_ (-1 : Int32) (0 : Int32) H h0 hs hx5
def mX8_lowestOf : mt_ := (yX8_lowestOf, cX8_lowestOf, 4, some .int, [], { frames := 2, locals := 42, cells := 0, slots := 0 })
theorem ckX8_lowestOf : cokV_ mX8_lowestOf := ⟨⟨(uw_mem 1760 (by decide +kernel) (by decide +kernel)), (uw_mem 112 (by decide +kernel) (by decide +kernel)), by decide +kernel, by decide +kernel⟩, (uw_mem 1759 (by decide +kernel) (by decide +kernel)), (uw_mem 61 (by decide +kernel) (by decide +kernel))⟩
theorem nkX8_lowestOf : nok_ mX8_lowestOf 1 := by decide +kernel
def fX8_lowestOf_x4_41 (v2_x4_41 : Int32) : Option (Int32) :=
  some v2_x4_41
def fX8_lowestOf_k4 (x : Int32) : Option (Int32) :=
  fX8_lowestOf_x4_41 x
def fX8_lowestOf_j34 (v3_b4 : Int32) (z0_j34 : Int32) : Option ((Int32 × Int32) ⊕ (Int32)) :=
  some (.inl (z0_j34, (v3_b4 + (1 : Int32))))
def fX8_lowestOf_b4 (s : st_) (i0 : Int32) (v2_b4 : Int32) (v3_b4 : Int32) : Option ((Int32 × Int32) ⊕ (Int32)) :=
  bn_ (fX8_armOf s i0 (2 : Int32)) fun r1 =>
  if r1 ≤ v3_b4 then (some (.inr v2_b4))
  else (bn_ (fX8_cylinderOf s i0 v3_b4) fun r5 =>
  bn_ (fX8_cylinderOf s i0 v2_b4) fun r9 =>
  if r9 ≤ r5 then (fX8_lowestOf_j34 v3_b4 v2_b4)
  else (fX8_lowestOf_j34 v3_b4 v3_b4))
def fX8_lowestOf_l4 (s : st_) (i0 : Int32) : Nat → (Int32 × Int32) → Option (Int32) :=
  it_ (fun v => fX8_lowestOf_b4 s i0 v.1 v.2)
def fX8_lowestOf (s : st_) (i0 : Int32) : Option (Int32) :=
  bn_ (fX8_lowestOf_l4 s i0 FU_ ((0 : Int32), (1 : Int32))) (fX8_lowestOf_k4)
set_option maxRecDepth 8000 in
theorem kX8_lowestOf {E : ev_} {H : Heap} {a : Nat} {s : st_} {i0 : Int32} {r : Int32} (hm : fX8_lowestOf s i0 = some r) (h0 : has_ E H a ly_O s) : sp_ E mX8_lowestOf [.ref a, .int i0] H (po1 (.inl (some (.int r))) (fun Hn => sm_ H Hn 0 0)) := by
  refine sp_of (by decide +kernel) rfl rfl ?_
  generalize hQ : po1 _ _ = Q
  have hs : sm_ H H 0 0 := sm_.rfl'
  unfold fX8_lowestOf at hm
  refine aw_lv (lv' := [(0, .ref a), (1, .int i0)]) [0, 1] rfl ?_
  refine aw_b (pc' := 4) (lv' := [(3, .int (1 : Int32)), (2, .int (0 : Int32)), (0, .ref a), (1, .int i0)]) (st' := []) [(0, .iconst 0, 1, .int (0 : Int32)), (1, .istore_n 2, 1, .null), (2, .iconst 1, 1, .int (1 : Int32)), (3, .istore_n 3, 1, .null)] (by decide +kernel) rfl ?_
  obtain ⟨x4, hx4, hr4⟩ := bn_x hm
  have X4_41 : ∀ (v2_x4_41 : Int32) (H_x4_41 : Heap), has_ E H_x4_41 a ly_O s → sm_ H H_x4_41 0 0 → fX8_lowestOf_x4_41 v2_x4_41 = some r → aw E mX8_lowestOf Q 41 [(2, .int v2_x4_41)] [] H_x4_41 0 0 := by
    intro v2_x4_41 H_x4_41 h0 hs hm
    unfold fX8_lowestOf_x4_41 at hm
    refine aw_b (pc' := 42) (lv' := [(2, .int v2_x4_41)]) (st' := [.int v2_x4_41]) [(41, .iload_n 2, 1, .null)] (by decide +kernel) rfl ?_
    obtain rfl := Option.some.inj hm
    subst hQ
    exact aw_iret rfl (Nat.zero_le _) (Nat.zero_le _) (by decide +kernel) ⟨rfl, hs⟩
  have L4 : ∀ (fu : Nat) (v2_b4 : Int32) (v3_b4 : Int32) (H_b4 : Heap), has_ E H_b4 a ly_O s → sm_ H H_b4 0 0 → fX8_lowestOf_l4 s i0 fu (v2_b4, v3_b4) = some x4 → aw E mX8_lowestOf Q 4 [(0, .ref a), (1, .int i0), (2, .int v2_b4), (3, .int v3_b4)] [] H_b4 0 0 := by
    intro fu
    induction fu with
    | zero =>
      intro v2_b4 v3_b4 H_b4 h0 hs hm
      exact (it_0 hm).elim
    | succ fu ih4 =>
      intro v2_b4 v3_b4 H_b4 h0 hs hm
      obtain ⟨y4, hm, hk4⟩ := it_s hm
      have hm : fX8_lowestOf_b4 s i0 v2_b4 v3_b4 = some y4 := hm
      unfold fX8_lowestOf_b4 at hm
      refine aw_b (pc' := 8) (lv' := [(0, .ref a), (1, .int i0), (2, .int v2_b4), (3, .int v3_b4)]) (st' := [.int (2 : Int32), .int i0, .ref a, .int v3_b4]) [(4, .iload_n 3, 1, .null), (5, .aload_n 0, 1, .null), (6, .iload_n 1, 1, .null), (7, .iconst 2, 1, .int (2 : Int32))] (by decide +kernel) rfl ?_
      obtain ⟨r1, e2, hm⟩ := bn_x hm
      refine aw_cv (rest := [.int v3_b4]) (st1 := [.int r1, .int v3_b4]) a 0 (kX8_armOf e2 h0) rfl rfl ckX8_armOf lkX8_232 h0 eo_O_0 ⟨_, _, rfl⟩ nkX8_armOf rfl rfl rfl (Nat.le_of_ble_eq_true rfl) (Nat.zero_le _) (Nat.zero_le _) (by decide +kernel) (fun H3 z4 => ?_)
      have h0 := h0.kept0 z4
      have hs := hs.step0 z4
      refine aw_ic_ge (off := 30) 41 (by decide) (by decide +kernel) (fun hc => ?_) (fun hc => ?_)
      · have hm := (if_pos hc).symm.trans hm
        cases hm
        refine aw_lv (lv' := [(2, .int v2_b4)]) [2] rfl ?_
        exact X4_41 v2_b4 H3 h0 hs ((congrArg fX8_lowestOf_k4 (show (v2_b4) = x4 from hk4)).trans hr4)
      · have hm := (if_neg hc).symm.trans hm
        refine aw_b (pc' := 17) (lv' := [(0, .ref a), (1, .int i0), (2, .int v2_b4), (3, .int v3_b4)]) (st' := [.int v3_b4, .int i0, .ref a]) [(14, .aload_n 0, 1, .null), (15, .iload_n 1, 1, .null), (16, .iload_n 3, 1, .null)] (by decide +kernel) rfl ?_
        obtain ⟨r5, e6, hm⟩ := bn_x hm
        refine aw_cv (rest := []) (st1 := [.int r5]) a 0 (kX8_cylinderOf e6 h0) rfl rfl ckX8_cylinderOf lkX8_267 h0 eo_O_0 ⟨_, _, rfl⟩ nkX8_cylinderOf rfl rfl rfl (Nat.le_of_ble_eq_true rfl) (Nat.zero_le _) (Nat.zero_le _) (by decide +kernel) (fun H7 z8 => ?_)
        have h0 := h0.kept0 z8
        have hs := hs.step0 z8
        refine aw_b (pc' := 23) (lv' := [(0, .ref a), (1, .int i0), (2, .int v2_b4), (3, .int v3_b4)]) (st' := [.int v2_b4, .int i0, .ref a, .int r5]) [(20, .aload_n 0, 1, .null), (21, .iload_n 1, 1, .null), (22, .iload_n 2, 1, .null)] (by decide +kernel) rfl ?_
        obtain ⟨r9, e10, hm⟩ := bn_x hm
        refine aw_cv (rest := [.int r5]) (st1 := [.int r9, .int r5]) a 0 (kX8_cylinderOf e10 h0) rfl rfl ckX8_cylinderOf lkX8_267 h0 eo_O_0 ⟨_, _, rfl⟩ nkX8_cylinderOf rfl rfl rfl (Nat.le_of_ble_eq_true rfl) (Nat.zero_le _) (Nat.zero_le _) (by decide +kernel) (fun H11 z12 => ?_)
        have h0 := h0.kept0 z12
        have hs := hs.step0 z12
        have J34 : ∀ (z0_j34 : Int32) (H_j34 : Heap), has_ E H_j34 a ly_O s → sm_ H H_j34 0 0 → fX8_lowestOf_j34 v3_b4 z0_j34 = some y4 → aw E mX8_lowestOf Q 34 [(0, .ref a), (1, .int i0), (3, .int v3_b4)] [.int z0_j34] H_j34 0 0 := by
          intro z0_j34 H_j34 h0 hs hm
          unfold fX8_lowestOf_j34 at hm
          refine aw_b (pc' := 4) (lv' := [(3, .int (v3_b4 + (1 : Int32))), (2, .int z0_j34), (0, .ref a), (1, .int i0)]) (st' := []) [(34, .istore_n 2, 1, .null), (35, .iinc 3 1, 3, .int (1 : Int32)), (38, .goto (-34), 3, .null)] (by decide +kernel) rfl ?_
          cases hm
          refine aw_lv (lv' := [(0, .ref a), (1, .int i0), (2, .int z0_j34), (3, .int (v3_b4 + (1 : Int32)))]) [2, 3, 1, 0] rfl ?_
          exact ih4 z0_j34 (v3_b4 + (1 : Int32)) H_j34 h0 hs hk4
        refine aw_ic_ge (off := 7) 33 (by decide) (by decide +kernel) (fun hc => ?_) (fun hc => ?_)
        · have hm := (if_pos hc).symm.trans hm
          refine aw_b (pc' := 34) (lv' := [(0, .ref a), (1, .int i0), (2, .int v2_b4), (3, .int v3_b4)]) (st' := [.int v2_b4]) [(33, .iload_n 2, 1, .null)] (by decide +kernel) rfl ?_
          refine aw_lv (lv' := [(0, .ref a), (1, .int i0), (3, .int v3_b4)]) [0, 1, 3] rfl ?_
          exact J34 v2_b4 H11 h0 hs hm
        · have hm := (if_neg hc).symm.trans hm
          refine aw_b (pc' := 34) (lv' := [(0, .ref a), (1, .int i0), (2, .int v2_b4), (3, .int v3_b4)]) (st' := [.int v3_b4]) [(29, .iload_n 3, 1, .null), (30, .goto 4, 3, .null)] (by decide +kernel) rfl ?_
          refine aw_lv (lv' := [(0, .ref a), (1, .int i0), (3, .int v3_b4)]) [0, 1, 3] rfl ?_
          exact J34 v3_b4 H11 h0 hs hm
  refine aw_lv (lv' := [(0, .ref a), (1, .int i0), (2, .int (0 : Int32)), (3, .int (1 : Int32))]) [2, 3, 1, 0] rfl ?_
  exact L4 FU_ (0 : Int32) (1 : Int32) H h0 hs hx4
def mX8_within : mt_ := (yX8_within, cX8_within, 4, some .int, [], { frames := 3, locals := 64, cells := 0, slots := 0 })
theorem ckX8_within : cokV_ mX8_within := ⟨⟨(uw_mem 1764 (by decide +kernel) (by decide +kernel)), (uw_mem 112 (by decide +kernel) (by decide +kernel)), by decide +kernel, by decide +kernel⟩, (uw_mem 1763 (by decide +kernel) (by decide +kernel)), (uw_mem 62 (by decide +kernel) (by decide +kernel))⟩
theorem nkX8_within : nok_ mX8_within 2 := by decide +kernel
def fX8_within_x2_28 (s : st_) (i0 : Int32) (v3_x2_28 : Int32) : Option (Int32) :=
  bn_ (fX8_armOf s i0 (2 : Int32)) fun r1 =>
  if r1 ≤ v3_x2_28 then (some (0 : Int32))
  else (some v3_x2_28)
def fX8_within_k2 (s : st_) (i0 : Int32) (x : Int32) : Option (Int32) :=
  fX8_within_x2_28 s i0 x
def fX8_within_b2 (s : st_) (i0 : Int32) (i1 : Int32) (v3_b2 : Int32) : Option ((Int32) ⊕ (Int32)) :=
  bn_ (fX8_armOf s i0 (2 : Int32)) fun r5 =>
  if r5 ≤ v3_b2 then (some (.inr v3_b2))
  else (bn_ (fX8_farOf s i0 v3_b2) fun r9 =>
  if r9 ≤ i1 then (some (.inr v3_b2))
  else (some (.inl (v3_b2 + (1 : Int32)))))
def fX8_within_l2 (s : st_) (i0 : Int32) (i1 : Int32) : Nat → Int32 → Option (Int32) :=
  it_ (fun v => fX8_within_b2 s i0 i1 v)
def fX8_within (s : st_) (i0 : Int32) (i1 : Int32) : Option (Int32) :=
  bn_ (fX8_within_l2 s i0 i1 FU_ (0 : Int32)) (fX8_within_k2 s i0)
set_option maxRecDepth 8000 in
theorem kX8_within {E : ev_} {H : Heap} {a : Nat} {s : st_} {i0 : Int32} {i1 : Int32} {r : Int32} (hm : fX8_within s i0 i1 = some r) (h0 : has_ E H a ly_O s) : sp_ E mX8_within [.ref a, .int i0, .int i1] H (po1 (.inl (some (.int r))) (fun Hn => sm_ H Hn 0 0)) := by
  refine sp_of (by decide +kernel) rfl rfl ?_
  generalize hQ : po1 _ _ = Q
  have hs : sm_ H H 0 0 := sm_.rfl'
  unfold fX8_within at hm
  refine aw_lv (lv' := [(0, .ref a), (1, .int i0), (2, .int i1)]) [0, 1, 2] rfl ?_
  refine aw_b (pc' := 2) (lv' := [(3, .int (0 : Int32)), (0, .ref a), (1, .int i0), (2, .int i1)]) (st' := []) [(0, .iconst 0, 1, .int (0 : Int32)), (1, .istore_n 3, 1, .null)] (by decide +kernel) rfl ?_
  obtain ⟨x2, hx2, hr2⟩ := bn_x hm
  have X2_28 : ∀ (v3_x2_28 : Int32) (H_x2_28 : Heap), has_ E H_x2_28 a ly_O s → sm_ H H_x2_28 0 0 → fX8_within_x2_28 s i0 v3_x2_28 = some r → aw E mX8_within Q 28 [(0, .ref a), (1, .int i0), (3, .int v3_x2_28)] [] H_x2_28 0 0 := by
    intro v3_x2_28 H_x2_28 h0 hs hm
    unfold fX8_within_x2_28 at hm
    refine aw_b (pc' := 32) (lv' := [(0, .ref a), (1, .int i0), (3, .int v3_x2_28)]) (st' := [.int (2 : Int32), .int i0, .ref a, .int v3_x2_28]) [(28, .iload_n 3, 1, .null), (29, .aload_n 0, 1, .null), (30, .iload_n 1, 1, .null), (31, .iconst 2, 1, .int (2 : Int32))] (by decide +kernel) rfl ?_
    obtain ⟨r1, e2, hm⟩ := bn_x hm
    refine aw_cv (rest := [.int v3_x2_28]) (st1 := [.int r1, .int v3_x2_28]) a 0 (kX8_armOf e2 h0) rfl rfl ckX8_armOf lkX8_232 h0 eo_O_0 ⟨_, _, rfl⟩ nkX8_armOf rfl rfl rfl (Nat.le_of_ble_eq_true rfl) (Nat.zero_le _) (Nat.zero_le _) (by decide +kernel) (fun H3 z4 => ?_)
    have h0 := h0.kept0 z4
    have hs := hs.step0 z4
    refine aw_ic_ge (off := 7) 42 (by decide) (by decide +kernel) (fun hc => ?_) (fun hc => ?_)
    · have hm := (if_pos hc).symm.trans hm
      refine aw_b (pc' := 43) (lv' := [(0, .ref a), (1, .int i0), (3, .int v3_x2_28)]) (st' := [.int (0 : Int32)]) [(42, .iconst 0, 1, .int (0 : Int32))] (by decide +kernel) rfl ?_
      obtain rfl := Option.some.inj hm
      subst hQ
      exact aw_iret rfl (Nat.zero_le _) (Nat.zero_le _) (by decide +kernel) ⟨rfl, hs⟩
    · have hm := (if_neg hc).symm.trans hm
      refine aw_b (pc' := 43) (lv' := [(0, .ref a), (1, .int i0), (3, .int v3_x2_28)]) (st' := [.int v3_x2_28]) [(38, .iload_n 3, 1, .null), (39, .goto 4, 3, .null)] (by decide +kernel) rfl ?_
      obtain rfl := Option.some.inj hm
      subst hQ
      exact aw_iret rfl (Nat.zero_le _) (Nat.zero_le _) (by decide +kernel) ⟨rfl, hs⟩
  have L2 : ∀ (fu : Nat) (v3_b2 : Int32) (H_b2 : Heap), has_ E H_b2 a ly_O s → sm_ H H_b2 0 0 → fX8_within_l2 s i0 i1 fu v3_b2 = some x2 → aw E mX8_within Q 2 [(0, .ref a), (1, .int i0), (2, .int i1), (3, .int v3_b2)] [] H_b2 0 0 := by
    intro fu
    induction fu with
    | zero =>
      intro v3_b2 H_b2 h0 hs hm
      exact (it_0 hm).elim
    | succ fu ih2 =>
      intro v3_b2 H_b2 h0 hs hm
      obtain ⟨y2, hm, hk2⟩ := it_s hm
      have hm : fX8_within_b2 s i0 i1 v3_b2 = some y2 := hm
      unfold fX8_within_b2 at hm
      refine aw_b (pc' := 6) (lv' := [(0, .ref a), (1, .int i0), (2, .int i1), (3, .int v3_b2)]) (st' := [.int (2 : Int32), .int i0, .ref a, .int v3_b2]) [(2, .iload_n 3, 1, .null), (3, .aload_n 0, 1, .null), (4, .iload_n 1, 1, .null), (5, .iconst 2, 1, .int (2 : Int32))] (by decide +kernel) rfl ?_
      obtain ⟨r5, e6, hm⟩ := bn_x hm
      refine aw_cv (rest := [.int v3_b2]) (st1 := [.int r5, .int v3_b2]) a 0 (kX8_armOf e6 h0) rfl rfl ckX8_armOf lkX8_232 h0 eo_O_0 ⟨_, _, rfl⟩ nkX8_armOf rfl rfl rfl (Nat.le_of_ble_eq_true rfl) (Nat.zero_le _) (Nat.zero_le _) (by decide +kernel) (fun H7 z8 => ?_)
      have h0 := h0.kept0 z8
      have hs := hs.step0 z8
      refine aw_ic_ge (off := 19) 28 (by decide) (by decide +kernel) (fun hc => ?_) (fun hc => ?_)
      · have hm := (if_pos hc).symm.trans hm
        cases hm
        refine aw_lv (lv' := [(0, .ref a), (1, .int i0), (3, .int v3_b2)]) [0, 1, 3] rfl ?_
        exact X2_28 v3_b2 H7 h0 hs ((congrArg (fX8_within_k2 s i0) (show (v3_b2) = x2 from hk2)).trans hr2)
      · have hm := (if_neg hc).symm.trans hm
        refine aw_b (pc' := 15) (lv' := [(0, .ref a), (1, .int i0), (2, .int i1), (3, .int v3_b2)]) (st' := [.int v3_b2, .int i0, .ref a]) [(12, .aload_n 0, 1, .null), (13, .iload_n 1, 1, .null), (14, .iload_n 3, 1, .null)] (by decide +kernel) rfl ?_
        obtain ⟨r9, e10, hm⟩ := bn_x hm
        refine aw_cv (rest := []) (st1 := [.int r9]) a 0 (kX8_farOf e10 h0) rfl rfl ckX8_farOf lkX8_273 h0 eo_O_0 ⟨_, _, rfl⟩ nkX8_farOf rfl rfl rfl (Nat.le_of_ble_eq_true rfl) (Nat.zero_le _) (Nat.zero_le _) (by decide +kernel) (fun H11 z12 => ?_)
        have h0 := h0.kept0 z12
        have hs := hs.step0 z12
        refine aw_b (pc' := 19) (lv' := [(0, .ref a), (1, .int i0), (2, .int i1), (3, .int v3_b2)]) (st' := [.int i1, .int r9]) [(18, .iload_n 2, 1, .null)] (by decide +kernel) rfl ?_
        refine aw_ic_le (off := 9) 28 (by decide) (by decide +kernel) (fun hc => ?_) (fun hc => ?_)
        · have hm := (if_pos hc).symm.trans hm
          cases hm
          refine aw_lv (lv' := [(0, .ref a), (1, .int i0), (3, .int v3_b2)]) [0, 1, 3] rfl ?_
          exact X2_28 v3_b2 H11 h0 hs ((congrArg (fX8_within_k2 s i0) (show (v3_b2) = x2 from hk2)).trans hr2)
        · have hm := (if_neg hc).symm.trans hm
          refine aw_b (pc' := 2) (lv' := [(3, .int (v3_b2 + (1 : Int32))), (0, .ref a), (1, .int i0), (2, .int i1)]) (st' := []) [(22, .iinc 3 1, 3, .int (1 : Int32)), (25, .goto (-23), 3, .null)] (by decide +kernel) rfl ?_
          cases hm
          refine aw_lv (lv' := [(0, .ref a), (1, .int i0), (2, .int i1), (3, .int (v3_b2 + (1 : Int32)))]) [1, 2, 3, 0] rfl ?_
          exact ih2 (v3_b2 + (1 : Int32)) H11 h0 hs hk2
  refine aw_lv (lv' := [(0, .ref a), (1, .int i0), (2, .int i1), (3, .int (0 : Int32))]) [1, 2, 3, 0] rfl ?_
  exact L2 FU_ (0 : Int32) H h0 hs hx2
def mX8_scanned : mt_ := (yX8_scanned, cX8_scanned, 4, some .int, [], { frames := 4, locals := 90, cells := 0, slots := 0 })
theorem ckX8_scanned : cokV_ mX8_scanned := ⟨⟨(uw_mem 1756 (by decide +kernel) (by decide +kernel)), (uw_mem 112 (by decide +kernel) (by decide +kernel)), by decide +kernel, by decide +kernel⟩, (uw_mem 1755 (by decide +kernel) (by decide +kernel)), (uw_mem 60 (by decide +kernel) (by decide +kernel))⟩
theorem nkX8_scanned : nok_ mX8_scanned 1 := by decide +kernel
theorem lkX8_276 : Cond.methodLink RX8 276 yX8_nearestOn ∈ uw_ := (uw_mem 1740 (by decide +kernel) (by decide +kernel))
theorem fpX8_279 : fpk_ RX8 279 8 15 .boolean := ⟨_, _, _, tyX8, rfl, by decide, (uw_mem 1450 (by decide +kernel) (by decide +kernel)), wkX8, tyX8_ok, nmX8, rfl, by decide +kernel⟩
theorem fsq_8_15 : fsp_ fsX8 15 := ⟨fun _ _ => rfl, fun _ _ _ => rfl⟩
theorem fgX8_279 : fok_ RX8 279 8 15 := ⟨_, _, _, rfl, by decide, (uw_mem 1450 (by decide +kernel) (by decide +kernel)), wkX8⟩
def fX8_scanned_j34 (s : st_) (i0 : Int32) (z0_j15 : Int32) (r5 : Int32) (z1_j34 : Int32) : Option (st_ × Int32) :=
  gd_ (bz_ z1_j34) <|
  bd_ (pt_ s 0 15 z1_j34) fun s9 =>
  if (s9 0 15) = (0 : Int32) then (some (s9, r5))
  else (bn_ (fX8_nearestOn s9 i0 (-z0_j15)) fun r14 =>
  some (s9, r14))
def fX8_scanned_j15 (s : st_) (i0 : Int32) (z0_j15 : Int32) : Option (st_ × Int32) :=
  bn_ (fX8_nearestOn s i0 z0_j15) fun r5 =>
  if r5 = (-1 : Int32) then (fX8_scanned_j34 s i0 z0_j15 r5 (1 : Int32))
  else (fX8_scanned_j34 s i0 z0_j15 r5 (0 : Int32))
def fX8_scanned (s : st_) (i0 : Int32) : Option (st_ × Int32) :=
  bn_ (fX8_armOf s i0 (1 : Int32)) fun r1 =>
  if r1 = (1 : Int32) then (fX8_scanned_j15 s i0 (1 : Int32))
  else (fX8_scanned_j15 s i0 (-1 : Int32))
set_option maxRecDepth 8000 in
theorem kX8_scanned {E : ev_} {H : Heap} {a : Nat} {s : st_} {i0 : Int32} {r : st_ × Int32} (hm : fX8_scanned s i0 = some r) (h0 : has_ E H a ly_O s) (hf : ev_fr E a) : sp_ E mX8_scanned [.ref a, .int i0] H (po1 (.inl (some (.int r.2))) (fun Hn => sm_ H Hn a 10 ∧ has_ E Hn a ly_O r.1)) := by
  refine sp_of (by decide +kernel) rfl rfl ?_
  generalize hQ : po1 _ _ = Q
  have hs : sm_ H H a 10 := sm_.rfl'
  unfold fX8_scanned at hm
  refine aw_lv (lv' := [(0, .ref a), (1, .int i0)]) [0, 1] rfl ?_
  refine aw_b (pc' := 3) (lv' := [(0, .ref a), (1, .int i0)]) (st' := [.int (1 : Int32), .int i0, .ref a]) [(0, .aload_n 0, 1, .null), (1, .iload_n 1, 1, .null), (2, .iconst 1, 1, .int (1 : Int32))] (by decide +kernel) rfl ?_
  obtain ⟨r1, e2, hm⟩ := bn_x hm
  refine aw_cv (rest := []) (st1 := [.int r1]) a 0 (kX8_armOf e2 h0) rfl rfl ckX8_armOf lkX8_232 h0 eo_O_0 ⟨_, _, rfl⟩ nkX8_armOf rfl rfl rfl (Nat.le_of_ble_eq_true rfl) (Nat.zero_le _) (Nat.zero_le _) (by decide +kernel) (fun H3 z4 => ?_)
  have h0 := h0.kept0 z4
  have hs := hs.step0 z4
  refine aw_b (pc' := 7) (lv' := [(0, .ref a), (1, .int i0)]) (st' := [.int (1 : Int32), .int r1]) [(6, .iconst 1, 1, .int (1 : Int32))] (by decide +kernel) rfl ?_
  have J15 : ∀ (z0_j15 : Int32) (H_j15 : Heap), has_ E H_j15 a ly_O s → sm_ H H_j15 a 10 → fX8_scanned_j15 s i0 z0_j15 = some r → aw E mX8_scanned Q 15 [(0, .ref a), (1, .int i0)] [.int z0_j15] H_j15 0 0 := by
    intro z0_j15 H_j15 h0 hs hm
    unfold fX8_scanned_j15 at hm
    refine aw_b (pc' := 19) (lv' := [(2, .int z0_j15), (0, .ref a), (1, .int i0)]) (st' := [.int z0_j15, .int i0, .ref a]) [(15, .istore_n 2, 1, .null), (16, .aload_n 0, 1, .null), (17, .iload_n 1, 1, .null), (18, .iload_n 2, 1, .null)] (by decide +kernel) rfl ?_
    obtain ⟨r5, e6, hm⟩ := bn_x hm
    refine aw_cv (rest := []) (st1 := [.int r5]) a 0 (kX8_nearestOn e6 h0) rfl rfl ckX8_nearestOn lkX8_276 h0 eo_O_0 ⟨_, _, rfl⟩ nkX8_nearestOn rfl rfl rfl (Nat.le_of_ble_eq_true rfl) (Nat.zero_le _) (Nat.zero_le _) (by decide +kernel) (fun H7 z8 => ?_)
    have h0 := h0.kept0 z8
    have hs := hs.step0 z8
    refine aw_b (pc' := 26) (lv' := [(3, .int r5), (2, .int z0_j15), (0, .ref a), (1, .int i0)]) (st' := [.int (-1 : Int32), .int r5, .ref a]) [(22, .istore_n 3, 1, .null), (23, .aload_n 0, 1, .null), (24, .iload_n 3, 1, .null), (25, .iconst (-1), 1, .int (-1 : Int32))] (by decide +kernel) rfl ?_
    have J34 : ∀ (z1_j34 : Int32) (H_j34 : Heap), has_ E H_j34 a ly_O s → sm_ H H_j34 a 10 → fX8_scanned_j34 s i0 z0_j15 r5 z1_j34 = some r → aw E mX8_scanned Q 34 [(0, .ref a), (1, .int i0), (2, .int z0_j15), (3, .int r5)] [.int z1_j34, .ref a] H_j34 0 0 := by
      intro z1_j34 H_j34 h0 hs hm
      unfold fX8_scanned_j34 at hm
      obtain ⟨g12, hm⟩ := gd_x hm
      obtain ⟨s9, e10, hm⟩ := bd_x hm
      refine aw_pl a 0 h0 eo_O_0 fsq_8_15 fpX8_279 hf (bz_n g12) (bz_f g12) e10 (by decide +kernel) (fun H11 h0 z13 => ?_)
      have hs := hs.step z13 (by omega) (by omega)
      refine aw_b (pc' := 38) (lv' := [(0, .ref a), (1, .int i0), (2, .int z0_j15), (3, .int r5)]) (st' := [.ref a]) [(37, .aload_n 0, 1, .null)] (by decide +kernel) rfl ?_
      refine aw_gl (v := .int (s9 0 15)) a 0 h0 eo_O_0 fgX8_279 rfl (by decide +kernel) ?_
      refine aw_if_eq (off := 13) 54 (by decide) (by decide +kernel) (fun hc => ?_) (fun hc => ?_)
      · have hm := (if_pos hc).symm.trans hm
        refine aw_b (pc' := 55) (lv' := [(0, .ref a), (1, .int i0), (2, .int z0_j15), (3, .int r5)]) (st' := [.int r5]) [(54, .iload_n 3, 1, .null)] (by decide +kernel) rfl ?_
        obtain rfl := Option.some.inj hm
        subst hQ
        exact aw_iret rfl (Nat.zero_le _) (Nat.zero_le _) (by decide +kernel) ⟨rfl, hs, h0⟩
      · have hm := (if_neg hc).symm.trans hm
        refine aw_b (pc' := 48) (lv' := [(0, .ref a), (1, .int i0), (2, .int z0_j15), (3, .int r5)]) (st' := [.int (-z0_j15), .int i0, .ref a]) [(44, .aload_n 0, 1, .null), (45, .iload_n 1, 1, .null), (46, .iload_n 2, 1, .null), (47, .ineg, 1, .null)] (by decide +kernel) rfl ?_
        obtain ⟨r14, e15, hm⟩ := bn_x hm
        refine aw_cv (rest := []) (st1 := [.int r14]) a 0 (kX8_nearestOn e15 h0) rfl rfl ckX8_nearestOn lkX8_276 h0 eo_O_0 ⟨_, _, rfl⟩ nkX8_nearestOn rfl rfl rfl (Nat.le_of_ble_eq_true rfl) (Nat.zero_le _) (Nat.zero_le _) (by decide +kernel) (fun H16 z17 => ?_)
        have h0 := h0.kept0 z17
        have hs := hs.step0 z17
        refine aw_b (pc' := 55) (lv' := [(0, .ref a), (1, .int i0), (2, .int z0_j15), (3, .int r5)]) (st' := [.int r14]) [(51, .goto 4, 3, .null)] (by decide +kernel) rfl ?_
        obtain rfl := Option.some.inj hm
        subst hQ
        exact aw_iret rfl (Nat.zero_le _) (Nat.zero_le _) (by decide +kernel) ⟨rfl, hs, h0⟩
    refine aw_ic_ne (off := 7) 33 (by decide) (by decide +kernel) (fun hc => ?_) (fun hc => ?_)
    · have hm := (if_neg hc).symm.trans hm
      refine aw_b (pc' := 34) (lv' := [(3, .int r5), (2, .int z0_j15), (0, .ref a), (1, .int i0)]) (st' := [.int (0 : Int32), .ref a]) [(33, .iconst 0, 1, .int (0 : Int32))] (by decide +kernel) rfl ?_
      refine aw_lv (lv' := [(0, .ref a), (1, .int i0), (2, .int z0_j15), (3, .int r5)]) [2, 3, 1, 0] rfl ?_
      exact J34 (0 : Int32) H7 h0 hs hm
    · have hm := (if_pos hc).symm.trans hm
      refine aw_b (pc' := 34) (lv' := [(3, .int r5), (2, .int z0_j15), (0, .ref a), (1, .int i0)]) (st' := [.int (1 : Int32), .ref a]) [(29, .iconst 1, 1, .int (1 : Int32)), (30, .goto 4, 3, .null)] (by decide +kernel) rfl ?_
      refine aw_lv (lv' := [(0, .ref a), (1, .int i0), (2, .int z0_j15), (3, .int r5)]) [2, 3, 1, 0] rfl ?_
      exact J34 (1 : Int32) H7 h0 hs hm
  refine aw_ic_ne (off := 7) 14 (by decide) (by decide +kernel) (fun hc => ?_) (fun hc => ?_)
  · have hm := (if_neg hc).symm.trans hm
    refine aw_b (pc' := 15) (lv' := [(0, .ref a), (1, .int i0)]) (st' := [.int (-1 : Int32)]) [(14, .iconst (-1), 1, .int (-1 : Int32))] (by decide +kernel) rfl ?_
    exact J15 (-1 : Int32) H3 h0 hs hm
  · have hm := (if_pos hc).symm.trans hm
    refine aw_b (pc' := 15) (lv' := [(0, .ref a), (1, .int i0)]) (st' := [.int (1 : Int32)]) [(10, .iconst 1, 1, .int (1 : Int32)), (11, .goto 4, 3, .null)] (by decide +kernel) rfl ?_
    exact J15 (1 : Int32) H3 h0 hs hm
def mX8_picks : mt_ := (yX8_picks, cX8_picks, 4, some .int, [], { frames := 5, locals := 113, cells := 0, slots := 0 })
theorem ckX8_picks : cokV_ mX8_picks := ⟨⟨(uw_mem 1739 (by decide +kernel) (by decide +kernel)), (uw_mem 112 (by decide +kernel) (by decide +kernel)), by decide +kernel, by decide +kernel⟩, (uw_mem 1738 (by decide +kernel) (by decide +kernel)), (uw_mem 56 (by decide +kernel) (by decide +kernel))⟩
theorem nkX8_picks : nok_ mX8_picks 2 := by decide +kernel
theorem lkX8_283 : Cond.methodLink RX8 283 yX8_scanned ∈ uw_ := (uw_mem 1753 (by decide +kernel) (by decide +kernel))
theorem lkX8_286 : Cond.methodLink RX8 286 yX8_lowestOf ∈ uw_ := (uw_mem 1757 (by decide +kernel) (by decide +kernel))
theorem lkX8_289 : Cond.methodLink RX8 289 yX8_within ∈ uw_ := (uw_mem 1761 (by decide +kernel) (by decide +kernel))
def fX8_picks (s : st_) (i0 : Int32) (i1 : Int32) : Option (st_ × Int32) :=
  bd_ (pt_ s 0 15 (0 : Int32)) fun s1 =>
  bn_ (fX8_armOf s1 i0 (2 : Int32)) fun r5 =>
  if r5 = (0 : Int32) then (some (s1, (-1 : Int32)))
  else (bn_ (fX8_of s1 i1 (0 : Int32)) fun r9 =>
  if r9 = (0 : Int32) then (some (s1, (0 : Int32)))
  else (if r9 = (1 : Int32) then (bn_ (fX8_nearestOn s1 i0 (0 : Int32)) fun r13 =>
  some (s1, r13))
  else (if r9 = (2 : Int32) then (bn_ (fX8_scanned s1 i0) fun r17 =>
  some (r17.1, r17.2))
  else (if r9 = (3 : Int32) then (bn_ (fX8_nearestOn s1 i0 (1 : Int32)) fun r21 =>
  if r21 = (-1 : Int32) then (bn_ (fX8_lowestOf s1 i0) fun r25 =>
  some (s1, r25))
  else (some (s1, r21)))
  else (bn_ (fX8_of s1 i1 (1 : Int32)) fun r29 =>
  bn_ (fX8_within s1 i0 r29) fun r33 =>
  some (s1, r33))))))
set_option maxRecDepth 8000 in
theorem kX8_picks {E : ev_} {H : Heap} {a : Nat} {s : st_} {i0 : Int32} {i1 : Int32} {r : st_ × Int32} (hm : fX8_picks s i0 i1 = some r) (h0 : has_ E H a ly_O s) (hf : ev_fr E a) : sp_ E mX8_picks [.ref a, .int i0, .int i1] H (po1 (.inl (some (.int r.2))) (fun Hn => sm_ H Hn a 10 ∧ has_ E Hn a ly_O r.1)) := by
  refine sp_of (by decide +kernel) rfl rfl ?_
  generalize hQ : po1 _ _ = Q
  have hs : sm_ H H a 10 := sm_.rfl'
  unfold fX8_picks at hm
  refine aw_lv (lv' := [(0, .ref a), (1, .int i0), (2, .int i1)]) [0, 1, 2] rfl ?_
  refine aw_b (pc' := 2) (lv' := [(0, .ref a), (1, .int i0), (2, .int i1)]) (st' := [.int (0 : Int32), .ref a]) [(0, .aload_n 0, 1, .null), (1, .iconst 0, 1, .int (0 : Int32))] (by decide +kernel) rfl ?_
  obtain ⟨s1, e2, hm⟩ := bd_x hm
  refine aw_pl a 0 h0 eo_O_0 fsq_8_15 fpX8_279 hf (by decide +kernel) (by decide +kernel) e2 (by decide +kernel) (fun H3 h0 z4 => ?_)
  have hs := hs.step z4 (by omega) (by omega)
  refine aw_b (pc' := 8) (lv' := [(0, .ref a), (1, .int i0), (2, .int i1)]) (st' := [.int (2 : Int32), .int i0, .ref a]) [(5, .aload_n 0, 1, .null), (6, .iload_n 1, 1, .null), (7, .iconst 2, 1, .int (2 : Int32))] (by decide +kernel) rfl ?_
  obtain ⟨r5, e6, hm⟩ := bn_x hm
  refine aw_cv (rest := []) (st1 := [.int r5]) a 0 (kX8_armOf e6 h0) rfl rfl ckX8_armOf lkX8_232 h0 eo_O_0 ⟨_, _, rfl⟩ nkX8_armOf rfl rfl rfl (Nat.le_of_ble_eq_true rfl) (Nat.zero_le _) (Nat.zero_le _) (by decide +kernel) (fun H7 z8 => ?_)
  have h0 := h0.kept0 z8
  have hs := hs.step0 z8
  refine aw_if_ne (off := 5) 16 (by decide) (by decide +kernel) (fun hc => ?_) (fun hc => ?_)
  · have hm := (if_neg hc).symm.trans hm
    refine aw_b (pc' := 19) (lv' := [(0, .ref a), (1, .int i0), (2, .int i1)]) (st' := [.int (0 : Int32), .int i1, .ref a]) [(16, .aload_n 0, 1, .null), (17, .iload_n 2, 1, .null), (18, .iconst 0, 1, .int (0 : Int32))] (by decide +kernel) rfl ?_
    obtain ⟨r9, e10, hm⟩ := bn_x hm
    refine aw_cv (rest := []) (st1 := [.int r9]) a 0 (kX8_of e10 h0) rfl rfl ckX8_of lkX8_236 h0 eo_O_0 ⟨_, _, rfl⟩ nkX8_of rfl rfl rfl (Nat.le_of_ble_eq_true rfl) (Nat.zero_le _) (Nat.zero_le _) (by decide +kernel) (fun H11 z12 => ?_)
    have h0 := h0.kept0 z12
    have hs := hs.step0 z12
    refine aw_ts [((0 : Int32), 52), ((1 : Int32), 54), ((2 : Int32), 61), ((3 : Int32), 67)] 89 (by decide +kernel) ?_
    refine aw_tg (fun hc => ?_) (fun hc => ?_)
    · have hm := (if_pos hc).symm.trans hm
      refine aw_b (pc' := 53) (lv' := [(0, .ref a), (1, .int i0), (2, .int i1)]) (st' := [.int (0 : Int32)]) [(52, .iconst 0, 1, .int (0 : Int32))] (by decide +kernel) rfl ?_
      obtain rfl := Option.some.inj hm
      subst hQ
      exact aw_iret rfl (Nat.zero_le _) (Nat.zero_le _) (by decide +kernel) ⟨rfl, hs, h0⟩
    · have hm := (if_neg hc).symm.trans hm
      refine aw_tg (fun hc => ?_) (fun hc => ?_)
      · have hm := (if_pos hc).symm.trans hm
        refine aw_b (pc' := 57) (lv' := [(0, .ref a), (1, .int i0), (2, .int i1)]) (st' := [.int (0 : Int32), .int i0, .ref a]) [(54, .aload_n 0, 1, .null), (55, .iload_n 1, 1, .null), (56, .iconst 0, 1, .int (0 : Int32))] (by decide +kernel) rfl ?_
        obtain ⟨r13, e14, hm⟩ := bn_x hm
        refine aw_cv (rest := []) (st1 := [.int r13]) a 0 (kX8_nearestOn e14 h0) rfl rfl ckX8_nearestOn lkX8_276 h0 eo_O_0 ⟨_, _, rfl⟩ nkX8_nearestOn rfl rfl rfl (Nat.le_of_ble_eq_true rfl) (Nat.zero_le _) (Nat.zero_le _) (by decide +kernel) (fun H15 z16 => ?_)
        have h0 := h0.kept0 z16
        have hs := hs.step0 z16
        obtain rfl := Option.some.inj hm
        subst hQ
        exact aw_iret rfl (Nat.zero_le _) (Nat.zero_le _) (by decide +kernel) ⟨rfl, hs, h0⟩
      · have hm := (if_neg hc).symm.trans hm
        refine aw_tg (fun hc => ?_) (fun hc => ?_)
        · have hm := (if_pos hc).symm.trans hm
          refine aw_b (pc' := 63) (lv' := [(0, .ref a), (1, .int i0), (2, .int i1)]) (st' := [.int i0, .ref a]) [(61, .aload_n 0, 1, .null), (62, .iload_n 1, 1, .null)] (by decide +kernel) rfl ?_
          obtain ⟨r17, e18, hm⟩ := bn_x hm
          refine aw_cv (rest := []) (st1 := [.int r17.2]) a 0 (kX8_scanned e18 h0 hf) rfl rfl ckX8_scanned lkX8_283 h0 eo_O_0 ⟨_, _, rfl⟩ nkX8_scanned rfl rfl rfl (Nat.le_of_ble_eq_true rfl) (Nat.zero_le _) (Nat.zero_le _) (by decide +kernel) (fun H19 z20 => ?_)
          obtain ⟨z20, hn⟩ := z20
          have h0 := hn
          have hs := hs.step z20 (by omega) (by omega)
          obtain rfl := Option.some.inj hm
          subst hQ
          exact aw_iret rfl (Nat.zero_le _) (Nat.zero_le _) (by decide +kernel) ⟨rfl, hs, h0⟩
        · have hm := (if_neg hc).symm.trans hm
          refine aw_tg (fun hc => ?_) (fun hc => ?_)
          · have hm := (if_pos hc).symm.trans hm
            refine aw_b (pc' := 70) (lv' := [(0, .ref a), (1, .int i0), (2, .int i1)]) (st' := [.int (1 : Int32), .int i0, .ref a]) [(67, .aload_n 0, 1, .null), (68, .iload_n 1, 1, .null), (69, .iconst 1, 1, .int (1 : Int32))] (by decide +kernel) rfl ?_
            obtain ⟨r21, e22, hm⟩ := bn_x hm
            refine aw_cv (rest := []) (st1 := [.int r21]) a 0 (kX8_nearestOn e22 h0) rfl rfl ckX8_nearestOn lkX8_276 h0 eo_O_0 ⟨_, _, rfl⟩ nkX8_nearestOn rfl rfl rfl (Nat.le_of_ble_eq_true rfl) (Nat.zero_le _) (Nat.zero_le _) (by decide +kernel) (fun H23 z24 => ?_)
            have h0 := h0.kept0 z24
            have hs := hs.step0 z24
            refine aw_b (pc' := 76) (lv' := [(3, .int r21), (0, .ref a), (1, .int i0), (2, .int i1)]) (st' := [.int (-1 : Int32), .int r21]) [(73, .istore_n 3, 1, .null), (74, .iload_n 3, 1, .null), (75, .iconst (-1), 1, .int (-1 : Int32))] (by decide +kernel) rfl ?_
            refine aw_ic_ne (off := 11) 87 (by decide) (by decide +kernel) (fun hc => ?_) (fun hc => ?_)
            · have hm := (if_neg hc).symm.trans hm
              refine aw_b (pc' := 88) (lv' := [(3, .int r21), (0, .ref a), (1, .int i0), (2, .int i1)]) (st' := [.int r21]) [(87, .iload_n 3, 1, .null)] (by decide +kernel) rfl ?_
              obtain rfl := Option.some.inj hm
              subst hQ
              exact aw_iret rfl (Nat.zero_le _) (Nat.zero_le _) (by decide +kernel) ⟨rfl, hs, h0⟩
            · have hm := (if_pos hc).symm.trans hm
              refine aw_b (pc' := 81) (lv' := [(3, .int r21), (0, .ref a), (1, .int i0), (2, .int i1)]) (st' := [.int i0, .ref a]) [(79, .aload_n 0, 1, .null), (80, .iload_n 1, 1, .null)] (by decide +kernel) rfl ?_
              obtain ⟨r25, e26, hm⟩ := bn_x hm
              refine aw_cv (rest := []) (st1 := [.int r25]) a 0 (kX8_lowestOf e26 h0) rfl rfl ckX8_lowestOf lkX8_286 h0 eo_O_0 ⟨_, _, rfl⟩ nkX8_lowestOf rfl rfl rfl (Nat.le_of_ble_eq_true rfl) (Nat.zero_le _) (Nat.zero_le _) (by decide +kernel) (fun H27 z28 => ?_)
              have h0 := h0.kept0 z28
              have hs := hs.step0 z28
              refine aw_b (pc' := 88) (lv' := [(3, .int r21), (0, .ref a), (1, .int i0), (2, .int i1)]) (st' := [.int r25]) [(84, .goto 4, 3, .null)] (by decide +kernel) rfl ?_
              obtain rfl := Option.some.inj hm
              subst hQ
              exact aw_iret rfl (Nat.zero_le _) (Nat.zero_le _) (by decide +kernel) ⟨rfl, hs, h0⟩
          · have hm := (if_neg hc).symm.trans hm
            show aw E _ Q 89 _ _ _ _ _
            refine aw_b (pc' := 94) (lv' := [(0, .ref a), (1, .int i0), (2, .int i1)]) (st' := [.int (1 : Int32), .int i1, .ref a, .int i0, .ref a]) [(89, .aload_n 0, 1, .null), (90, .iload_n 1, 1, .null), (91, .aload_n 0, 1, .null), (92, .iload_n 2, 1, .null), (93, .iconst 1, 1, .int (1 : Int32))] (by decide +kernel) rfl ?_
            obtain ⟨r29, e30, hm⟩ := bn_x hm
            refine aw_cv (rest := [.int i0, .ref a]) (st1 := [.int r29, .int i0, .ref a]) a 0 (kX8_of e30 h0) rfl rfl ckX8_of lkX8_236 h0 eo_O_0 ⟨_, _, rfl⟩ nkX8_of rfl rfl rfl (Nat.le_of_ble_eq_true rfl) (Nat.zero_le _) (Nat.zero_le _) (by decide +kernel) (fun H31 z32 => ?_)
            have h0 := h0.kept0 z32
            have hs := hs.step0 z32
            obtain ⟨r33, e34, hm⟩ := bn_x hm
            refine aw_cv (rest := []) (st1 := [.int r33]) a 0 (kX8_within e34 h0) rfl rfl ckX8_within lkX8_289 h0 eo_O_0 ⟨_, _, rfl⟩ nkX8_within rfl rfl rfl (Nat.le_of_ble_eq_true rfl) (Nat.zero_le _) (Nat.zero_le _) (by decide +kernel) (fun H35 z36 => ?_)
            have h0 := h0.kept0 z36
            have hs := hs.step0 z36
            obtain rfl := Option.some.inj hm
            subst hQ
            exact aw_iret rfl (Nat.zero_le _) (Nat.zero_le _) (by decide +kernel) ⟨rfl, hs, h0⟩
  · have hm := (if_pos hc).symm.trans hm
    refine aw_b (pc' := 15) (lv' := [(0, .ref a), (1, .int i0), (2, .int i1)]) (st' := [.int (-1 : Int32)]) [(14, .iconst (-1), 1, .int (-1 : Int32))] (by decide +kernel) rfl ?_
    obtain rfl := Option.some.inj hm
    subst hQ
    exact aw_iret rfl (Nat.zero_le _) (Nat.zero_le _) (by decide +kernel) ⟨rfl, hs, h0⟩
def mX8_costOf : mt_ := (yX8_costOf, cX8_costOf, 2, some .int, [], { frames := 0, locals := 0, cells := 0, slots := 0 })
theorem ckX8_costOf : cokV_ mX8_costOf := ⟨⟨(uw_mem 1936 (by decide +kernel) (by decide +kernel)), (uw_mem 112 (by decide +kernel) (by decide +kernel)), by decide +kernel, by decide +kernel⟩, (uw_mem 1935 (by decide +kernel) (by decide +kernel)), (uw_mem 81 (by decide +kernel) (by decide +kernel))⟩
theorem nkX8_costOf : nok_ mX8_costOf 1 := by decide +kernel
def fX8_costOf (s : st_) (i0 : Int32) : Option (Int32) :=
  if i0 = (0 : Int32) then (some (0 : Int32))
  else (gd_ (ib_ (2 : Int32) 12584) <|
  gd_ (ib_ (3 : Int32) 12584) <|
  some ((s 1 (ix_ (2 : Int32))) + ((s 1 (ix_ (3 : Int32))) * i0)))
set_option maxRecDepth 8000 in
theorem kX8_costOf {E : ev_} {H : Heap} {a : Nat} {s : st_} {i0 : Int32} {r : Int32} (hm : fX8_costOf s i0 = some r) (h0 : has_ E H a ly_O s) : sp_ E mX8_costOf [.ref a, .int i0] H (po1 (.inl (some (.int r))) (fun Hn => sm_ H Hn 0 0)) := by
  refine sp_of (by decide +kernel) rfl rfl ?_
  generalize hQ : po1 _ _ = Q
  have hs : sm_ H H 0 0 := sm_.rfl'
  unfold fX8_costOf at hm
  refine aw_lv (lv' := [(0, .ref a), (1, .int i0)]) [0, 1] rfl ?_
  refine aw_b (pc' := 1) (lv' := [(0, .ref a), (1, .int i0)]) (st' := [.int i0]) [(0, .iload_n 1, 1, .null)] (by decide +kernel) rfl ?_
  refine aw_if_ne (off := 7) 8 (by decide) (by decide +kernel) (fun hc => ?_) (fun hc => ?_)
  · have hm := (if_neg hc).symm.trans hm
    refine aw_b (pc' := 9) (lv' := [(0, .ref a), (1, .int i0)]) (st' := [.ref a]) [(8, .aload_n 0, 1, .null)] (by decide +kernel) rfl ?_
    refine aw_gl (v := .ref (a + 1)) a 0 h0 eo_O_0 fgX8_9 rfl (by decide +kernel) ?_
    refine aw_b (pc' := 13) (lv' := [(0, .ref a), (1, .int i0)]) (st' := [.int (2 : Int32), .ref (a + 1)]) [(12, .iconst 2, 1, .int (2 : Int32))] (by decide +kernel) rfl ?_
    obtain ⟨g1, hm⟩ := gd_x hm
    refine aw_ial a 1 h0 rfl g1 (by decide +kernel) ?_
    refine aw_b (pc' := 15) (lv' := [(0, .ref a), (1, .int i0)]) (st' := [.ref a, .int (s 1 (ix_ (2 : Int32)))]) [(14, .aload_n 0, 1, .null)] (by decide +kernel) rfl ?_
    refine aw_gl (v := .ref (a + 1)) a 0 h0 eo_O_0 fgX8_9 rfl (by decide +kernel) ?_
    refine aw_b (pc' := 19) (lv' := [(0, .ref a), (1, .int i0)]) (st' := [.int (3 : Int32), .ref (a + 1), .int (s 1 (ix_ (2 : Int32)))]) [(18, .iconst 3, 1, .int (3 : Int32))] (by decide +kernel) rfl ?_
    obtain ⟨g2, hm⟩ := gd_x hm
    refine aw_ial a 1 h0 rfl g2 (by decide +kernel) ?_
    refine aw_b (pc' := 23) (lv' := [(0, .ref a), (1, .int i0)]) (st' := [.int ((s 1 (ix_ (2 : Int32))) + ((s 1 (ix_ (3 : Int32))) * i0))]) [(20, .iload_n 1, 1, .null), (21, .imul, 1, .null), (22, .iadd, 1, .null)] (by decide +kernel) rfl ?_
    obtain rfl := Option.some.inj hm
    subst hQ
    exact aw_iret rfl (Nat.zero_le _) (Nat.zero_le _) (by decide +kernel) ⟨rfl, hs⟩
  · have hm := (if_pos hc).symm.trans hm
    refine aw_b (pc' := 23) (lv' := [(0, .ref a), (1, .int i0)]) (st' := [.int (0 : Int32)]) [(4, .iconst 0, 1, .int (0 : Int32)), (5, .goto 18, 3, .null)] (by decide +kernel) rfl ?_
    obtain rfl := Option.some.inj hm
    subst hQ
    exact aw_iret rfl (Nat.zero_le _) (Nat.zero_le _) (by decide +kernel) ⟨rfl, hs⟩
def mX8_wouldCost : mt_ := (yX8_wouldCost, cX8_wouldCost, 4, some .int, [], { frames := 6, locals := 136, cells := 0, slots := 0 })
theorem ckX8_wouldCost : cokV_ mX8_wouldCost := ⟨⟨(uw_mem 2009 (by decide +kernel) (by decide +kernel)), (uw_mem 112 (by decide +kernel) (by decide +kernel)), by decide +kernel, by decide +kernel⟩, (uw_mem 2008 (by decide +kernel) (by decide +kernel)), (uw_mem 92 (by decide +kernel) (by decide +kernel))⟩
theorem nkX8_wouldCost : nok_ mX8_wouldCost 2 := by decide +kernel
theorem lkX8_292 : Cond.methodLink RX8 292 yX8_picks ∈ uw_ := (uw_mem 1736 (by decide +kernel) (by decide +kernel))
theorem lkX8_295 : Cond.methodLink RX8 295 yX8_costOf ∈ uw_ := (uw_mem 1933 (by decide +kernel) (by decide +kernel))
def fX8_wouldCost (s : st_) (i0 : Int32) (i1 : Int32) : Option (st_ × Int32) :=
  bn_ (fX8_picks s i0 i1) fun r1 =>
  if r1.2 = (-1 : Int32) then (some (r1.1, (0 : Int32)))
  else (bn_ (fX8_farOf r1.1 i0 r1.2) fun r5 =>
  bn_ (fX8_costOf r1.1 r5) fun r9 =>
  some (r1.1, r9))
set_option maxRecDepth 8000 in
theorem kX8_wouldCost {E : ev_} {H : Heap} {a : Nat} {s : st_} {i0 : Int32} {i1 : Int32} {r : st_ × Int32} (hm : fX8_wouldCost s i0 i1 = some r) (h0 : has_ E H a ly_O s) (hf : ev_fr E a) : sp_ E mX8_wouldCost [.ref a, .int i0, .int i1] H (po1 (.inl (some (.int r.2))) (fun Hn => sm_ H Hn a 10 ∧ has_ E Hn a ly_O r.1)) := by
  refine sp_of (by decide +kernel) rfl rfl ?_
  generalize hQ : po1 _ _ = Q
  have hs : sm_ H H a 10 := sm_.rfl'
  unfold fX8_wouldCost at hm
  refine aw_lv (lv' := [(0, .ref a), (1, .int i0), (2, .int i1)]) [0, 1, 2] rfl ?_
  refine aw_b (pc' := 3) (lv' := [(0, .ref a), (1, .int i0), (2, .int i1)]) (st' := [.int i1, .int i0, .ref a]) [(0, .aload_n 0, 1, .null), (1, .iload_n 1, 1, .null), (2, .iload_n 2, 1, .null)] (by decide +kernel) rfl ?_
  obtain ⟨r1, e2, hm⟩ := bn_x hm
  refine aw_cv (rest := []) (st1 := [.int r1.2]) a 0 (kX8_picks e2 h0 hf) rfl rfl ckX8_picks lkX8_292 h0 eo_O_0 ⟨_, _, rfl⟩ nkX8_picks rfl rfl rfl (Nat.le_of_ble_eq_true rfl) (Nat.zero_le _) (Nat.zero_le _) (by decide +kernel) (fun H3 z4 => ?_)
  obtain ⟨z4, hn⟩ := z4
  have h0 := hn
  have hs := hs.step z4 (by omega) (by omega)
  refine aw_b (pc' := 9) (lv' := [(3, .int r1.2), (0, .ref a), (1, .int i0), (2, .int i1)]) (st' := [.int (-1 : Int32), .int r1.2]) [(6, .istore_n 3, 1, .null), (7, .iload_n 3, 1, .null), (8, .iconst (-1), 1, .int (-1 : Int32))] (by decide +kernel) rfl ?_
  refine aw_ic_ne (off := 7) 16 (by decide) (by decide +kernel) (fun hc => ?_) (fun hc => ?_)
  · have hm := (if_neg hc).symm.trans hm
    refine aw_b (pc' := 20) (lv' := [(3, .int r1.2), (0, .ref a), (1, .int i0), (2, .int i1)]) (st' := [.int r1.2, .int i0, .ref a, .ref a]) [(16, .aload_n 0, 1, .null), (17, .aload_n 0, 1, .null), (18, .iload_n 1, 1, .null), (19, .iload_n 3, 1, .null)] (by decide +kernel) rfl ?_
    obtain ⟨r5, e6, hm⟩ := bn_x hm
    refine aw_cv (rest := [.ref a]) (st1 := [.int r5, .ref a]) a 0 (kX8_farOf e6 h0) rfl rfl ckX8_farOf lkX8_273 h0 eo_O_0 ⟨_, _, rfl⟩ nkX8_farOf rfl rfl rfl (Nat.le_of_ble_eq_true rfl) (Nat.zero_le _) (Nat.zero_le _) (by decide +kernel) (fun H7 z8 => ?_)
    have h0 := h0.kept0 z8
    have hs := hs.step0 z8
    obtain ⟨r9, e10, hm⟩ := bn_x hm
    refine aw_cv (rest := []) (st1 := [.int r9]) a 0 (kX8_costOf e10 h0) rfl rfl ckX8_costOf lkX8_295 h0 eo_O_0 ⟨_, _, rfl⟩ nkX8_costOf rfl rfl rfl (Nat.le_of_ble_eq_true rfl) (Nat.zero_le _) (Nat.zero_le _) (by decide +kernel) (fun H11 z12 => ?_)
    have h0 := h0.kept0 z12
    have hs := hs.step0 z12
    obtain rfl := Option.some.inj hm
    subst hQ
    exact aw_iret rfl (Nat.zero_le _) (Nat.zero_le _) (by decide +kernel) ⟨rfl, hs, h0⟩
  · have hm := (if_pos hc).symm.trans hm
    refine aw_b (pc' := 26) (lv' := [(3, .int r1.2), (0, .ref a), (1, .int i0), (2, .int i1)]) (st' := [.int (0 : Int32)]) [(12, .iconst 0, 1, .int (0 : Int32)), (13, .goto 13, 3, .null)] (by decide +kernel) rfl ?_
    obtain rfl := Option.some.inj hm
    subst hQ
    exact aw_iret rfl (Nat.zero_le _) (Nat.zero_le _) (by decide +kernel) ⟨rfl, hs, h0⟩
def mX8_served1 : mt_ := (yX8_served1, cX8_served1, 4, some .int, [], { frames := 6, locals := 136, cells := 0, slots := 0 })
theorem ckX8_served1 : cokV_ mX8_served1 := ⟨⟨(uw_mem 2025 (by decide +kernel) (by decide +kernel)), (uw_mem 112 (by decide +kernel) (by decide +kernel)), by decide +kernel, by decide +kernel⟩, (uw_mem 2024 (by decide +kernel) (by decide +kernel)), (uw_mem 96 (by decide +kernel) (by decide +kernel))⟩
theorem nkX8_served1 : nok_ mX8_served1 2 := by decide +kernel
def fX8_served1 (s : st_) (i0 : Int32) (i1 : Int32) : Option (st_ × Int32) :=
  bn_ (fX8_picks s i0 i1) fun r1 =>
  if r1.2 = (-1 : Int32) then (some (r1.1, (-1 : Int32)))
  else (if (r1.1 0 15) = (0 : Int32) then (some (r1.1, r1.2))
  else (bn_ (fX8_armAt i0) fun r5 =>
  bn_ (fX8_armOf r1.1 i0 (1 : Int32)) fun r9 =>
  gd_ (ib_ (r5 + (1 : Int32)) 12584) <|
  bd_ (pt_ r1.1 1 (ix_ (r5 + (1 : Int32))) ((1 : Int32) - r9)) fun s14 =>
  some (s14, r1.2)))
set_option maxRecDepth 8000 in
theorem kX8_served1 {E : ev_} {H : Heap} {a : Nat} {s : st_} {i0 : Int32} {i1 : Int32} {r : st_ × Int32} (hm : fX8_served1 s i0 i1 = some r) (h0 : has_ E H a ly_O s) (hf : ev_fr E a) : sp_ E mX8_served1 [.ref a, .int i0, .int i1] H (po1 (.inl (some (.int r.2))) (fun Hn => sm_ H Hn a 10 ∧ has_ E Hn a ly_O r.1)) := by
  refine sp_of (by decide +kernel) rfl rfl ?_
  generalize hQ : po1 _ _ = Q
  have hs : sm_ H H a 10 := sm_.rfl'
  unfold fX8_served1 at hm
  refine aw_lv (lv' := [(0, .ref a), (1, .int i0), (2, .int i1)]) [0, 1, 2] rfl ?_
  refine aw_b (pc' := 3) (lv' := [(0, .ref a), (1, .int i0), (2, .int i1)]) (st' := [.int i1, .int i0, .ref a]) [(0, .aload_n 0, 1, .null), (1, .iload_n 1, 1, .null), (2, .iload_n 2, 1, .null)] (by decide +kernel) rfl ?_
  obtain ⟨r1, e2, hm⟩ := bn_x hm
  refine aw_cv (rest := []) (st1 := [.int r1.2]) a 0 (kX8_picks e2 h0 hf) rfl rfl ckX8_picks lkX8_292 h0 eo_O_0 ⟨_, _, rfl⟩ nkX8_picks rfl rfl rfl (Nat.le_of_ble_eq_true rfl) (Nat.zero_le _) (Nat.zero_le _) (by decide +kernel) (fun H3 z4 => ?_)
  obtain ⟨z4, hn⟩ := z4
  have h0 := hn
  have hs := hs.step z4 (by omega) (by omega)
  refine aw_b (pc' := 9) (lv' := [(3, .int r1.2), (0, .ref a), (1, .int i0), (2, .int i1)]) (st' := [.int (-1 : Int32), .int r1.2]) [(6, .istore_n 3, 1, .null), (7, .iload_n 3, 1, .null), (8, .iconst (-1), 1, .int (-1 : Int32))] (by decide +kernel) rfl ?_
  refine aw_ic_ne (off := 5) 14 (by decide) (by decide +kernel) (fun hc => ?_) (fun hc => ?_)
  · have hm := (if_neg hc).symm.trans hm
    refine aw_b (pc' := 15) (lv' := [(3, .int r1.2), (0, .ref a), (1, .int i0), (2, .int i1)]) (st' := [.ref a]) [(14, .aload_n 0, 1, .null)] (by decide +kernel) rfl ?_
    refine aw_gl (v := .int (r1.1 0 15)) a 0 h0 eo_O_0 fgX8_279 rfl (by decide +kernel) ?_
    refine aw_if_eq (off := 22) 40 (by decide) (by decide +kernel) (fun hc => ?_) (fun hc => ?_)
    · have hm := (if_pos hc).symm.trans hm
      refine aw_b (pc' := 41) (lv' := [(3, .int r1.2), (0, .ref a), (1, .int i0), (2, .int i1)]) (st' := [.int r1.2]) [(40, .iload_n 3, 1, .null)] (by decide +kernel) rfl ?_
      obtain rfl := Option.some.inj hm
      subst hQ
      exact aw_iret rfl (Nat.zero_le _) (Nat.zero_le _) (by decide +kernel) ⟨rfl, hs, h0⟩
    · have hm := (if_neg hc).symm.trans hm
      refine aw_b (pc' := 22) (lv' := [(3, .int r1.2), (0, .ref a), (1, .int i0), (2, .int i1)]) (st' := [.ref a]) [(21, .aload_n 0, 1, .null)] (by decide +kernel) rfl ?_
      refine aw_gl (v := .ref (a + 1)) a 0 h0 eo_O_0 fgX8_9 rfl (by decide +kernel) ?_
      refine aw_b (pc' := 26) (lv' := [(3, .int r1.2), (0, .ref a), (1, .int i0), (2, .int i1)]) (st' := [.int i0, .ref (a + 1)]) [(25, .iload_n 1, 1, .null)] (by decide +kernel) rfl ?_
      obtain ⟨r5, e6, hm⟩ := bn_x hm
      refine aw_cs (rest := [.ref (a + 1)]) (st1 := [.int r5, .ref (a + 1)]) (kX8_armAt e6) rfl rfl ckX8_armAt lkX8_215 nkX8_armAt rfl rfl rfl (Nat.le_of_ble_eq_true rfl) (Nat.zero_le _) (Nat.zero_le _) (by decide +kernel) (fun H7 z8 => ?_)
      have h0 := h0.kept0 z8
      have hs := hs.step0 z8
      refine aw_b (pc' := 35) (lv' := [(3, .int r1.2), (0, .ref a), (1, .int i0), (2, .int i1)]) (st' := [.int (1 : Int32), .int i0, .ref a, .int (1 : Int32), .int (r5 + (1 : Int32)), .ref (a + 1)]) [(29, .iconst 1, 1, .int (1 : Int32)), (30, .iadd, 1, .null), (31, .iconst 1, 1, .int (1 : Int32)), (32, .aload_n 0, 1, .null), (33, .iload_n 1, 1, .null), (34, .iconst 1, 1, .int (1 : Int32))] (by decide +kernel) rfl ?_
      obtain ⟨r9, e10, hm⟩ := bn_x hm
      refine aw_cv (rest := [.int (1 : Int32), .int (r5 + (1 : Int32)), .ref (a + 1)]) (st1 := [.int r9, .int (1 : Int32), .int (r5 + (1 : Int32)), .ref (a + 1)]) a 0 (kX8_armOf e10 h0) rfl rfl ckX8_armOf lkX8_232 h0 eo_O_0 ⟨_, _, rfl⟩ nkX8_armOf rfl rfl rfl (Nat.le_of_ble_eq_true rfl) (Nat.zero_le _) (Nat.zero_le _) (by decide +kernel) (fun H11 z12 => ?_)
      have h0 := h0.kept0 z12
      have hs := hs.step0 z12
      refine aw_b (pc' := 39) (lv' := [(3, .int r1.2), (0, .ref a), (1, .int i0), (2, .int i1)]) (st' := [.int ((1 : Int32) - r9), .int (r5 + (1 : Int32)), .ref (a + 1)]) [(38, .isub, 1, .null)] (by decide +kernel) rfl ?_
      obtain ⟨g13, hm⟩ := gd_x hm
      obtain ⟨s14, e15, hm⟩ := bd_x hm
      refine aw_isl a 1 h0 rfl hf g13 e15 (by decide +kernel) (fun H16 h0 z17 => ?_)
      have hs := hs.step z17 (by omega) (by omega)
      refine aw_b (pc' := 41) (lv' := [(3, .int r1.2), (0, .ref a), (1, .int i0), (2, .int i1)]) (st' := [.int r1.2]) [(40, .iload_n 3, 1, .null)] (by decide +kernel) rfl ?_
      obtain rfl := Option.some.inj hm
      subst hQ
      exact aw_iret rfl (Nat.zero_le _) (Nat.zero_le _) (by decide +kernel) ⟨rfl, hs, h0⟩
  · have hm := (if_pos hc).symm.trans hm
    refine aw_b (pc' := 13) (lv' := [(3, .int r1.2), (0, .ref a), (1, .int i0), (2, .int i1)]) (st' := [.int (-1 : Int32)]) [(12, .iconst (-1), 1, .int (-1 : Int32))] (by decide +kernel) rfl ?_
    obtain rfl := Option.some.inj hm
    subst hQ
    exact aw_iret rfl (Nat.zero_le _) (Nat.zero_le _) (by decide +kernel) ⟨rfl, hs, h0⟩
def mX8_notes : mt_ := (yX8_notes, cX8_notes, 6, none, [], { frames := 1, locals := 24, cells := 0, slots := 0 })
theorem ckX8_notes : cokV_ mX8_notes := ⟨⟨(uw_mem 2029 (by decide +kernel) (by decide +kernel)), (uw_mem 112 (by decide +kernel) (by decide +kernel)), by decide +kernel, by decide +kernel⟩, (uw_mem 2028 (by decide +kernel) (by decide +kernel)), (uw_mem 97 (by decide +kernel) (by decide +kernel))⟩
theorem nkX8_notes : nok_ mX8_notes 4 := by decide +kernel
theorem mtX8_308 : ml_ RX8 308 Lib.Math.min.name Lib.Math.min.code 2 .int := ⟨(uw_mem 1937 (by decide +kernel) (by decide +kernel)), (uw_mem 574 (by decide +kernel) (by decide +kernel)), (uw_mem 113 (by decide +kernel) (by decide +kernel)), (uw_mem 575 (by decide +kernel) (by decide +kernel))⟩
def fX8_notes_x26_56 (i0 : Int32) (i1 : Int32) (i2 : Int32) (i3 : Int32) (s_x26_56 : st_) : Option (st_) :=
  gd_ (ib_ (16 : Int32) 12584) <|
  gd_ (ib_ (448 : Int32) 12584) <|
  bd_ (pt_ s_x26_56 1 (ix_ (448 : Int32)) (s_x26_56 1 (ix_ (16 : Int32)))) fun s9 =>
  gd_ (ib_ (449 : Int32) 12584) <|
  bd_ (pt_ s9 1 (ix_ (449 : Int32)) i0) fun s14 =>
  gd_ (ib_ (450 : Int32) 12584) <|
  bd_ (pt_ s14 1 (ix_ (450 : Int32)) i1) fun s19 =>
  gd_ (ib_ (451 : Int32) 12584) <|
  bd_ (pt_ s19 1 (ix_ (451 : Int32)) i2) fun s24 =>
  gd_ (ib_ (452 : Int32) 12584) <|
  bd_ (pt_ s24 1 (ix_ (452 : Int32)) i3) fun s29 =>
  some s29
def fX8_notes_k26 (i0 : Int32) (i1 : Int32) (i2 : Int32) (i3 : Int32) (x : st_) : Option (st_) :=
  fX8_notes_x26_56 i0 i1 i2 i3 x
def fX8_notes_b26 (v5_b26 : Int32) (s_b26 : st_) : Option ((Int32 × st_) ⊕ (st_)) :=
  if v5_b26 < (453 : Int32) then (some (.inr s_b26))
  else (gd_ (ib_ (v5_b26 - (5 : Int32)) 12584) <|
  gd_ (ib_ v5_b26 12584) <|
  bd_ (pt_ s_b26 1 (ix_ v5_b26) (s_b26 1 (ix_ (v5_b26 - (5 : Int32))))) fun s35 =>
  some (.inl ((v5_b26 + (-1 : Int32)), s35)))
def fX8_notes_l26 : Nat → (Int32 × st_) → Option (st_) :=
  it_ (fun v => fX8_notes_b26 v.1 v.2)
def fX8_notes (s : st_) (i0 : Int32) (i1 : Int32) (i2 : Int32) (i3 : Int32) : Option (st_) :=
  gd_ (ib_ (20 : Int32) 12584) <|
  gd_ (ib_ (20 : Int32) 12584) <|
  bd_ (pt_ s 1 (ix_ (20 : Int32)) (if ((s 1 (ix_ (20 : Int32))) + (1 : Int32)) < (20 : Int32) then ((s 1 (ix_ (20 : Int32))) + (1 : Int32)) else (20 : Int32))) fun s3 =>
  bn_ (fX8_notes_l26 FU_ ((547 : Int32), s3)) (fX8_notes_k26 i0 i1 i2 i3)
set_option maxRecDepth 8000 in
theorem kX8_notes {E : ev_} {H : Heap} {a : Nat} {s : st_} {i0 : Int32} {i1 : Int32} {i2 : Int32} {i3 : Int32} {r : st_} (hm : fX8_notes s i0 i1 i2 i3 = some r) (h0 : has_ E H a ly_O s) (hf : ev_fr E a) : sp_ E mX8_notes [.ref a, .int i0, .int i1, .int i2, .int i3] H (po1 (.inl (none)) (fun Hn => sm_ H Hn a 10 ∧ has_ E Hn a ly_O r)) := by
  refine sp_of (by decide +kernel) rfl rfl ?_
  generalize hQ : po1 _ _ = Q
  have hs : sm_ H H a 10 := sm_.rfl'
  unfold fX8_notes at hm
  refine aw_lv (lv' := [(0, .ref a), (1, .int i0), (2, .int i1), (3, .int i2), (4, .int i3)]) [0, 1, 2, 3, 4] rfl ?_
  refine aw_b (pc' := 1) (lv' := [(0, .ref a), (1, .int i0), (2, .int i1), (3, .int i2), (4, .int i3)]) (st' := [.ref a]) [(0, .aload_n 0, 1, .null)] (by decide +kernel) rfl ?_
  refine aw_gl (v := .ref (a + 1)) a 0 h0 eo_O_0 fgX8_9 rfl (by decide +kernel) ?_
  refine aw_b (pc' := 9) (lv' := [(0, .ref a), (1, .int i0), (2, .int i1), (3, .int i2), (4, .int i3)]) (st' := [.ref a, .int (20 : Int32), .int (20 : Int32), .ref (a + 1)]) [(4, .bipush 20, 2, .int (20 : Int32)), (6, .bipush 20, 2, .int (20 : Int32)), (8, .aload_n 0, 1, .null)] (by decide +kernel) rfl ?_
  refine aw_gl (v := .ref (a + 1)) a 0 h0 eo_O_0 fgX8_9 rfl (by decide +kernel) ?_
  refine aw_b (pc' := 14) (lv' := [(0, .ref a), (1, .int i0), (2, .int i1), (3, .int i2), (4, .int i3)]) (st' := [.int (20 : Int32), .ref (a + 1), .int (20 : Int32), .int (20 : Int32), .ref (a + 1)]) [(12, .bipush 20, 2, .int (20 : Int32))] (by decide +kernel) rfl ?_
  obtain ⟨g1, hm⟩ := gd_x hm
  refine aw_ial a 1 h0 rfl g1 (by decide +kernel) ?_
  refine aw_b (pc' := 17) (lv' := [(0, .ref a), (1, .int i0), (2, .int i1), (3, .int i2), (4, .int i3)]) (st' := [.int ((s 1 (ix_ (20 : Int32))) + (1 : Int32)), .int (20 : Int32), .int (20 : Int32), .ref (a + 1)]) [(15, .iconst 1, 1, .int (1 : Int32)), (16, .iadd, 1, .null)] (by decide +kernel) rfl ?_
  refine aw_mn (rest := [.int (20 : Int32), .ref (a + 1)]) mtX8_308 rfl (Nat.le_of_ble_eq_true rfl) (Nat.zero_le _) (Nat.zero_le _) (by decide +kernel) ?_
  obtain ⟨g2, hm⟩ := gd_x hm
  obtain ⟨s3, e4, hm⟩ := bd_x hm
  refine aw_isl a 1 h0 rfl hf g2 e4 (by decide +kernel) (fun H5 h0 z6 => ?_)
  have hs := hs.step z6 (by omega) (by omega)
  refine aw_b (pc' := 26) (lv' := [(5, .int (547 : Int32)), (0, .ref a), (1, .int i0), (2, .int i1), (3, .int i2), (4, .int i3)]) (st' := []) [(21, .sipush 547, 3, .int (547 : Int32)), (24, .istore 5, 2, .null)] (by decide +kernel) rfl ?_
  obtain ⟨x26, hx26, hr26⟩ := bn_x hm
  have X26_56 : ∀ (s_x26_56 : st_) (H_x26_56 : Heap), has_ E H_x26_56 a ly_O s_x26_56 → sm_ H H_x26_56 a 10 → fX8_notes_x26_56 i0 i1 i2 i3 s_x26_56 = some r → aw E mX8_notes Q 56 [(0, .ref a), (1, .int i0), (2, .int i1), (3, .int i2), (4, .int i3)] [] H_x26_56 0 0 := by
    intro s_x26_56 H_x26_56 h0 hs hm
    unfold fX8_notes_x26_56 at hm
    refine aw_b (pc' := 57) (lv' := [(0, .ref a), (1, .int i0), (2, .int i1), (3, .int i2), (4, .int i3)]) (st' := [.ref a]) [(56, .aload_n 0, 1, .null)] (by decide +kernel) rfl ?_
    refine aw_gl (v := .ref (a + 1)) a 0 h0 eo_O_0 fgX8_9 rfl (by decide +kernel) ?_
    refine aw_b (pc' := 64) (lv' := [(0, .ref a), (1, .int i0), (2, .int i1), (3, .int i2), (4, .int i3)]) (st' := [.ref a, .int (448 : Int32), .ref (a + 1)]) [(60, .sipush 448, 3, .int (448 : Int32)), (63, .aload_n 0, 1, .null)] (by decide +kernel) rfl ?_
    refine aw_gl (v := .ref (a + 1)) a 0 h0 eo_O_0 fgX8_9 rfl (by decide +kernel) ?_
    refine aw_b (pc' := 69) (lv' := [(0, .ref a), (1, .int i0), (2, .int i1), (3, .int i2), (4, .int i3)]) (st' := [.int (16 : Int32), .ref (a + 1), .int (448 : Int32), .ref (a + 1)]) [(67, .bipush 16, 2, .int (16 : Int32))] (by decide +kernel) rfl ?_
    obtain ⟨g7, hm⟩ := gd_x hm
    refine aw_ial a 1 h0 rfl g7 (by decide +kernel) ?_
    obtain ⟨g8, hm⟩ := gd_x hm
    obtain ⟨s9, e10, hm⟩ := bd_x hm
    refine aw_isl a 1 h0 rfl hf g8 e10 (by decide +kernel) (fun H11 h0 z12 => ?_)
    have hs := hs.step z12 (by omega) (by omega)
    refine aw_b (pc' := 72) (lv' := [(0, .ref a), (1, .int i0), (2, .int i1), (3, .int i2), (4, .int i3)]) (st' := [.ref a]) [(71, .aload_n 0, 1, .null)] (by decide +kernel) rfl ?_
    refine aw_gl (v := .ref (a + 1)) a 0 h0 eo_O_0 fgX8_9 rfl (by decide +kernel) ?_
    refine aw_b (pc' := 79) (lv' := [(0, .ref a), (1, .int i0), (2, .int i1), (3, .int i2), (4, .int i3)]) (st' := [.int i0, .int (449 : Int32), .ref (a + 1)]) [(75, .sipush 449, 3, .int (449 : Int32)), (78, .iload_n 1, 1, .null)] (by decide +kernel) rfl ?_
    obtain ⟨g13, hm⟩ := gd_x hm
    obtain ⟨s14, e15, hm⟩ := bd_x hm
    refine aw_isl a 1 h0 rfl hf g13 e15 (by decide +kernel) (fun H16 h0 z17 => ?_)
    have hs := hs.step z17 (by omega) (by omega)
    refine aw_b (pc' := 81) (lv' := [(0, .ref a), (1, .int i0), (2, .int i1), (3, .int i2), (4, .int i3)]) (st' := [.ref a]) [(80, .aload_n 0, 1, .null)] (by decide +kernel) rfl ?_
    refine aw_gl (v := .ref (a + 1)) a 0 h0 eo_O_0 fgX8_9 rfl (by decide +kernel) ?_
    refine aw_b (pc' := 88) (lv' := [(0, .ref a), (1, .int i0), (2, .int i1), (3, .int i2), (4, .int i3)]) (st' := [.int i1, .int (450 : Int32), .ref (a + 1)]) [(84, .sipush 450, 3, .int (450 : Int32)), (87, .iload_n 2, 1, .null)] (by decide +kernel) rfl ?_
    obtain ⟨g18, hm⟩ := gd_x hm
    obtain ⟨s19, e20, hm⟩ := bd_x hm
    refine aw_isl a 1 h0 rfl hf g18 e20 (by decide +kernel) (fun H21 h0 z22 => ?_)
    have hs := hs.step z22 (by omega) (by omega)
    refine aw_b (pc' := 90) (lv' := [(0, .ref a), (1, .int i0), (2, .int i1), (3, .int i2), (4, .int i3)]) (st' := [.ref a]) [(89, .aload_n 0, 1, .null)] (by decide +kernel) rfl ?_
    refine aw_gl (v := .ref (a + 1)) a 0 h0 eo_O_0 fgX8_9 rfl (by decide +kernel) ?_
    refine aw_b (pc' := 97) (lv' := [(0, .ref a), (1, .int i0), (2, .int i1), (3, .int i2), (4, .int i3)]) (st' := [.int i2, .int (451 : Int32), .ref (a + 1)]) [(93, .sipush 451, 3, .int (451 : Int32)), (96, .iload_n 3, 1, .null)] (by decide +kernel) rfl ?_
    obtain ⟨g23, hm⟩ := gd_x hm
    obtain ⟨s24, e25, hm⟩ := bd_x hm
    refine aw_isl a 1 h0 rfl hf g23 e25 (by decide +kernel) (fun H26 h0 z27 => ?_)
    have hs := hs.step z27 (by omega) (by omega)
    refine aw_b (pc' := 99) (lv' := [(0, .ref a), (1, .int i0), (2, .int i1), (3, .int i2), (4, .int i3)]) (st' := [.ref a]) [(98, .aload_n 0, 1, .null)] (by decide +kernel) rfl ?_
    refine aw_gl (v := .ref (a + 1)) a 0 h0 eo_O_0 fgX8_9 rfl (by decide +kernel) ?_
    refine aw_b (pc' := 107) (lv' := [(0, .ref a), (1, .int i0), (2, .int i1), (3, .int i2), (4, .int i3)]) (st' := [.int i3, .int (452 : Int32), .ref (a + 1)]) [(102, .sipush 452, 3, .int (452 : Int32)), (105, .iload 4, 2, .null)] (by decide +kernel) rfl ?_
    obtain ⟨g28, hm⟩ := gd_x hm
    obtain ⟨s29, e30, hm⟩ := bd_x hm
    refine aw_isl a 1 h0 rfl hf g28 e30 (by decide +kernel) (fun H31 h0 z32 => ?_)
    have hs := hs.step z32 (by omega) (by omega)
    obtain rfl := Option.some.inj hm
    subst hQ
    exact aw_vret rfl (Nat.zero_le _) (Nat.zero_le _) (by decide +kernel) ⟨rfl, hs, h0⟩
  have L26 : ∀ (fu : Nat) (v5_b26 : Int32) (s_b26 : st_) (H_b26 : Heap), has_ E H_b26 a ly_O s_b26 → sm_ H H_b26 a 10 → fX8_notes_l26 fu (v5_b26, s_b26) = some x26 → aw E mX8_notes Q 26 [(0, .ref a), (1, .int i0), (2, .int i1), (3, .int i2), (4, .int i3), (5, .int v5_b26)] [] H_b26 0 0 := by
    intro fu
    induction fu with
    | zero =>
      intro v5_b26 s_b26 H_b26 h0 hs hm
      exact (it_0 hm).elim
    | succ fu ih26 =>
      intro v5_b26 s_b26 H_b26 h0 hs hm
      obtain ⟨y26, hm, hk26⟩ := it_s hm
      have hm : fX8_notes_b26 v5_b26 s_b26 = some y26 := hm
      unfold fX8_notes_b26 at hm
      refine aw_b (pc' := 31) (lv' := [(0, .ref a), (1, .int i0), (2, .int i1), (3, .int i2), (4, .int i3), (5, .int v5_b26)]) (st' := [.int (453 : Int32), .int v5_b26]) [(26, .iload 5, 2, .null), (28, .sipush 453, 3, .int (453 : Int32))] (by decide +kernel) rfl ?_
      refine aw_ic_lt (off := 25) 56 (by decide) (by decide +kernel) (fun hc => ?_) (fun hc => ?_)
      · have hm := (if_pos hc).symm.trans hm
        cases hm
        refine aw_lv (lv' := [(0, .ref a), (1, .int i0), (2, .int i1), (3, .int i2), (4, .int i3)]) [0, 1, 2, 3, 4] rfl ?_
        exact X26_56 s_b26 H_b26 h0 hs ((congrArg (fX8_notes_k26 i0 i1 i2 i3) (show (s_b26) = x26 from hk26)).trans hr26)
      · have hm := (if_neg hc).symm.trans hm
        refine aw_b (pc' := 35) (lv' := [(0, .ref a), (1, .int i0), (2, .int i1), (3, .int i2), (4, .int i3), (5, .int v5_b26)]) (st' := [.ref a]) [(34, .aload_n 0, 1, .null)] (by decide +kernel) rfl ?_
        refine aw_gl (v := .ref (a + 1)) a 0 h0 eo_O_0 fgX8_9 rfl (by decide +kernel) ?_
        refine aw_b (pc' := 41) (lv' := [(0, .ref a), (1, .int i0), (2, .int i1), (3, .int i2), (4, .int i3), (5, .int v5_b26)]) (st' := [.ref a, .int v5_b26, .ref (a + 1)]) [(38, .iload 5, 2, .null), (40, .aload_n 0, 1, .null)] (by decide +kernel) rfl ?_
        refine aw_gl (v := .ref (a + 1)) a 0 h0 eo_O_0 fgX8_9 rfl (by decide +kernel) ?_
        refine aw_b (pc' := 48) (lv' := [(0, .ref a), (1, .int i0), (2, .int i1), (3, .int i2), (4, .int i3), (5, .int v5_b26)]) (st' := [.int (v5_b26 - (5 : Int32)), .ref (a + 1), .int v5_b26, .ref (a + 1)]) [(44, .iload 5, 2, .null), (46, .iconst 5, 1, .int (5 : Int32)), (47, .isub, 1, .null)] (by decide +kernel) rfl ?_
        obtain ⟨g33, hm⟩ := gd_x hm
        refine aw_ial a 1 h0 rfl g33 (by decide +kernel) ?_
        obtain ⟨g34, hm⟩ := gd_x hm
        obtain ⟨s35, e36, hm⟩ := bd_x hm
        refine aw_isl a 1 h0 rfl hf g34 e36 (by decide +kernel) (fun H37 h0 z38 => ?_)
        have hs := hs.step z38 (by omega) (by omega)
        refine aw_b (pc' := 26) (lv' := [(5, .int (v5_b26 + (-1 : Int32))), (0, .ref a), (1, .int i0), (2, .int i1), (3, .int i2), (4, .int i3)]) (st' := []) [(50, .iinc 5 (-1), 3, .int (-1 : Int32)), (53, .goto (-27), 3, .null)] (by decide +kernel) rfl ?_
        cases hm
        refine aw_lv (lv' := [(0, .ref a), (1, .int i0), (2, .int i1), (3, .int i2), (4, .int i3), (5, .int (v5_b26 + (-1 : Int32)))]) [1, 2, 3, 4, 5, 0] rfl ?_
        exact ih26 (v5_b26 + (-1 : Int32)) s35 H37 h0 hs hk26
  refine aw_lv (lv' := [(0, .ref a), (1, .int i0), (2, .int i1), (3, .int i2), (4, .int i3), (5, .int (547 : Int32))]) [1, 2, 3, 4, 5, 0] rfl ?_
  exact L26 FU_ (547 : Int32) s3 H5 h0 hs hx26
def mX8_serves : mt_ := (yX8_serves, cX8_serves, 8, some .int, [], { frames := 7, locals := 159, cells := 0, slots := 0 })
theorem ckX8_serves : cokV_ mX8_serves := ⟨⟨(uw_mem 2021 (by decide +kernel) (by decide +kernel)), (uw_mem 112 (by decide +kernel) (by decide +kernel)), by decide +kernel, by decide +kernel⟩, (uw_mem 2020 (by decide +kernel) (by decide +kernel)), (uw_mem 95 (by decide +kernel) (by decide +kernel))⟩
theorem nkX8_serves : nok_ mX8_serves 2 := by decide +kernel
theorem lkX8_298 : Cond.methodLink RX8 298 yX8_served1 ∈ uw_ := (uw_mem 2022 (by decide +kernel) (by decide +kernel))
theorem mtX8_305 : ml_ RX8 305 Lib.Math.max.name Lib.Math.max.code 2 .int := ⟨(uw_mem 1866 (by decide +kernel) (by decide +kernel)), (uw_mem 876 (by decide +kernel) (by decide +kernel)), (uw_mem 113 (by decide +kernel) (by decide +kernel)), (uw_mem 877 (by decide +kernel) (by decide +kernel))⟩
theorem lkX8_301 : Cond.methodLink RX8 301 yX8_notes ∈ uw_ := (uw_mem 2026 (by decide +kernel) (by decide +kernel))
def fX8_serves_x187_231 (r9 : Int32) (s_x187_231 : st_) : Option (st_ × Int32) :=
  bn_ (fX8_costOf s_x187_231 r9) fun r58 =>
  some (s_x187_231, r58)
def fX8_serves_k187 (r9 : Int32) (x : st_) : Option (st_ × Int32) :=
  fX8_serves_x187_231 r9 x
def fX8_serves_b187 (r5 : Int32) (v7_b187 : Int32) (s_b187 : st_) : Option ((Int32 × st_) ⊕ (st_)) :=
  gd_ (ib_ (r5 + (2 : Int32)) 12584) <|
  if ((r5 + (7 : Int32)) + ((2 : Int32) * (s_b187 1 (ix_ (r5 + (2 : Int32)))))) ≤ v7_b187 then (some (.inr s_b187))
  else (gd_ (ib_ (v7_b187 + (2 : Int32)) 12584) <|
  gd_ (ib_ v7_b187 12584) <|
  bd_ (pt_ s_b187 1 (ix_ v7_b187) (s_b187 1 (ix_ (v7_b187 + (2 : Int32))))) fun s65 =>
  some (.inl ((v7_b187 + (1 : Int32)), s65)))
def fX8_serves_l187 (r5 : Int32) : Nat → (Int32 × st_) → Option (st_) :=
  it_ (fun v => fX8_serves_b187 r5 v.1 v.2)
def fX8_serves_j71 (i0 : Int32) (r1 : st_ × Int32) (r5 : Int32) (r9 : Int32) (s_j71 : st_) : Option (st_ × Int32) :=
  bn_ (fX8_cylinderOf s_j71 i0 r1.2) fun r14 =>
  gd_ (ib_ (r5 + (0 : Int32)) 12584) <|
  bd_ (pt_ s_j71 1 (ix_ (r5 + (0 : Int32))) r14) fun s19 =>
  gd_ (ib_ (r5 + (3 : Int32)) 12584) <|
  bn_ (fX8_costOf s19 r9) fun r24 =>
  gd_ (ib_ (r5 + (3 : Int32)) 12584) <|
  bd_ (pt_ s19 1 (ix_ (r5 + (3 : Int32))) ((s19 1 (ix_ (r5 + (3 : Int32)))) + r24)) fun s29 =>
  gd_ (ib_ (r5 + (4 : Int32)) 12584) <|
  gd_ (ib_ (r5 + (4 : Int32)) 12584) <|
  bd_ (pt_ s29 1 (ix_ (r5 + (4 : Int32))) ((s29 1 (ix_ (r5 + (4 : Int32)))) + r9)) fun s35 =>
  gd_ (ib_ (r5 + (5 : Int32)) 12584) <|
  gd_ (ib_ (16 : Int32) 12584) <|
  gd_ (ib_ (r5 + (5 : Int32)) 12584) <|
  bd_ (pt_ s35 1 (ix_ (r5 + (5 : Int32))) (if (s35 1 (ix_ (r5 + (5 : Int32)))) < ((s35 1 (ix_ (16 : Int32))) - (r1.1 1 (ix_ (((r5 + (7 : Int32)) + ((2 : Int32) * r1.2)) + (1 : Int32))))) then ((s35 1 (ix_ (16 : Int32))) - (r1.1 1 (ix_ (((r5 + (7 : Int32)) + ((2 : Int32) * r1.2)) + (1 : Int32))))) else (s35 1 (ix_ (r5 + (5 : Int32)))))) fun s42 =>
  gd_ (ib_ (r5 + (6 : Int32)) 12584) <|
  gd_ (ib_ (r5 + (6 : Int32)) 12584) <|
  bd_ (pt_ s42 1 (ix_ (r5 + (6 : Int32))) ((s42 1 (ix_ (r5 + (6 : Int32)))) + (1 : Int32))) fun s48 =>
  gd_ (ib_ (r5 + (2 : Int32)) 12584) <|
  gd_ (ib_ (r5 + (2 : Int32)) 12584) <|
  bd_ (pt_ s48 1 (ix_ (r5 + (2 : Int32))) ((s48 1 (ix_ (r5 + (2 : Int32)))) - (1 : Int32))) fun s54 =>
  bn_ (fX8_serves_l187 r5 FU_ (((r5 + (7 : Int32)) + ((2 : Int32) * r1.2)), s54)) (fX8_serves_k187 r9)
def fX8_serves (s : st_) (i0 : Int32) (i1 : Int32) : Option (st_ × Int32) :=
  bn_ (fX8_served1 s i0 i1) fun r1 =>
  if r1.2 = (-1 : Int32) then (some (r1.1, (0 : Int32)))
  else (bn_ (fX8_armAt i0) fun r5 =>
  bn_ (fX8_farOf r1.1 i0 r1.2) fun r9 =>
  gd_ (ib_ (((r5 + (7 : Int32)) + ((2 : Int32) * r1.2)) + (1 : Int32)) 12584) <|
  if i0 = (6 : Int32) then (bn_ (fX8_cylinderOf r1.1 i0 r1.2) fun r69 =>
  bn_ (fX8_costOf r1.1 r9) fun r73 =>
  bn_ (fX8_notes r1.1 r69 (r1.1 1 (ix_ (((r5 + (7 : Int32)) + ((2 : Int32) * r1.2)) + (1 : Int32)))) r73 i1) fun r77 =>
  fX8_serves_j71 i0 r1 r5 r9 r77)
  else (fX8_serves_j71 i0 r1 r5 r9 r1.1))
set_option maxRecDepth 8000 in
theorem kX8_serves {E : ev_} {H : Heap} {a : Nat} {s : st_} {i0 : Int32} {i1 : Int32} {r : st_ × Int32} (hm : fX8_serves s i0 i1 = some r) (h0 : has_ E H a ly_O s) (hf : ev_fr E a) : sp_ E mX8_serves [.ref a, .int i0, .int i1] H (po1 (.inl (some (.int r.2))) (fun Hn => sm_ H Hn a 10 ∧ has_ E Hn a ly_O r.1)) := by
  refine sp_of (by decide +kernel) rfl rfl ?_
  generalize hQ : po1 _ _ = Q
  have hs : sm_ H H a 10 := sm_.rfl'
  unfold fX8_serves at hm
  refine aw_lv (lv' := [(0, .ref a), (1, .int i0), (2, .int i1)]) [0, 1, 2] rfl ?_
  refine aw_b (pc' := 3) (lv' := [(0, .ref a), (1, .int i0), (2, .int i1)]) (st' := [.int i1, .int i0, .ref a]) [(0, .aload_n 0, 1, .null), (1, .iload_n 1, 1, .null), (2, .iload_n 2, 1, .null)] (by decide +kernel) rfl ?_
  obtain ⟨r1, e2, hm⟩ := bn_x hm
  refine aw_cv (rest := []) (st1 := [.int r1.2]) a 0 (kX8_served1 e2 h0 hf) rfl rfl ckX8_served1 lkX8_298 h0 eo_O_0 ⟨_, _, rfl⟩ nkX8_served1 rfl rfl rfl (Nat.le_of_ble_eq_true rfl) (Nat.zero_le _) (Nat.zero_le _) (by decide +kernel) (fun H3 z4 => ?_)
  obtain ⟨z4, hn⟩ := z4
  have h0 := hn
  have hs := hs.step z4 (by omega) (by omega)
  refine aw_b (pc' := 9) (lv' := [(3, .int r1.2), (0, .ref a), (1, .int i0), (2, .int i1)]) (st' := [.int (-1 : Int32), .int r1.2]) [(6, .istore_n 3, 1, .null), (7, .iload_n 3, 1, .null), (8, .iconst (-1), 1, .int (-1 : Int32))] (by decide +kernel) rfl ?_
  refine aw_ic_ne (off := 5) 14 (by decide) (by decide +kernel) (fun hc => ?_) (fun hc => ?_)
  · have hm := (if_neg hc).symm.trans hm
    refine aw_b (pc' := 15) (lv' := [(3, .int r1.2), (0, .ref a), (1, .int i0), (2, .int i1)]) (st' := [.int i0]) [(14, .iload_n 1, 1, .null)] (by decide +kernel) rfl ?_
    obtain ⟨r5, e6, hm⟩ := bn_x hm
    refine aw_cs (rest := []) (st1 := [.int r5]) (kX8_armAt e6) rfl rfl ckX8_armAt lkX8_215 nkX8_armAt rfl rfl rfl (Nat.le_of_ble_eq_true rfl) (Nat.zero_le _) (Nat.zero_le _) (by decide +kernel) (fun H7 z8 => ?_)
    have h0 := h0.kept0 z8
    have hs := hs.step0 z8
    refine aw_b (pc' := 23) (lv' := [(4, .int r5), (3, .int r1.2), (0, .ref a), (1, .int i0), (2, .int i1)]) (st' := [.int r1.2, .int i0, .ref a]) [(18, .istore 4, 2, .null), (20, .aload_n 0, 1, .null), (21, .iload_n 1, 1, .null), (22, .iload_n 3, 1, .null)] (by decide +kernel) rfl ?_
    obtain ⟨r9, e10, hm⟩ := bn_x hm
    refine aw_cv (rest := []) (st1 := [.int r9]) a 0 (kX8_farOf e10 h0) rfl rfl ckX8_farOf lkX8_273 h0 eo_O_0 ⟨_, _, rfl⟩ nkX8_farOf rfl rfl rfl (Nat.le_of_ble_eq_true rfl) (Nat.zero_le _) (Nat.zero_le _) (by decide +kernel) (fun H11 z12 => ?_)
    have h0 := h0.kept0 z12
    have hs := hs.step0 z12
    refine aw_b (pc' := 29) (lv' := [(5, .int r9), (4, .int r5), (3, .int r1.2), (0, .ref a), (1, .int i0), (2, .int i1)]) (st' := [.ref a]) [(26, .istore 5, 2, .null), (28, .aload_n 0, 1, .null)] (by decide +kernel) rfl ?_
    refine aw_gl (v := .ref (a + 1)) a 0 h0 eo_O_0 fgX8_9 rfl (by decide +kernel) ?_
    refine aw_b (pc' := 43) (lv' := [(5, .int r9), (4, .int r5), (3, .int r1.2), (0, .ref a), (1, .int i0), (2, .int i1)]) (st' := [.int (((r5 + (7 : Int32)) + ((2 : Int32) * r1.2)) + (1 : Int32)), .ref (a + 1)]) [(32, .iload 4, 2, .null), (34, .bipush 7, 2, .int (7 : Int32)), (36, .iadd, 1, .null), (37, .iconst 2, 1, .int (2 : Int32)), (38, .iload_n 3, 1, .null), (39, .imul, 1, .null), (40, .iadd, 1, .null), (41, .iconst 1, 1, .int (1 : Int32)), (42, .iadd, 1, .null)] (by decide +kernel) rfl ?_
    obtain ⟨g13, hm⟩ := gd_x hm
    refine aw_ial a 1 h0 rfl g13 (by decide +kernel) ?_
    refine aw_b (pc' := 49) (lv' := [(6, .int (r1.1 1 (ix_ (((r5 + (7 : Int32)) + ((2 : Int32) * r1.2)) + (1 : Int32))))), (5, .int r9), (4, .int r5), (3, .int r1.2), (0, .ref a), (1, .int i0), (2, .int i1)]) (st' := [.int (6 : Int32), .int i0]) [(44, .istore 6, 2, .null), (46, .iload_n 1, 1, .null), (47, .bipush 6, 2, .int (6 : Int32))] (by decide +kernel) rfl ?_
    have J71 : ∀ (s_j71 : st_) (H_j71 : Heap), has_ E H_j71 a ly_O s_j71 → sm_ H H_j71 a 10 → fX8_serves_j71 i0 r1 r5 r9 s_j71 = some r → aw E mX8_serves Q 71 [(0, .ref a), (1, .int i0), (3, .int r1.2), (4, .int r5), (5, .int r9), (6, .int (r1.1 1 (ix_ (((r5 + (7 : Int32)) + ((2 : Int32) * r1.2)) + (1 : Int32)))))] [] H_j71 0 0 := by
      intro s_j71 H_j71 h0 hs hm
      unfold fX8_serves_j71 at hm
      refine aw_b (pc' := 72) (lv' := [(0, .ref a), (1, .int i0), (3, .int r1.2), (4, .int r5), (5, .int r9), (6, .int (r1.1 1 (ix_ (((r5 + (7 : Int32)) + ((2 : Int32) * r1.2)) + (1 : Int32)))))]) (st' := [.ref a]) [(71, .aload_n 0, 1, .null)] (by decide +kernel) rfl ?_
      refine aw_gl (v := .ref (a + 1)) a 0 h0 eo_O_0 fgX8_9 rfl (by decide +kernel) ?_
      refine aw_b (pc' := 82) (lv' := [(0, .ref a), (1, .int i0), (3, .int r1.2), (4, .int r5), (5, .int r9), (6, .int (r1.1 1 (ix_ (((r5 + (7 : Int32)) + ((2 : Int32) * r1.2)) + (1 : Int32)))))]) (st' := [.int r1.2, .int i0, .ref a, .int (r5 + (0 : Int32)), .ref (a + 1)]) [(75, .iload 4, 2, .null), (77, .iconst 0, 1, .int (0 : Int32)), (78, .iadd, 1, .null), (79, .aload_n 0, 1, .null), (80, .iload_n 1, 1, .null), (81, .iload_n 3, 1, .null)] (by decide +kernel) rfl ?_
      obtain ⟨r14, e15, hm⟩ := bn_x hm
      refine aw_cv (rest := [.int (r5 + (0 : Int32)), .ref (a + 1)]) (st1 := [.int r14, .int (r5 + (0 : Int32)), .ref (a + 1)]) a 0 (kX8_cylinderOf e15 h0) rfl rfl ckX8_cylinderOf lkX8_267 h0 eo_O_0 ⟨_, _, rfl⟩ nkX8_cylinderOf rfl rfl rfl (Nat.le_of_ble_eq_true rfl) (Nat.zero_le _) (Nat.zero_le _) (by decide +kernel) (fun H16 z17 => ?_)
      have h0 := h0.kept0 z17
      have hs := hs.step0 z17
      obtain ⟨g18, hm⟩ := gd_x hm
      obtain ⟨s19, e20, hm⟩ := bd_x hm
      refine aw_isl a 1 h0 rfl hf g18 e20 (by decide +kernel) (fun H21 h0 z22 => ?_)
      have hs := hs.step z22 (by omega) (by omega)
      refine aw_b (pc' := 87) (lv' := [(0, .ref a), (1, .int i0), (3, .int r1.2), (4, .int r5), (5, .int r9), (6, .int (r1.1 1 (ix_ (((r5 + (7 : Int32)) + ((2 : Int32) * r1.2)) + (1 : Int32)))))]) (st' := [.ref a]) [(86, .aload_n 0, 1, .null)] (by decide +kernel) rfl ?_
      refine aw_gl (v := .ref (a + 1)) a 0 h0 eo_O_0 fgX8_9 rfl (by decide +kernel) ?_
      refine aw_b (pc' := 95) (lv' := [(0, .ref a), (1, .int i0), (3, .int r1.2), (4, .int r5), (5, .int r9), (6, .int (r1.1 1 (ix_ (((r5 + (7 : Int32)) + ((2 : Int32) * r1.2)) + (1 : Int32)))))]) (st' := [.int (r5 + (3 : Int32)), .ref (a + 1), .int (r5 + (3 : Int32)), .ref (a + 1)]) [(90, .iload 4, 2, .null), (92, .iconst 3, 1, .int (3 : Int32)), (93, .iadd, 1, .null), (94, .dup2, 1, .null)] (by decide +kernel) rfl ?_
      obtain ⟨g23, hm⟩ := gd_x hm
      refine aw_ial a 1 h0 rfl g23 (by decide +kernel) ?_
      refine aw_b (pc' := 99) (lv' := [(0, .ref a), (1, .int i0), (3, .int r1.2), (4, .int r5), (5, .int r9), (6, .int (r1.1 1 (ix_ (((r5 + (7 : Int32)) + ((2 : Int32) * r1.2)) + (1 : Int32)))))]) (st' := [.int r9, .ref a, .int (s19 1 (ix_ (r5 + (3 : Int32)))), .int (r5 + (3 : Int32)), .ref (a + 1)]) [(96, .aload_n 0, 1, .null), (97, .iload 5, 2, .null)] (by decide +kernel) rfl ?_
      obtain ⟨r24, e25, hm⟩ := bn_x hm
      refine aw_cv (rest := [.int (s19 1 (ix_ (r5 + (3 : Int32)))), .int (r5 + (3 : Int32)), .ref (a + 1)]) (st1 := [.int r24, .int (s19 1 (ix_ (r5 + (3 : Int32)))), .int (r5 + (3 : Int32)), .ref (a + 1)]) a 0 (kX8_costOf e25 h0) rfl rfl ckX8_costOf lkX8_295 h0 eo_O_0 ⟨_, _, rfl⟩ nkX8_costOf rfl rfl rfl (Nat.le_of_ble_eq_true rfl) (Nat.zero_le _) (Nat.zero_le _) (by decide +kernel) (fun H26 z27 => ?_)
      have h0 := h0.kept0 z27
      have hs := hs.step0 z27
      refine aw_b (pc' := 103) (lv' := [(0, .ref a), (1, .int i0), (3, .int r1.2), (4, .int r5), (5, .int r9), (6, .int (r1.1 1 (ix_ (((r5 + (7 : Int32)) + ((2 : Int32) * r1.2)) + (1 : Int32)))))]) (st' := [.int ((s19 1 (ix_ (r5 + (3 : Int32)))) + r24), .int (r5 + (3 : Int32)), .ref (a + 1)]) [(102, .iadd, 1, .null)] (by decide +kernel) rfl ?_
      obtain ⟨g28, hm⟩ := gd_x hm
      obtain ⟨s29, e30, hm⟩ := bd_x hm
      refine aw_isl a 1 h0 rfl hf g28 e30 (by decide +kernel) (fun H31 h0 z32 => ?_)
      have hs := hs.step z32 (by omega) (by omega)
      refine aw_b (pc' := 105) (lv' := [(0, .ref a), (1, .int i0), (3, .int r1.2), (4, .int r5), (5, .int r9), (6, .int (r1.1 1 (ix_ (((r5 + (7 : Int32)) + ((2 : Int32) * r1.2)) + (1 : Int32)))))]) (st' := [.ref a]) [(104, .aload_n 0, 1, .null)] (by decide +kernel) rfl ?_
      refine aw_gl (v := .ref (a + 1)) a 0 h0 eo_O_0 fgX8_9 rfl (by decide +kernel) ?_
      refine aw_b (pc' := 113) (lv' := [(0, .ref a), (1, .int i0), (3, .int r1.2), (4, .int r5), (5, .int r9), (6, .int (r1.1 1 (ix_ (((r5 + (7 : Int32)) + ((2 : Int32) * r1.2)) + (1 : Int32)))))]) (st' := [.int (r5 + (4 : Int32)), .ref (a + 1), .int (r5 + (4 : Int32)), .ref (a + 1)]) [(108, .iload 4, 2, .null), (110, .iconst 4, 1, .int (4 : Int32)), (111, .iadd, 1, .null), (112, .dup2, 1, .null)] (by decide +kernel) rfl ?_
      obtain ⟨g33, hm⟩ := gd_x hm
      refine aw_ial a 1 h0 rfl g33 (by decide +kernel) ?_
      refine aw_b (pc' := 117) (lv' := [(0, .ref a), (1, .int i0), (3, .int r1.2), (4, .int r5), (5, .int r9), (6, .int (r1.1 1 (ix_ (((r5 + (7 : Int32)) + ((2 : Int32) * r1.2)) + (1 : Int32)))))]) (st' := [.int ((s29 1 (ix_ (r5 + (4 : Int32)))) + r9), .int (r5 + (4 : Int32)), .ref (a + 1)]) [(114, .iload 5, 2, .null), (116, .iadd, 1, .null)] (by decide +kernel) rfl ?_
      obtain ⟨g34, hm⟩ := gd_x hm
      obtain ⟨s35, e36, hm⟩ := bd_x hm
      refine aw_isl a 1 h0 rfl hf g34 e36 (by decide +kernel) (fun H37 h0 z38 => ?_)
      have hs := hs.step z38 (by omega) (by omega)
      refine aw_b (pc' := 119) (lv' := [(0, .ref a), (1, .int i0), (3, .int r1.2), (4, .int r5), (5, .int r9), (6, .int (r1.1 1 (ix_ (((r5 + (7 : Int32)) + ((2 : Int32) * r1.2)) + (1 : Int32)))))]) (st' := [.ref a]) [(118, .aload_n 0, 1, .null)] (by decide +kernel) rfl ?_
      refine aw_gl (v := .ref (a + 1)) a 0 h0 eo_O_0 fgX8_9 rfl (by decide +kernel) ?_
      refine aw_b (pc' := 127) (lv' := [(0, .ref a), (1, .int i0), (3, .int r1.2), (4, .int r5), (5, .int r9), (6, .int (r1.1 1 (ix_ (((r5 + (7 : Int32)) + ((2 : Int32) * r1.2)) + (1 : Int32)))))]) (st' := [.ref a, .int (r5 + (5 : Int32)), .ref (a + 1)]) [(122, .iload 4, 2, .null), (124, .iconst 5, 1, .int (5 : Int32)), (125, .iadd, 1, .null), (126, .aload_n 0, 1, .null)] (by decide +kernel) rfl ?_
      refine aw_gl (v := .ref (a + 1)) a 0 h0 eo_O_0 fgX8_9 rfl (by decide +kernel) ?_
      refine aw_b (pc' := 134) (lv' := [(0, .ref a), (1, .int i0), (3, .int r1.2), (4, .int r5), (5, .int r9), (6, .int (r1.1 1 (ix_ (((r5 + (7 : Int32)) + ((2 : Int32) * r1.2)) + (1 : Int32)))))]) (st' := [.int (r5 + (5 : Int32)), .ref (a + 1), .int (r5 + (5 : Int32)), .ref (a + 1)]) [(130, .iload 4, 2, .null), (132, .iconst 5, 1, .int (5 : Int32)), (133, .iadd, 1, .null)] (by decide +kernel) rfl ?_
      obtain ⟨g39, hm⟩ := gd_x hm
      refine aw_ial a 1 h0 rfl g39 (by decide +kernel) ?_
      refine aw_b (pc' := 136) (lv' := [(0, .ref a), (1, .int i0), (3, .int r1.2), (4, .int r5), (5, .int r9), (6, .int (r1.1 1 (ix_ (((r5 + (7 : Int32)) + ((2 : Int32) * r1.2)) + (1 : Int32)))))]) (st' := [.ref a, .int (s35 1 (ix_ (r5 + (5 : Int32)))), .int (r5 + (5 : Int32)), .ref (a + 1)]) [(135, .aload_n 0, 1, .null)] (by decide +kernel) rfl ?_
      refine aw_gl (v := .ref (a + 1)) a 0 h0 eo_O_0 fgX8_9 rfl (by decide +kernel) ?_
      refine aw_b (pc' := 141) (lv' := [(0, .ref a), (1, .int i0), (3, .int r1.2), (4, .int r5), (5, .int r9), (6, .int (r1.1 1 (ix_ (((r5 + (7 : Int32)) + ((2 : Int32) * r1.2)) + (1 : Int32)))))]) (st' := [.int (16 : Int32), .ref (a + 1), .int (s35 1 (ix_ (r5 + (5 : Int32)))), .int (r5 + (5 : Int32)), .ref (a + 1)]) [(139, .bipush 16, 2, .int (16 : Int32))] (by decide +kernel) rfl ?_
      obtain ⟨g40, hm⟩ := gd_x hm
      refine aw_ial a 1 h0 rfl g40 (by decide +kernel) ?_
      refine aw_b (pc' := 145) (lv' := [(0, .ref a), (1, .int i0), (3, .int r1.2), (4, .int r5), (5, .int r9), (6, .int (r1.1 1 (ix_ (((r5 + (7 : Int32)) + ((2 : Int32) * r1.2)) + (1 : Int32)))))]) (st' := [.int ((s35 1 (ix_ (16 : Int32))) - (r1.1 1 (ix_ (((r5 + (7 : Int32)) + ((2 : Int32) * r1.2)) + (1 : Int32))))), .int (s35 1 (ix_ (r5 + (5 : Int32)))), .int (r5 + (5 : Int32)), .ref (a + 1)]) [(142, .iload 6, 2, .null), (144, .isub, 1, .null)] (by decide +kernel) rfl ?_
      refine aw_mx (rest := [.int (r5 + (5 : Int32)), .ref (a + 1)]) mtX8_305 rfl (Nat.le_of_ble_eq_true rfl) (Nat.zero_le _) (Nat.zero_le _) (by decide +kernel) ?_
      obtain ⟨g41, hm⟩ := gd_x hm
      obtain ⟨s42, e43, hm⟩ := bd_x hm
      refine aw_isl a 1 h0 rfl hf g41 e43 (by decide +kernel) (fun H44 h0 z45 => ?_)
      have hs := hs.step z45 (by omega) (by omega)
      refine aw_b (pc' := 150) (lv' := [(0, .ref a), (1, .int i0), (3, .int r1.2), (4, .int r5), (5, .int r9), (6, .int (r1.1 1 (ix_ (((r5 + (7 : Int32)) + ((2 : Int32) * r1.2)) + (1 : Int32)))))]) (st' := [.ref a]) [(149, .aload_n 0, 1, .null)] (by decide +kernel) rfl ?_
      refine aw_gl (v := .ref (a + 1)) a 0 h0 eo_O_0 fgX8_9 rfl (by decide +kernel) ?_
      refine aw_b (pc' := 159) (lv' := [(0, .ref a), (1, .int i0), (3, .int r1.2), (4, .int r5), (5, .int r9), (6, .int (r1.1 1 (ix_ (((r5 + (7 : Int32)) + ((2 : Int32) * r1.2)) + (1 : Int32)))))]) (st' := [.int (r5 + (6 : Int32)), .ref (a + 1), .int (r5 + (6 : Int32)), .ref (a + 1)]) [(153, .iload 4, 2, .null), (155, .bipush 6, 2, .int (6 : Int32)), (157, .iadd, 1, .null), (158, .dup2, 1, .null)] (by decide +kernel) rfl ?_
      obtain ⟨g46, hm⟩ := gd_x hm
      refine aw_ial a 1 h0 rfl g46 (by decide +kernel) ?_
      refine aw_b (pc' := 162) (lv' := [(0, .ref a), (1, .int i0), (3, .int r1.2), (4, .int r5), (5, .int r9), (6, .int (r1.1 1 (ix_ (((r5 + (7 : Int32)) + ((2 : Int32) * r1.2)) + (1 : Int32)))))]) (st' := [.int ((s42 1 (ix_ (r5 + (6 : Int32)))) + (1 : Int32)), .int (r5 + (6 : Int32)), .ref (a + 1)]) [(160, .iconst 1, 1, .int (1 : Int32)), (161, .iadd, 1, .null)] (by decide +kernel) rfl ?_
      obtain ⟨g47, hm⟩ := gd_x hm
      obtain ⟨s48, e49, hm⟩ := bd_x hm
      refine aw_isl a 1 h0 rfl hf g47 e49 (by decide +kernel) (fun H50 h0 z51 => ?_)
      have hs := hs.step z51 (by omega) (by omega)
      refine aw_b (pc' := 164) (lv' := [(0, .ref a), (1, .int i0), (3, .int r1.2), (4, .int r5), (5, .int r9), (6, .int (r1.1 1 (ix_ (((r5 + (7 : Int32)) + ((2 : Int32) * r1.2)) + (1 : Int32)))))]) (st' := [.ref a]) [(163, .aload_n 0, 1, .null)] (by decide +kernel) rfl ?_
      refine aw_gl (v := .ref (a + 1)) a 0 h0 eo_O_0 fgX8_9 rfl (by decide +kernel) ?_
      refine aw_b (pc' := 172) (lv' := [(0, .ref a), (1, .int i0), (3, .int r1.2), (4, .int r5), (5, .int r9), (6, .int (r1.1 1 (ix_ (((r5 + (7 : Int32)) + ((2 : Int32) * r1.2)) + (1 : Int32)))))]) (st' := [.int (r5 + (2 : Int32)), .ref (a + 1), .int (r5 + (2 : Int32)), .ref (a + 1)]) [(167, .iload 4, 2, .null), (169, .iconst 2, 1, .int (2 : Int32)), (170, .iadd, 1, .null), (171, .dup2, 1, .null)] (by decide +kernel) rfl ?_
      obtain ⟨g52, hm⟩ := gd_x hm
      refine aw_ial a 1 h0 rfl g52 (by decide +kernel) ?_
      refine aw_b (pc' := 175) (lv' := [(0, .ref a), (1, .int i0), (3, .int r1.2), (4, .int r5), (5, .int r9), (6, .int (r1.1 1 (ix_ (((r5 + (7 : Int32)) + ((2 : Int32) * r1.2)) + (1 : Int32)))))]) (st' := [.int ((s48 1 (ix_ (r5 + (2 : Int32)))) - (1 : Int32)), .int (r5 + (2 : Int32)), .ref (a + 1)]) [(173, .iconst 1, 1, .int (1 : Int32)), (174, .isub, 1, .null)] (by decide +kernel) rfl ?_
      obtain ⟨g53, hm⟩ := gd_x hm
      obtain ⟨s54, e55, hm⟩ := bd_x hm
      refine aw_isl a 1 h0 rfl hf g53 e55 (by decide +kernel) (fun H56 h0 z57 => ?_)
      have hs := hs.step z57 (by omega) (by omega)
      refine aw_b (pc' := 187) (lv' := [(7, .int ((r5 + (7 : Int32)) + ((2 : Int32) * r1.2))), (0, .ref a), (1, .int i0), (3, .int r1.2), (4, .int r5), (5, .int r9), (6, .int (r1.1 1 (ix_ (((r5 + (7 : Int32)) + ((2 : Int32) * r1.2)) + (1 : Int32)))))]) (st' := []) [(176, .iload 4, 2, .null), (178, .bipush 7, 2, .int (7 : Int32)), (180, .iadd, 1, .null), (181, .iconst 2, 1, .int (2 : Int32)), (182, .iload_n 3, 1, .null), (183, .imul, 1, .null), (184, .iadd, 1, .null), (185, .istore 7, 2, .null)] (by decide +kernel) rfl ?_
      obtain ⟨x187, hx187, hr187⟩ := bn_x hm
      have X187_231 : ∀ (s_x187_231 : st_) (H_x187_231 : Heap), has_ E H_x187_231 a ly_O s_x187_231 → sm_ H H_x187_231 a 10 → fX8_serves_x187_231 r9 s_x187_231 = some r → aw E mX8_serves Q 231 [(0, .ref a), (5, .int r9)] [] H_x187_231 0 0 := by
        intro s_x187_231 H_x187_231 h0 hs hm
        unfold fX8_serves_x187_231 at hm
        refine aw_b (pc' := 234) (lv' := [(0, .ref a), (5, .int r9)]) (st' := [.int r9, .ref a]) [(231, .aload_n 0, 1, .null), (232, .iload 5, 2, .null)] (by decide +kernel) rfl ?_
        obtain ⟨r58, e59, hm⟩ := bn_x hm
        refine aw_cv (rest := []) (st1 := [.int r58]) a 0 (kX8_costOf e59 h0) rfl rfl ckX8_costOf lkX8_295 h0 eo_O_0 ⟨_, _, rfl⟩ nkX8_costOf rfl rfl rfl (Nat.le_of_ble_eq_true rfl) (Nat.zero_le _) (Nat.zero_le _) (by decide +kernel) (fun H60 z61 => ?_)
        have h0 := h0.kept0 z61
        have hs := hs.step0 z61
        obtain rfl := Option.some.inj hm
        subst hQ
        exact aw_iret rfl (Nat.zero_le _) (Nat.zero_le _) (by decide +kernel) ⟨rfl, hs, h0⟩
      have L187 : ∀ (fu : Nat) (v7_b187 : Int32) (s_b187 : st_) (H_b187 : Heap), has_ E H_b187 a ly_O s_b187 → sm_ H H_b187 a 10 → fX8_serves_l187 r5 fu (v7_b187, s_b187) = some x187 → aw E mX8_serves Q 187 [(0, .ref a), (4, .int r5), (5, .int r9), (7, .int v7_b187)] [] H_b187 0 0 := by
        intro fu
        induction fu with
        | zero =>
          intro v7_b187 s_b187 H_b187 h0 hs hm
          exact (it_0 hm).elim
        | succ fu ih187 =>
          intro v7_b187 s_b187 H_b187 h0 hs hm
          obtain ⟨y187, hm, hk187⟩ := it_s hm
          have hm : fX8_serves_b187 r5 v7_b187 s_b187 = some y187 := hm
          unfold fX8_serves_b187 at hm
          refine aw_b (pc' := 196) (lv' := [(0, .ref a), (4, .int r5), (5, .int r9), (7, .int v7_b187)]) (st' := [.ref a, .int (2 : Int32), .int (r5 + (7 : Int32)), .int v7_b187]) [(187, .iload 7, 2, .null), (189, .iload 4, 2, .null), (191, .bipush 7, 2, .int (7 : Int32)), (193, .iadd, 1, .null), (194, .iconst 2, 1, .int (2 : Int32)), (195, .aload_n 0, 1, .null)] (by decide +kernel) rfl ?_
          refine aw_gl (v := .ref (a + 1)) a 0 h0 eo_O_0 fgX8_9 rfl (by decide +kernel) ?_
          refine aw_b (pc' := 203) (lv' := [(0, .ref a), (4, .int r5), (5, .int r9), (7, .int v7_b187)]) (st' := [.int (r5 + (2 : Int32)), .ref (a + 1), .int (2 : Int32), .int (r5 + (7 : Int32)), .int v7_b187]) [(199, .iload 4, 2, .null), (201, .iconst 2, 1, .int (2 : Int32)), (202, .iadd, 1, .null)] (by decide +kernel) rfl ?_
          obtain ⟨g62, hm⟩ := gd_x hm
          refine aw_ial a 1 h0 rfl g62 (by decide +kernel) ?_
          refine aw_b (pc' := 206) (lv' := [(0, .ref a), (4, .int r5), (5, .int r9), (7, .int v7_b187)]) (st' := [.int ((r5 + (7 : Int32)) + ((2 : Int32) * (s_b187 1 (ix_ (r5 + (2 : Int32)))))), .int v7_b187]) [(204, .imul, 1, .null), (205, .iadd, 1, .null)] (by decide +kernel) rfl ?_
          refine aw_ic_ge (off := 25) 231 (by decide) (by decide +kernel) (fun hc => ?_) (fun hc => ?_)
          · have hm := (if_pos hc).symm.trans hm
            cases hm
            refine aw_lv (lv' := [(0, .ref a), (5, .int r9)]) [0, 2] rfl ?_
            exact X187_231 s_b187 H_b187 h0 hs ((congrArg (fX8_serves_k187 r9) (show (s_b187) = x187 from hk187)).trans hr187)
          · have hm := (if_neg hc).symm.trans hm
            refine aw_b (pc' := 210) (lv' := [(0, .ref a), (4, .int r5), (5, .int r9), (7, .int v7_b187)]) (st' := [.ref a]) [(209, .aload_n 0, 1, .null)] (by decide +kernel) rfl ?_
            refine aw_gl (v := .ref (a + 1)) a 0 h0 eo_O_0 fgX8_9 rfl (by decide +kernel) ?_
            refine aw_b (pc' := 216) (lv' := [(0, .ref a), (4, .int r5), (5, .int r9), (7, .int v7_b187)]) (st' := [.ref a, .int v7_b187, .ref (a + 1)]) [(213, .iload 7, 2, .null), (215, .aload_n 0, 1, .null)] (by decide +kernel) rfl ?_
            refine aw_gl (v := .ref (a + 1)) a 0 h0 eo_O_0 fgX8_9 rfl (by decide +kernel) ?_
            refine aw_b (pc' := 223) (lv' := [(0, .ref a), (4, .int r5), (5, .int r9), (7, .int v7_b187)]) (st' := [.int (v7_b187 + (2 : Int32)), .ref (a + 1), .int v7_b187, .ref (a + 1)]) [(219, .iload 7, 2, .null), (221, .iconst 2, 1, .int (2 : Int32)), (222, .iadd, 1, .null)] (by decide +kernel) rfl ?_
            obtain ⟨g63, hm⟩ := gd_x hm
            refine aw_ial a 1 h0 rfl g63 (by decide +kernel) ?_
            obtain ⟨g64, hm⟩ := gd_x hm
            obtain ⟨s65, e66, hm⟩ := bd_x hm
            refine aw_isl a 1 h0 rfl hf g64 e66 (by decide +kernel) (fun H67 h0 z68 => ?_)
            have hs := hs.step z68 (by omega) (by omega)
            refine aw_b (pc' := 187) (lv' := [(7, .int (v7_b187 + (1 : Int32))), (0, .ref a), (4, .int r5), (5, .int r9)]) (st' := []) [(225, .iinc 7 1, 3, .int (1 : Int32)), (228, .goto (-41), 3, .null)] (by decide +kernel) rfl ?_
            cases hm
            refine aw_lv (lv' := [(0, .ref a), (4, .int r5), (5, .int r9), (7, .int (v7_b187 + (1 : Int32)))]) [1, 2, 3, 0] rfl ?_
            exact ih187 (v7_b187 + (1 : Int32)) s65 H67 h0 hs hk187
      refine aw_lv (lv' := [(0, .ref a), (4, .int r5), (5, .int r9), (7, .int ((r5 + (7 : Int32)) + ((2 : Int32) * r1.2)))]) [1, 4, 5, 0] rfl ?_
      exact L187 FU_ ((r5 + (7 : Int32)) + ((2 : Int32) * r1.2)) s54 H56 h0 hs hx187
    refine aw_ic_ne (off := 22) 71 (by decide) (by decide +kernel) (fun hc => ?_) (fun hc => ?_)
    · have hm := (if_neg hc).symm.trans hm
      refine aw_lv (lv' := [(0, .ref a), (1, .int i0), (3, .int r1.2), (4, .int r5), (5, .int r9), (6, .int (r1.1 1 (ix_ (((r5 + (7 : Int32)) + ((2 : Int32) * r1.2)) + (1 : Int32)))))]) [4, 5, 3, 2, 1, 0] rfl ?_
      exact J71 r1.1 H11 h0 hs hm
    · have hm := (if_pos hc).symm.trans hm
      refine aw_b (pc' := 56) (lv' := [(6, .int (r1.1 1 (ix_ (((r5 + (7 : Int32)) + ((2 : Int32) * r1.2)) + (1 : Int32))))), (5, .int r9), (4, .int r5), (3, .int r1.2), (0, .ref a), (1, .int i0), (2, .int i1)]) (st' := [.int r1.2, .int i0, .ref a, .ref a]) [(52, .aload_n 0, 1, .null), (53, .aload_n 0, 1, .null), (54, .iload_n 1, 1, .null), (55, .iload_n 3, 1, .null)] (by decide +kernel) rfl ?_
      obtain ⟨r69, e70, hm⟩ := bn_x hm
      refine aw_cv (rest := [.ref a]) (st1 := [.int r69, .ref a]) a 0 (kX8_cylinderOf e70 h0) rfl rfl ckX8_cylinderOf lkX8_267 h0 eo_O_0 ⟨_, _, rfl⟩ nkX8_cylinderOf rfl rfl rfl (Nat.le_of_ble_eq_true rfl) (Nat.zero_le _) (Nat.zero_le _) (by decide +kernel) (fun H71 z72 => ?_)
      have h0 := h0.kept0 z72
      have hs := hs.step0 z72
      refine aw_b (pc' := 64) (lv' := [(6, .int (r1.1 1 (ix_ (((r5 + (7 : Int32)) + ((2 : Int32) * r1.2)) + (1 : Int32))))), (5, .int r9), (4, .int r5), (3, .int r1.2), (0, .ref a), (1, .int i0), (2, .int i1)]) (st' := [.int r9, .ref a, .int (r1.1 1 (ix_ (((r5 + (7 : Int32)) + ((2 : Int32) * r1.2)) + (1 : Int32)))), .int r69, .ref a]) [(59, .iload 6, 2, .null), (61, .aload_n 0, 1, .null), (62, .iload 5, 2, .null)] (by decide +kernel) rfl ?_
      obtain ⟨r73, e74, hm⟩ := bn_x hm
      refine aw_cv (rest := [.int (r1.1 1 (ix_ (((r5 + (7 : Int32)) + ((2 : Int32) * r1.2)) + (1 : Int32)))), .int r69, .ref a]) (st1 := [.int r73, .int (r1.1 1 (ix_ (((r5 + (7 : Int32)) + ((2 : Int32) * r1.2)) + (1 : Int32)))), .int r69, .ref a]) a 0 (kX8_costOf e74 h0) rfl rfl ckX8_costOf lkX8_295 h0 eo_O_0 ⟨_, _, rfl⟩ nkX8_costOf rfl rfl rfl (Nat.le_of_ble_eq_true rfl) (Nat.zero_le _) (Nat.zero_le _) (by decide +kernel) (fun H75 z76 => ?_)
      have h0 := h0.kept0 z76
      have hs := hs.step0 z76
      refine aw_b (pc' := 68) (lv' := [(6, .int (r1.1 1 (ix_ (((r5 + (7 : Int32)) + ((2 : Int32) * r1.2)) + (1 : Int32))))), (5, .int r9), (4, .int r5), (3, .int r1.2), (0, .ref a), (1, .int i0), (2, .int i1)]) (st' := [.int i1, .int r73, .int (r1.1 1 (ix_ (((r5 + (7 : Int32)) + ((2 : Int32) * r1.2)) + (1 : Int32)))), .int r69, .ref a]) [(67, .iload_n 2, 1, .null)] (by decide +kernel) rfl ?_
      obtain ⟨r77, e78, hm⟩ := bn_x hm
      refine aw_cv (rest := []) (st1 := []) a 0 (kX8_notes e78 h0 hf) rfl rfl ckX8_notes lkX8_301 h0 eo_O_0 ⟨_, _, rfl⟩ nkX8_notes rfl rfl rfl (Nat.le_of_ble_eq_true rfl) (Nat.zero_le _) (Nat.zero_le _) (by decide +kernel) (fun H79 z80 => ?_)
      obtain ⟨z80, hn⟩ := z80
      have h0 := hn
      have hs := hs.step z80 (by omega) (by omega)
      refine aw_lv (lv' := [(0, .ref a), (1, .int i0), (3, .int r1.2), (4, .int r5), (5, .int r9), (6, .int (r1.1 1 (ix_ (((r5 + (7 : Int32)) + ((2 : Int32) * r1.2)) + (1 : Int32)))))]) [4, 5, 3, 2, 1, 0] rfl ?_
      exact J71 r77 H79 h0 hs hm
  · have hm := (if_pos hc).symm.trans hm
    refine aw_b (pc' := 13) (lv' := [(3, .int r1.2), (0, .ref a), (1, .int i0), (2, .int i1)]) (st' := [.int (0 : Int32)]) [(12, .iconst 0, 1, .int (0 : Int32))] (by decide +kernel) rfl ?_
    obtain rfl := Option.some.inj hm
    subst hQ
    exact aw_iret rfl (Nat.zero_le _) (Nat.zero_le _) (by decide +kernel) ⟨rfl, hs, h0⟩
def mX8_bestRule : mt_ := (yX8_bestRule, cX8_bestRule, 3, some .int, [], { frames := 2, locals := 42, cells := 0, slots := 0 })
theorem ckX8_bestRule : cokV_ mX8_bestRule := ⟨⟨(uw_mem 1787 (by decide +kernel) (by decide +kernel)), (uw_mem 112 (by decide +kernel) (by decide +kernel)), by decide +kernel, by decide +kernel⟩, (uw_mem 1786 (by decide +kernel) (by decide +kernel)), (uw_mem 66 (by decide +kernel) (by decide +kernel))⟩
theorem nkX8_bestRule : nok_ mX8_bestRule 0 := by decide +kernel
def fX8_bestRule_x4_41 (v1_x4_41 : Int32) : Option (Int32) :=
  some v1_x4_41
def fX8_bestRule_k4 (x : Int32) : Option (Int32) :=
  fX8_bestRule_x4_41 x
def fX8_bestRule_j34 (v2_b4 : Int32) (z0_j34 : Int32) : Option ((Int32 × Int32) ⊕ (Int32)) :=
  some (.inl (z0_j34, (v2_b4 + (1 : Int32))))
def fX8_bestRule_b4 (s : st_) (v1_b4 : Int32) (v2_b4 : Int32) : Option ((Int32 × Int32) ⊕ (Int32)) :=
  gd_ (ib_ (4 : Int32) 12584) <|
  if (s 1 (ix_ (4 : Int32))) ≤ v2_b4 then (some (.inr v1_b4))
  else (bn_ (fX8_armOf s v2_b4 (3 : Int32)) fun r2 =>
  bn_ (fX8_armOf s v1_b4 (3 : Int32)) fun r6 =>
  if r6 ≤ r2 then (fX8_bestRule_j34 v2_b4 v1_b4)
  else (fX8_bestRule_j34 v2_b4 v2_b4))
def fX8_bestRule_l4 (s : st_) : Nat → (Int32 × Int32) → Option (Int32) :=
  it_ (fun v => fX8_bestRule_b4 s v.1 v.2)
def fX8_bestRule (s : st_) : Option (Int32) :=
  bn_ (fX8_bestRule_l4 s FU_ ((0 : Int32), (1 : Int32))) (fX8_bestRule_k4)
set_option maxRecDepth 8000 in
theorem kX8_bestRule {E : ev_} {H : Heap} {a : Nat} {s : st_} {r : Int32} (hm : fX8_bestRule s = some r) (h0 : has_ E H a ly_O s) : sp_ E mX8_bestRule [.ref a] H (po1 (.inl (some (.int r))) (fun Hn => sm_ H Hn 0 0)) := by
  refine sp_of (by decide +kernel) rfl rfl ?_
  generalize hQ : po1 _ _ = Q
  have hs : sm_ H H 0 0 := sm_.rfl'
  unfold fX8_bestRule at hm
  refine aw_lv (lv' := [(0, .ref a)]) [0] rfl ?_
  refine aw_b (pc' := 4) (lv' := [(2, .int (1 : Int32)), (1, .int (0 : Int32)), (0, .ref a)]) (st' := []) [(0, .iconst 0, 1, .int (0 : Int32)), (1, .istore_n 1, 1, .null), (2, .iconst 1, 1, .int (1 : Int32)), (3, .istore_n 2, 1, .null)] (by decide +kernel) rfl ?_
  obtain ⟨x4, hx4, hr4⟩ := bn_x hm
  have X4_41 : ∀ (v1_x4_41 : Int32) (H_x4_41 : Heap), has_ E H_x4_41 a ly_O s → sm_ H H_x4_41 0 0 → fX8_bestRule_x4_41 v1_x4_41 = some r → aw E mX8_bestRule Q 41 [(1, .int v1_x4_41)] [] H_x4_41 0 0 := by
    intro v1_x4_41 H_x4_41 h0 hs hm
    unfold fX8_bestRule_x4_41 at hm
    refine aw_b (pc' := 42) (lv' := [(1, .int v1_x4_41)]) (st' := [.int v1_x4_41]) [(41, .iload_n 1, 1, .null)] (by decide +kernel) rfl ?_
    obtain rfl := Option.some.inj hm
    subst hQ
    exact aw_iret rfl (Nat.zero_le _) (Nat.zero_le _) (by decide +kernel) ⟨rfl, hs⟩
  have L4 : ∀ (fu : Nat) (v1_b4 : Int32) (v2_b4 : Int32) (H_b4 : Heap), has_ E H_b4 a ly_O s → sm_ H H_b4 0 0 → fX8_bestRule_l4 s fu (v1_b4, v2_b4) = some x4 → aw E mX8_bestRule Q 4 [(0, .ref a), (1, .int v1_b4), (2, .int v2_b4)] [] H_b4 0 0 := by
    intro fu
    induction fu with
    | zero =>
      intro v1_b4 v2_b4 H_b4 h0 hs hm
      exact (it_0 hm).elim
    | succ fu ih4 =>
      intro v1_b4 v2_b4 H_b4 h0 hs hm
      obtain ⟨y4, hm, hk4⟩ := it_s hm
      have hm : fX8_bestRule_b4 s v1_b4 v2_b4 = some y4 := hm
      unfold fX8_bestRule_b4 at hm
      refine aw_b (pc' := 6) (lv' := [(0, .ref a), (1, .int v1_b4), (2, .int v2_b4)]) (st' := [.ref a, .int v2_b4]) [(4, .iload_n 2, 1, .null), (5, .aload_n 0, 1, .null)] (by decide +kernel) rfl ?_
      refine aw_gl (v := .ref (a + 1)) a 0 h0 eo_O_0 fgX8_9 rfl (by decide +kernel) ?_
      refine aw_b (pc' := 10) (lv' := [(0, .ref a), (1, .int v1_b4), (2, .int v2_b4)]) (st' := [.int (4 : Int32), .ref (a + 1), .int v2_b4]) [(9, .iconst 4, 1, .int (4 : Int32))] (by decide +kernel) rfl ?_
      obtain ⟨g1, hm⟩ := gd_x hm
      refine aw_ial a 1 h0 rfl g1 (by decide +kernel) ?_
      refine aw_ic_ge (off := 30) 41 (by decide) (by decide +kernel) (fun hc => ?_) (fun hc => ?_)
      · have hm := (if_pos hc).symm.trans hm
        cases hm
        refine aw_lv (lv' := [(1, .int v1_b4)]) [1] rfl ?_
        exact X4_41 v1_b4 H_b4 h0 hs ((congrArg fX8_bestRule_k4 (show (v1_b4) = x4 from hk4)).trans hr4)
      · have hm := (if_neg hc).symm.trans hm
        refine aw_b (pc' := 17) (lv' := [(0, .ref a), (1, .int v1_b4), (2, .int v2_b4)]) (st' := [.int (3 : Int32), .int v2_b4, .ref a]) [(14, .aload_n 0, 1, .null), (15, .iload_n 2, 1, .null), (16, .iconst 3, 1, .int (3 : Int32))] (by decide +kernel) rfl ?_
        obtain ⟨r2, e3, hm⟩ := bn_x hm
        refine aw_cv (rest := []) (st1 := [.int r2]) a 0 (kX8_armOf e3 h0) rfl rfl ckX8_armOf lkX8_232 h0 eo_O_0 ⟨_, _, rfl⟩ nkX8_armOf rfl rfl rfl (Nat.le_of_ble_eq_true rfl) (Nat.zero_le _) (Nat.zero_le _) (by decide +kernel) (fun H4 z5 => ?_)
        have h0 := h0.kept0 z5
        have hs := hs.step0 z5
        refine aw_b (pc' := 23) (lv' := [(0, .ref a), (1, .int v1_b4), (2, .int v2_b4)]) (st' := [.int (3 : Int32), .int v1_b4, .ref a, .int r2]) [(20, .aload_n 0, 1, .null), (21, .iload_n 1, 1, .null), (22, .iconst 3, 1, .int (3 : Int32))] (by decide +kernel) rfl ?_
        obtain ⟨r6, e7, hm⟩ := bn_x hm
        refine aw_cv (rest := [.int r2]) (st1 := [.int r6, .int r2]) a 0 (kX8_armOf e7 h0) rfl rfl ckX8_armOf lkX8_232 h0 eo_O_0 ⟨_, _, rfl⟩ nkX8_armOf rfl rfl rfl (Nat.le_of_ble_eq_true rfl) (Nat.zero_le _) (Nat.zero_le _) (by decide +kernel) (fun H8 z9 => ?_)
        have h0 := h0.kept0 z9
        have hs := hs.step0 z9
        have J34 : ∀ (z0_j34 : Int32) (H_j34 : Heap), has_ E H_j34 a ly_O s → sm_ H H_j34 0 0 → fX8_bestRule_j34 v2_b4 z0_j34 = some y4 → aw E mX8_bestRule Q 34 [(0, .ref a), (2, .int v2_b4)] [.int z0_j34] H_j34 0 0 := by
          intro z0_j34 H_j34 h0 hs hm
          unfold fX8_bestRule_j34 at hm
          refine aw_b (pc' := 4) (lv' := [(2, .int (v2_b4 + (1 : Int32))), (1, .int z0_j34), (0, .ref a)]) (st' := []) [(34, .istore_n 1, 1, .null), (35, .iinc 2 1, 3, .int (1 : Int32)), (38, .goto (-34), 3, .null)] (by decide +kernel) rfl ?_
          cases hm
          refine aw_lv (lv' := [(0, .ref a), (1, .int z0_j34), (2, .int (v2_b4 + (1 : Int32)))]) [2, 1, 0] rfl ?_
          exact ih4 z0_j34 (v2_b4 + (1 : Int32)) H_j34 h0 hs hk4
        refine aw_ic_ge (off := 7) 33 (by decide) (by decide +kernel) (fun hc => ?_) (fun hc => ?_)
        · have hm := (if_pos hc).symm.trans hm
          refine aw_b (pc' := 34) (lv' := [(0, .ref a), (1, .int v1_b4), (2, .int v2_b4)]) (st' := [.int v1_b4]) [(33, .iload_n 1, 1, .null)] (by decide +kernel) rfl ?_
          refine aw_lv (lv' := [(0, .ref a), (2, .int v2_b4)]) [0, 2] rfl ?_
          exact J34 v1_b4 H8 h0 hs hm
        · have hm := (if_neg hc).symm.trans hm
          refine aw_b (pc' := 34) (lv' := [(0, .ref a), (1, .int v1_b4), (2, .int v2_b4)]) (st' := [.int v2_b4]) [(29, .iload_n 2, 1, .null), (30, .goto 4, 3, .null)] (by decide +kernel) rfl ?_
          refine aw_lv (lv' := [(0, .ref a), (2, .int v2_b4)]) [0, 2] rfl ?_
          exact J34 v2_b4 H8 h0 hs hm
  refine aw_lv (lv' := [(0, .ref a), (1, .int (0 : Int32)), (2, .int (1 : Int32))]) [2, 1, 0] rfl ?_
  exact L4 FU_ (0 : Int32) (1 : Int32) H h0 hs hx4
def mX8_regretNow : mt_ := (yX8_regretNow, cX8_regretNow, 1, some .int, [], { frames := 3, locals := 64, cells := 0, slots := 0 })
theorem ckX8_regretNow : cokV_ mX8_regretNow := ⟨⟨(uw_mem 1808 (by decide +kernel) (by decide +kernel)), (uw_mem 112 (by decide +kernel) (by decide +kernel)), by decide +kernel, by decide +kernel⟩, (uw_mem 1807 (by decide +kernel) (by decide +kernel)), (uw_mem 68 (by decide +kernel) (by decide +kernel))⟩
theorem nkX8_regretNow : nok_ mX8_regretNow 0 := by decide +kernel
theorem lkX8_310 : Cond.methodLink RX8 310 yX8_bestRule ∈ uw_ := (uw_mem 1784 (by decide +kernel) (by decide +kernel))
def fX8_regretNow (s : st_) : Option (Int32) :=
  bn_ (fX8_armOf s (6 : Int32) (3 : Int32)) fun r1 =>
  bn_ (fX8_bestRule s) fun r5 =>
  bn_ (fX8_armOf s r5 (3 : Int32)) fun r9 =>
  some (r1 - r9)
set_option maxRecDepth 8000 in
theorem kX8_regretNow {E : ev_} {H : Heap} {a : Nat} {s : st_} {r : Int32} (hm : fX8_regretNow s = some r) (h0 : has_ E H a ly_O s) : sp_ E mX8_regretNow [.ref a] H (po1 (.inl (some (.int r))) (fun Hn => sm_ H Hn 0 0)) := by
  refine sp_of (by decide +kernel) rfl rfl ?_
  generalize hQ : po1 _ _ = Q
  have hs : sm_ H H 0 0 := sm_.rfl'
  unfold fX8_regretNow at hm
  refine aw_lv (lv' := [(0, .ref a)]) [0] rfl ?_
  refine aw_b (pc' := 4) (lv' := [(0, .ref a)]) (st' := [.int (3 : Int32), .int (6 : Int32), .ref a]) [(0, .aload_n 0, 1, .null), (1, .bipush 6, 2, .int (6 : Int32)), (3, .iconst 3, 1, .int (3 : Int32))] (by decide +kernel) rfl ?_
  obtain ⟨r1, e2, hm⟩ := bn_x hm
  refine aw_cv (rest := []) (st1 := [.int r1]) a 0 (kX8_armOf e2 h0) rfl rfl ckX8_armOf lkX8_232 h0 eo_O_0 ⟨_, _, rfl⟩ nkX8_armOf rfl rfl rfl (Nat.le_of_ble_eq_true rfl) (Nat.zero_le _) (Nat.zero_le _) (by decide +kernel) (fun H3 z4 => ?_)
  have h0 := h0.kept0 z4
  have hs := hs.step0 z4
  refine aw_b (pc' := 9) (lv' := [(0, .ref a)]) (st' := [.ref a, .ref a, .int r1]) [(7, .aload_n 0, 1, .null), (8, .aload_n 0, 1, .null)] (by decide +kernel) rfl ?_
  obtain ⟨r5, e6, hm⟩ := bn_x hm
  refine aw_cv (rest := [.ref a, .int r1]) (st1 := [.int r5, .ref a, .int r1]) a 0 (kX8_bestRule e6 h0) rfl rfl ckX8_bestRule lkX8_310 h0 eo_O_0 ⟨_, _, rfl⟩ nkX8_bestRule rfl rfl rfl (Nat.le_of_ble_eq_true rfl) (Nat.zero_le _) (Nat.zero_le _) (by decide +kernel) (fun H7 z8 => ?_)
  have h0 := h0.kept0 z8
  have hs := hs.step0 z8
  refine aw_b (pc' := 13) (lv' := [(0, .ref a)]) (st' := [.int (3 : Int32), .int r5, .ref a, .int r1]) [(12, .iconst 3, 1, .int (3 : Int32))] (by decide +kernel) rfl ?_
  obtain ⟨r9, e10, hm⟩ := bn_x hm
  refine aw_cv (rest := [.int r1]) (st1 := [.int r9, .int r1]) a 0 (kX8_armOf e10 h0) rfl rfl ckX8_armOf lkX8_232 h0 eo_O_0 ⟨_, _, rfl⟩ nkX8_armOf rfl rfl rfl (Nat.le_of_ble_eq_true rfl) (Nat.zero_le _) (Nat.zero_le _) (by decide +kernel) (fun H11 z12 => ?_)
  have h0 := h0.kept0 z12
  have hs := hs.step0 z12
  refine aw_b (pc' := 17) (lv' := [(0, .ref a)]) (st' := [.int (r1 - r9)]) [(16, .isub, 1, .null)] (by decide +kernel) rfl ?_
  obtain rfl := Option.some.inj hm
  subst hQ
  exact aw_iret rfl (Nat.zero_le _) (Nat.zero_le _) (by decide +kernel) ⟨rfl, hs⟩
def mX8_drawn : mt_ := (yX8_drawn, cX8_drawn, 2, some .int, [], { frames := 0, locals := 0, cells := 0, slots := 0 })
theorem ckX8_drawn : cokV_ mX8_drawn := ⟨⟨(uw_mem 1776 (by decide +kernel) (by decide +kernel)), (uw_mem 112 (by decide +kernel) (by decide +kernel)), by decide +kernel, by decide +kernel⟩, (uw_mem 1775 (by decide +kernel) (by decide +kernel)), (uw_mem 64 (by decide +kernel) (by decide +kernel))⟩
theorem nkX8_drawn : nok_ mX8_drawn 1 := by decide +kernel
theorem kwX8_313 : Cond.constantLong RX8 313 (1103 : Int64) ∈ uw_ := (uw_mem 1777 (by decide +kernel) (by decide +kernel))
theorem kwX8_315 : Cond.constantLong RX8 315 (12345 : Int64) ∈ uw_ := (uw_mem 1778 (by decide +kernel) (by decide +kernel))
theorem kwX8_317 : Cond.constantLong RX8 317 (32768 : Int64) ∈ uw_ := (uw_mem 1779 (by decide +kernel) (by decide +kernel))
def fX8_drawn (s : st_) (i0 : Int32) : Option (Int32) :=
  some (Int64.toInt32 ((((1103 : Int64) * (Int32.toInt64 i0)) + (12345 : Int64)) - (((1103 : Int64) * (Int32.toInt64 i0)) + (12345 : Int64)) / (32768 : Int64) * (32768 : Int64)))
set_option maxRecDepth 8000 in
theorem kX8_drawn {E : ev_} {H : Heap} {a : Nat} {s : st_} {i0 : Int32} {r : Int32} (hm : fX8_drawn s i0 = some r) (h0 : has_ E H a ly_O s) : sp_ E mX8_drawn [.ref a, .int i0] H (po1 (.inl (some (.int r))) (fun Hn => sm_ H Hn 0 0)) := by
  refine sp_of (by decide +kernel) rfl rfl ?_
  generalize hQ : po1 _ _ = Q
  have hs : sm_ H H 0 0 := sm_.rfl'
  unfold fX8_drawn at hm
  refine aw_lv (lv' := [(0, .ref a), (1, .int i0)]) [0, 1] rfl ?_
  refine aw_ldc2 (v := (1103 : Int64)) kwX8_313 (by decide +kernel) ?_
  refine aw_b (pc' := 6) (lv' := [(0, .ref a), (1, .int i0)]) (st' := [.long ((1103 : Int64) * (Int32.toInt64 i0))]) [(3, .iload_n 1, 1, .null), (4, .i2l, 1, .null), (5, .lmul, 1, .null)] (by decide +kernel) rfl ?_
  refine aw_ldc2 (v := (12345 : Int64)) kwX8_315 (by decide +kernel) ?_
  refine aw_b (pc' := 10) (lv' := [(0, .ref a), (1, .int i0)]) (st' := [.long (((1103 : Int64) * (Int32.toInt64 i0)) + (12345 : Int64))]) [(9, .ladd, 1, .null)] (by decide +kernel) rfl ?_
  refine aw_ldc2 (v := (32768 : Int64)) kwX8_317 (by decide +kernel) ?_
  refine aw_lrem (by decide) (by decide +kernel) ?_
  refine aw_b (pc' := 15) (lv' := [(0, .ref a), (1, .int i0)]) (st' := [.int (Int64.toInt32 ((((1103 : Int64) * (Int32.toInt64 i0)) + (12345 : Int64)) - (((1103 : Int64) * (Int32.toInt64 i0)) + (12345 : Int64)) / (32768 : Int64) * (32768 : Int64)))]) [(14, .l2i, 1, .null)] (by decide +kernel) rfl ?_
  obtain rfl := Option.some.inj hm
  subst hQ
  exact aw_iret rfl (Nat.zero_le _) (Nat.zero_le _) (by decide +kernel) ⟨rfl, hs⟩
def mX8_weights : mt_ := (yX8_weights, cX8_weights, 3, some .int, [], { frames := 1, locals := 22, cells := 0, slots := 0 })
theorem ckX8_weights : cokV_ mX8_weights := ⟨⟨(uw_mem 1791 (by decide +kernel) (by decide +kernel)), (uw_mem 112 (by decide +kernel) (by decide +kernel)), by decide +kernel, by decide +kernel⟩, (uw_mem 1790 (by decide +kernel) (by decide +kernel)), (uw_mem 67 (by decide +kernel) (by decide +kernel))⟩
theorem nkX8_weights : nok_ mX8_weights 0 := by decide +kernel
def fX8_weights_x4_29 (v1_x4_29 : Int32) : Option (Int32) :=
  some v1_x4_29
def fX8_weights_k4 (x : Int32) : Option (Int32) :=
  fX8_weights_x4_29 x
def fX8_weights_b4 (s : st_) (v1_b4 : Int32) (v2_b4 : Int32) : Option ((Int32 × Int32) ⊕ (Int32)) :=
  gd_ (ib_ (4 : Int32) 12584) <|
  if (s 1 (ix_ (4 : Int32))) ≤ v2_b4 then (some (.inr v1_b4))
  else (bn_ (fX8_of s v2_b4 (2 : Int32)) fun r2 =>
  some (.inl ((v1_b4 + r2), (v2_b4 + (1 : Int32)))))
def fX8_weights_l4 (s : st_) : Nat → (Int32 × Int32) → Option (Int32) :=
  it_ (fun v => fX8_weights_b4 s v.1 v.2)
def fX8_weights (s : st_) : Option (Int32) :=
  bn_ (fX8_weights_l4 s FU_ ((0 : Int32), (0 : Int32))) (fX8_weights_k4)
set_option maxRecDepth 8000 in
theorem kX8_weights {E : ev_} {H : Heap} {a : Nat} {s : st_} {r : Int32} (hm : fX8_weights s = some r) (h0 : has_ E H a ly_O s) : sp_ E mX8_weights [.ref a] H (po1 (.inl (some (.int r))) (fun Hn => sm_ H Hn 0 0)) := by
  refine sp_of (by decide +kernel) rfl rfl ?_
  generalize hQ : po1 _ _ = Q
  have hs : sm_ H H 0 0 := sm_.rfl'
  unfold fX8_weights at hm
  refine aw_lv (lv' := [(0, .ref a)]) [0] rfl ?_
  refine aw_b (pc' := 4) (lv' := [(2, .int (0 : Int32)), (1, .int (0 : Int32)), (0, .ref a)]) (st' := []) [(0, .iconst 0, 1, .int (0 : Int32)), (1, .istore_n 1, 1, .null), (2, .iconst 0, 1, .int (0 : Int32)), (3, .istore_n 2, 1, .null)] (by decide +kernel) rfl ?_
  obtain ⟨x4, hx4, hr4⟩ := bn_x hm
  have X4_29 : ∀ (v1_x4_29 : Int32) (H_x4_29 : Heap), has_ E H_x4_29 a ly_O s → sm_ H H_x4_29 0 0 → fX8_weights_x4_29 v1_x4_29 = some r → aw E mX8_weights Q 29 [(1, .int v1_x4_29)] [] H_x4_29 0 0 := by
    intro v1_x4_29 H_x4_29 h0 hs hm
    unfold fX8_weights_x4_29 at hm
    refine aw_b (pc' := 30) (lv' := [(1, .int v1_x4_29)]) (st' := [.int v1_x4_29]) [(29, .iload_n 1, 1, .null)] (by decide +kernel) rfl ?_
    obtain rfl := Option.some.inj hm
    subst hQ
    exact aw_iret rfl (Nat.zero_le _) (Nat.zero_le _) (by decide +kernel) ⟨rfl, hs⟩
  have L4 : ∀ (fu : Nat) (v1_b4 : Int32) (v2_b4 : Int32) (H_b4 : Heap), has_ E H_b4 a ly_O s → sm_ H H_b4 0 0 → fX8_weights_l4 s fu (v1_b4, v2_b4) = some x4 → aw E mX8_weights Q 4 [(0, .ref a), (1, .int v1_b4), (2, .int v2_b4)] [] H_b4 0 0 := by
    intro fu
    induction fu with
    | zero =>
      intro v1_b4 v2_b4 H_b4 h0 hs hm
      exact (it_0 hm).elim
    | succ fu ih4 =>
      intro v1_b4 v2_b4 H_b4 h0 hs hm
      obtain ⟨y4, hm, hk4⟩ := it_s hm
      have hm : fX8_weights_b4 s v1_b4 v2_b4 = some y4 := hm
      unfold fX8_weights_b4 at hm
      refine aw_b (pc' := 6) (lv' := [(0, .ref a), (1, .int v1_b4), (2, .int v2_b4)]) (st' := [.ref a, .int v2_b4]) [(4, .iload_n 2, 1, .null), (5, .aload_n 0, 1, .null)] (by decide +kernel) rfl ?_
      refine aw_gl (v := .ref (a + 1)) a 0 h0 eo_O_0 fgX8_9 rfl (by decide +kernel) ?_
      refine aw_b (pc' := 10) (lv' := [(0, .ref a), (1, .int v1_b4), (2, .int v2_b4)]) (st' := [.int (4 : Int32), .ref (a + 1), .int v2_b4]) [(9, .iconst 4, 1, .int (4 : Int32))] (by decide +kernel) rfl ?_
      obtain ⟨g1, hm⟩ := gd_x hm
      refine aw_ial a 1 h0 rfl g1 (by decide +kernel) ?_
      refine aw_ic_ge (off := 18) 29 (by decide) (by decide +kernel) (fun hc => ?_) (fun hc => ?_)
      · have hm := (if_pos hc).symm.trans hm
        cases hm
        refine aw_lv (lv' := [(1, .int v1_b4)]) [1] rfl ?_
        exact X4_29 v1_b4 H_b4 h0 hs ((congrArg fX8_weights_k4 (show (v1_b4) = x4 from hk4)).trans hr4)
      · have hm := (if_neg hc).symm.trans hm
        refine aw_b (pc' := 18) (lv' := [(0, .ref a), (1, .int v1_b4), (2, .int v2_b4)]) (st' := [.int (2 : Int32), .int v2_b4, .ref a, .int v1_b4]) [(14, .iload_n 1, 1, .null), (15, .aload_n 0, 1, .null), (16, .iload_n 2, 1, .null), (17, .iconst 2, 1, .int (2 : Int32))] (by decide +kernel) rfl ?_
        obtain ⟨r2, e3, hm⟩ := bn_x hm
        refine aw_cv (rest := [.int v1_b4]) (st1 := [.int r2, .int v1_b4]) a 0 (kX8_of e3 h0) rfl rfl ckX8_of lkX8_236 h0 eo_O_0 ⟨_, _, rfl⟩ nkX8_of rfl rfl rfl (Nat.le_of_ble_eq_true rfl) (Nat.zero_le _) (Nat.zero_le _) (by decide +kernel) (fun H4 z5 => ?_)
        have h0 := h0.kept0 z5
        have hs := hs.step0 z5
        refine aw_b (pc' := 4) (lv' := [(2, .int (v2_b4 + (1 : Int32))), (1, .int (v1_b4 + r2)), (0, .ref a)]) (st' := []) [(21, .iadd, 1, .null), (22, .istore_n 1, 1, .null), (23, .iinc 2 1, 3, .int (1 : Int32)), (26, .goto (-22), 3, .null)] (by decide +kernel) rfl ?_
        cases hm
        refine aw_lv (lv' := [(0, .ref a), (1, .int (v1_b4 + r2)), (2, .int (v2_b4 + (1 : Int32)))]) [2, 1, 0] rfl ?_
        exact ih4 (v1_b4 + r2) (v2_b4 + (1 : Int32)) H4 h0 hs hk4
  refine aw_lv (lv' := [(0, .ref a), (1, .int (0 : Int32)), (2, .int (0 : Int32))]) [2, 1, 0] rfl ?_
  exact L4 FU_ (0 : Int32) (0 : Int32) H h0 hs hx4
def mX8_takenBy : mt_ := (yX8_takenBy, cX8_takenBy, 6, some .int, [], { frames := 3, locals := 64, cells := 0, slots := 0 })
theorem ckX8_takenBy : cokV_ mX8_takenBy := ⟨⟨(uw_mem 1783 (by decide +kernel) (by decide +kernel)), (uw_mem 112 (by decide +kernel) (by decide +kernel)), by decide +kernel, by decide +kernel⟩, (uw_mem 1782 (by decide +kernel) (by decide +kernel)), (uw_mem 65 (by decide +kernel) (by decide +kernel))⟩
theorem nkX8_takenBy : nok_ mX8_takenBy 3 := by decide +kernel
theorem lkX8_319 : Cond.methodLink RX8 319 yX8_weights ∈ uw_ := (uw_mem 1788 (by decide +kernel) (by decide +kernel))
def fX8_takenBy_x28_58 (v5_x28_58 : Int32) : Option (Int32) :=
  some v5_x28_58
def fX8_takenBy_k28 (x : Int32) : Option (Int32) :=
  fX8_takenBy_x28_58 x
def fX8_takenBy_b28 (s : st_) (v4_b28 : Int32) (v5_b28 : Int32) : Option ((Int32 × Int32) ⊕ (Int32)) :=
  bn_ (fX8_of s v5_b28 (2 : Int32)) fun r6 =>
  if v4_b28 < r6 then (some (.inr v5_b28))
  else (bn_ (fX8_of s v5_b28 (2 : Int32)) fun r10 =>
  some (.inl ((v4_b28 - r10), (v5_b28 + (1 : Int32)))))
def fX8_takenBy_l28 (s : st_) : Nat → (Int32 × Int32) → Option (Int32) :=
  it_ (fun v => fX8_takenBy_b28 s v.1 v.2)
def fX8_takenBy (s : st_) (i0 : Int32) (i1 : Int32) (i2 : Int32) : Option (Int32) :=
  if i0 = (2 : Int32) then (some i1)
  else (if i0 = (1 : Int32) then (bn_ (fX8_bestRule s) fun r14 =>
  some r14)
  else (bn_ (fX8_weights s) fun r1 =>
  gd_ (nz_ r1) <|
  bn_ (fX8_takenBy_l28 s FU_ ((i2 - i2 / r1 * r1), (0 : Int32))) (fX8_takenBy_k28)))
set_option maxRecDepth 8000 in
theorem kX8_takenBy {E : ev_} {H : Heap} {a : Nat} {s : st_} {i0 : Int32} {i1 : Int32} {i2 : Int32} {r : Int32} (hm : fX8_takenBy s i0 i1 i2 = some r) (h0 : has_ E H a ly_O s) : sp_ E mX8_takenBy [.ref a, .int i0, .int i1, .int i2] H (po1 (.inl (some (.int r))) (fun Hn => sm_ H Hn 0 0)) := by
  refine sp_of (by decide +kernel) rfl rfl ?_
  generalize hQ : po1 _ _ = Q
  have hs : sm_ H H 0 0 := sm_.rfl'
  unfold fX8_takenBy at hm
  refine aw_lv (lv' := [(0, .ref a), (1, .int i0), (2, .int i1), (3, .int i2)]) [0, 1, 2, 3] rfl ?_
  refine aw_b (pc' := 2) (lv' := [(0, .ref a), (1, .int i0), (2, .int i1), (3, .int i2)]) (st' := [.int (2 : Int32), .int i0]) [(0, .iload_n 1, 1, .null), (1, .iconst 2, 1, .int (2 : Int32))] (by decide +kernel) rfl ?_
  refine aw_ic_ne (off := 5) 7 (by decide) (by decide +kernel) (fun hc => ?_) (fun hc => ?_)
  · have hm := (if_neg hc).symm.trans hm
    refine aw_b (pc' := 9) (lv' := [(0, .ref a), (1, .int i0), (2, .int i1), (3, .int i2)]) (st' := [.int (1 : Int32), .int i0]) [(7, .iload_n 1, 1, .null), (8, .iconst 1, 1, .int (1 : Int32))] (by decide +kernel) rfl ?_
    refine aw_ic_ne (off := 8) 17 (by decide) (by decide +kernel) (fun hc => ?_) (fun hc => ?_)
    · have hm := (if_neg hc).symm.trans hm
      refine aw_b (pc' := 19) (lv' := [(0, .ref a), (1, .int i0), (2, .int i1), (3, .int i2)]) (st' := [.ref a, .int i2]) [(17, .iload_n 3, 1, .null), (18, .aload_n 0, 1, .null)] (by decide +kernel) rfl ?_
      obtain ⟨r1, e2, hm⟩ := bn_x hm
      refine aw_cv (rest := [.int i2]) (st1 := [.int r1, .int i2]) a 0 (kX8_weights e2 h0) rfl rfl ckX8_weights lkX8_319 h0 eo_O_0 ⟨_, _, rfl⟩ nkX8_weights rfl rfl rfl (Nat.le_of_ble_eq_true rfl) (Nat.zero_le _) (Nat.zero_le _) (by decide +kernel) (fun H3 z4 => ?_)
      have h0 := h0.kept0 z4
      have hs := hs.step0 z4
      obtain ⟨g5, hm⟩ := gd_x hm
      refine aw_irem (nz_x g5) (by decide +kernel) ?_
      refine aw_b (pc' := 28) (lv' := [(5, .int (0 : Int32)), (4, .int (i2 - i2 / r1 * r1)), (0, .ref a), (1, .int i0), (2, .int i1), (3, .int i2)]) (st' := []) [(23, .istore 4, 2, .null), (25, .iconst 0, 1, .int (0 : Int32)), (26, .istore 5, 2, .null)] (by decide +kernel) rfl ?_
      obtain ⟨x28, hx28, hr28⟩ := bn_x hm
      have X28_58 : ∀ (v5_x28_58 : Int32) (H_x28_58 : Heap), has_ E H_x28_58 a ly_O s → sm_ H H_x28_58 0 0 → fX8_takenBy_x28_58 v5_x28_58 = some r → aw E mX8_takenBy Q 58 [(5, .int v5_x28_58)] [] H_x28_58 0 0 := by
        intro v5_x28_58 H_x28_58 h0 hs hm
        unfold fX8_takenBy_x28_58 at hm
        refine aw_b (pc' := 60) (lv' := [(5, .int v5_x28_58)]) (st' := [.int v5_x28_58]) [(58, .iload 5, 2, .null)] (by decide +kernel) rfl ?_
        obtain rfl := Option.some.inj hm
        subst hQ
        exact aw_iret rfl (Nat.zero_le _) (Nat.zero_le _) (by decide +kernel) ⟨rfl, hs⟩
      have L28 : ∀ (fu : Nat) (v4_b28 : Int32) (v5_b28 : Int32) (H_b28 : Heap), has_ E H_b28 a ly_O s → sm_ H H_b28 0 0 → fX8_takenBy_l28 s fu (v4_b28, v5_b28) = some x28 → aw E mX8_takenBy Q 28 [(0, .ref a), (4, .int v4_b28), (5, .int v5_b28)] [] H_b28 0 0 := by
        intro fu
        induction fu with
        | zero =>
          intro v4_b28 v5_b28 H_b28 h0 hs hm
          exact (it_0 hm).elim
        | succ fu ih28 =>
          intro v4_b28 v5_b28 H_b28 h0 hs hm
          obtain ⟨y28, hm, hk28⟩ := it_s hm
          have hm : fX8_takenBy_b28 s v4_b28 v5_b28 = some y28 := hm
          unfold fX8_takenBy_b28 at hm
          refine aw_b (pc' := 32) (lv' := [(0, .ref a), (4, .int v4_b28), (5, .int v5_b28)]) (st' := [.int (2 : Int32), .int v5_b28, .ref a]) [(28, .aload_n 0, 1, .null), (29, .iload 5, 2, .null), (31, .iconst 2, 1, .int (2 : Int32))] (by decide +kernel) rfl ?_
          obtain ⟨r6, e7, hm⟩ := bn_x hm
          refine aw_cv (rest := []) (st1 := [.int r6]) a 0 (kX8_of e7 h0) rfl rfl ckX8_of lkX8_236 h0 eo_O_0 ⟨_, _, rfl⟩ nkX8_of rfl rfl rfl (Nat.le_of_ble_eq_true rfl) (Nat.zero_le _) (Nat.zero_le _) (by decide +kernel) (fun H8 z9 => ?_)
          have h0 := h0.kept0 z9
          have hs := hs.step0 z9
          refine aw_b (pc' := 37) (lv' := [(0, .ref a), (4, .int v4_b28), (5, .int v5_b28)]) (st' := [.int v4_b28, .int r6]) [(35, .iload 4, 2, .null)] (by decide +kernel) rfl ?_
          refine aw_ic_gt (off := 21) 58 (by decide) (by decide +kernel) (fun hc => ?_) (fun hc => ?_)
          · have hm := (if_pos hc).symm.trans hm
            cases hm
            refine aw_lv (lv' := [(5, .int v5_b28)]) [2] rfl ?_
            exact X28_58 v5_b28 H8 h0 hs ((congrArg fX8_takenBy_k28 (show (v5_b28) = x28 from hk28)).trans hr28)
          · have hm := (if_neg hc).symm.trans hm
            refine aw_b (pc' := 46) (lv' := [(0, .ref a), (4, .int v4_b28), (5, .int v5_b28)]) (st' := [.int (2 : Int32), .int v5_b28, .ref a, .int v4_b28]) [(40, .iload 4, 2, .null), (42, .aload_n 0, 1, .null), (43, .iload 5, 2, .null), (45, .iconst 2, 1, .int (2 : Int32))] (by decide +kernel) rfl ?_
            obtain ⟨r10, e11, hm⟩ := bn_x hm
            refine aw_cv (rest := [.int v4_b28]) (st1 := [.int r10, .int v4_b28]) a 0 (kX8_of e11 h0) rfl rfl ckX8_of lkX8_236 h0 eo_O_0 ⟨_, _, rfl⟩ nkX8_of rfl rfl rfl (Nat.le_of_ble_eq_true rfl) (Nat.zero_le _) (Nat.zero_le _) (by decide +kernel) (fun H12 z13 => ?_)
            have h0 := h0.kept0 z13
            have hs := hs.step0 z13
            refine aw_b (pc' := 28) (lv' := [(5, .int (v5_b28 + (1 : Int32))), (4, .int (v4_b28 - r10)), (0, .ref a)]) (st' := []) [(49, .isub, 1, .null), (50, .istore 4, 2, .null), (52, .iinc 5 1, 3, .int (1 : Int32)), (55, .goto (-27), 3, .null)] (by decide +kernel) rfl ?_
            cases hm
            refine aw_lv (lv' := [(0, .ref a), (4, .int (v4_b28 - r10)), (5, .int (v5_b28 + (1 : Int32)))]) [2, 1, 0] rfl ?_
            exact ih28 (v4_b28 - r10) (v5_b28 + (1 : Int32)) H12 h0 hs hk28
      refine aw_lv (lv' := [(0, .ref a), (4, .int (i2 - i2 / r1 * r1)), (5, .int (0 : Int32))]) [2, 1, 0] rfl ?_
      exact L28 FU_ (i2 - i2 / r1 * r1) (0 : Int32) H3 h0 hs hx28
    · have hm := (if_pos hc).symm.trans hm
      refine aw_b (pc' := 13) (lv' := [(0, .ref a), (1, .int i0), (2, .int i1), (3, .int i2)]) (st' := [.ref a]) [(12, .aload_n 0, 1, .null)] (by decide +kernel) rfl ?_
      obtain ⟨r14, e15, hm⟩ := bn_x hm
      refine aw_cv (rest := []) (st1 := [.int r14]) a 0 (kX8_bestRule e15 h0) rfl rfl ckX8_bestRule lkX8_310 h0 eo_O_0 ⟨_, _, rfl⟩ nkX8_bestRule rfl rfl rfl (Nat.le_of_ble_eq_true rfl) (Nat.zero_le _) (Nat.zero_le _) (by decide +kernel) (fun H16 z17 => ?_)
      have h0 := h0.kept0 z17
      have hs := hs.step0 z17
      obtain rfl := Option.some.inj hm
      subst hQ
      exact aw_iret rfl (Nat.zero_le _) (Nat.zero_le _) (by decide +kernel) ⟨rfl, hs⟩
  · have hm := (if_pos hc).symm.trans hm
    refine aw_b (pc' := 6) (lv' := [(0, .ref a), (1, .int i0), (2, .int i1), (3, .int i2)]) (st' := [.int i1]) [(5, .iload_n 2, 1, .null)] (by decide +kernel) rfl ?_
    obtain rfl := Option.some.inj hm
    subst hQ
    exact aw_iret rfl (Nat.zero_le _) (Nat.zero_le _) (by decide +kernel) ⟨rfl, hs⟩
def mX8_ruleNext : mt_ := (yX8_ruleNext, cX8_ruleNext, 1, some .int, [], { frames := 4, locals := 89, cells := 0, slots := 0 })
theorem ckX8_ruleNext : cokV_ mX8_ruleNext := ⟨⟨(uw_mem 1772 (by decide +kernel) (by decide +kernel)), (uw_mem 112 (by decide +kernel) (by decide +kernel)), by decide +kernel, by decide +kernel⟩, (uw_mem 1771 (by decide +kernel) (by decide +kernel)), (uw_mem 63 (by decide +kernel) (by decide +kernel))⟩
theorem nkX8_ruleNext : nok_ mX8_ruleNext 0 := by decide +kernel
theorem lkX8_322 : Cond.methodLink RX8 322 yX8_drawn ∈ uw_ := (uw_mem 1773 (by decide +kernel) (by decide +kernel))
theorem lkX8_325 : Cond.methodLink RX8 325 yX8_takenBy ∈ uw_ := (uw_mem 1780 (by decide +kernel) (by decide +kernel))
def fX8_ruleNext (s : st_) : Option (Int32) :=
  gd_ (ib_ (5 : Int32) 12584) <|
  gd_ (ib_ (6 : Int32) 12584) <|
  gd_ (ib_ (8 : Int32) 12584) <|
  bn_ (fX8_drawn s (s 1 (ix_ (8 : Int32)))) fun r4 =>
  bn_ (fX8_takenBy s (s 1 (ix_ (5 : Int32))) (s 1 (ix_ (6 : Int32))) r4) fun r8 =>
  some r8
set_option maxRecDepth 8000 in
theorem kX8_ruleNext {E : ev_} {H : Heap} {a : Nat} {s : st_} {r : Int32} (hm : fX8_ruleNext s = some r) (h0 : has_ E H a ly_O s) : sp_ E mX8_ruleNext [.ref a] H (po1 (.inl (some (.int r))) (fun Hn => sm_ H Hn 0 0)) := by
  refine sp_of (by decide +kernel) rfl rfl ?_
  generalize hQ : po1 _ _ = Q
  have hs : sm_ H H 0 0 := sm_.rfl'
  unfold fX8_ruleNext at hm
  refine aw_lv (lv' := [(0, .ref a)]) [0] rfl ?_
  refine aw_b (pc' := 2) (lv' := [(0, .ref a)]) (st' := [.ref a, .ref a]) [(0, .aload_n 0, 1, .null), (1, .aload_n 0, 1, .null)] (by decide +kernel) rfl ?_
  refine aw_gl (v := .ref (a + 1)) a 0 h0 eo_O_0 fgX8_9 rfl (by decide +kernel) ?_
  refine aw_b (pc' := 6) (lv' := [(0, .ref a)]) (st' := [.int (5 : Int32), .ref (a + 1), .ref a]) [(5, .iconst 5, 1, .int (5 : Int32))] (by decide +kernel) rfl ?_
  obtain ⟨g1, hm⟩ := gd_x hm
  refine aw_ial a 1 h0 rfl g1 (by decide +kernel) ?_
  refine aw_b (pc' := 8) (lv' := [(0, .ref a)]) (st' := [.ref a, .int (s 1 (ix_ (5 : Int32))), .ref a]) [(7, .aload_n 0, 1, .null)] (by decide +kernel) rfl ?_
  refine aw_gl (v := .ref (a + 1)) a 0 h0 eo_O_0 fgX8_9 rfl (by decide +kernel) ?_
  refine aw_b (pc' := 13) (lv' := [(0, .ref a)]) (st' := [.int (6 : Int32), .ref (a + 1), .int (s 1 (ix_ (5 : Int32))), .ref a]) [(11, .bipush 6, 2, .int (6 : Int32))] (by decide +kernel) rfl ?_
  obtain ⟨g2, hm⟩ := gd_x hm
  refine aw_ial a 1 h0 rfl g2 (by decide +kernel) ?_
  refine aw_b (pc' := 16) (lv' := [(0, .ref a)]) (st' := [.ref a, .ref a, .int (s 1 (ix_ (6 : Int32))), .int (s 1 (ix_ (5 : Int32))), .ref a]) [(14, .aload_n 0, 1, .null), (15, .aload_n 0, 1, .null)] (by decide +kernel) rfl ?_
  refine aw_gl (v := .ref (a + 1)) a 0 h0 eo_O_0 fgX8_9 rfl (by decide +kernel) ?_
  refine aw_b (pc' := 21) (lv' := [(0, .ref a)]) (st' := [.int (8 : Int32), .ref (a + 1), .ref a, .int (s 1 (ix_ (6 : Int32))), .int (s 1 (ix_ (5 : Int32))), .ref a]) [(19, .bipush 8, 2, .int (8 : Int32))] (by decide +kernel) rfl ?_
  obtain ⟨g3, hm⟩ := gd_x hm
  refine aw_ial a 1 h0 rfl g3 (by decide +kernel) ?_
  obtain ⟨r4, e5, hm⟩ := bn_x hm
  refine aw_cv (rest := [.int (s 1 (ix_ (6 : Int32))), .int (s 1 (ix_ (5 : Int32))), .ref a]) (st1 := [.int r4, .int (s 1 (ix_ (6 : Int32))), .int (s 1 (ix_ (5 : Int32))), .ref a]) a 0 (kX8_drawn e5 h0) rfl rfl ckX8_drawn lkX8_322 h0 eo_O_0 ⟨_, _, rfl⟩ nkX8_drawn rfl rfl rfl (Nat.le_of_ble_eq_true rfl) (Nat.zero_le _) (Nat.zero_le _) (by decide +kernel) (fun H6 z7 => ?_)
  have h0 := h0.kept0 z7
  have hs := hs.step0 z7
  obtain ⟨r8, e9, hm⟩ := bn_x hm
  refine aw_cv (rest := []) (st1 := [.int r8]) a 0 (kX8_takenBy e9 h0) rfl rfl ckX8_takenBy lkX8_325 h0 eo_O_0 ⟨_, _, rfl⟩ nkX8_takenBy rfl rfl rfl (Nat.le_of_ble_eq_true rfl) (Nat.zero_le _) (Nat.zero_le _) (by decide +kernel) (fun H10 z11 => ?_)
  have h0 := h0.kept0 z11
  have hs := hs.step0 z11
  obtain rfl := Option.some.inj hm
  subst hQ
  exact aw_iret rfl (Nat.zero_le _) (Nat.zero_le _) (by decide +kernel) ⟨rfl, hs⟩
def mX8_regretThen : mt_ := (yX8_regretThen, cX8_regretThen, 4, some .int, [], { frames := 7, locals := 159, cells := 0, slots := 0 })
theorem ckX8_regretThen : cokV_ mX8_regretThen := ⟨⟨(uw_mem 2005 (by decide +kernel) (by decide +kernel)), (uw_mem 112 (by decide +kernel) (by decide +kernel)), by decide +kernel, by decide +kernel⟩, (uw_mem 2004 (by decide +kernel) (by decide +kernel)), (uw_mem 91 (by decide +kernel) (by decide +kernel))⟩
theorem nkX8_regretThen : nok_ mX8_regretThen 0 := by decide +kernel
theorem lkX8_329 : Cond.methodLink RX8 329 yX8_ruleNext ∈ uw_ := (uw_mem 1769 (by decide +kernel) (by decide +kernel))
theorem lkX8_332 : Cond.methodLink RX8 332 yX8_wouldCost ∈ uw_ := (uw_mem 2006 (by decide +kernel) (by decide +kernel))
theorem kwX8_337 : Cond.constant RX8 337 (2147483647 : Int32) ∈ uw_ := (uw_mem 1924 (by decide +kernel) (by decide +kernel))
def fX8_regretThen_x25_59 (r1 : Int32) (r9 : st_ × Int32) (v2_x25_59 : Int32) (s_x25_59 : st_) : Option (st_ × Int32) :=
  some (s_x25_59, ((r1 + r9.2) - v2_x25_59))
def fX8_regretThen_k25 (r1 : Int32) (r9 : st_ × Int32) (x : Int32 × st_) : Option (st_ × Int32) :=
  fX8_regretThen_x25_59 r1 r9 x.1 x.2
def fX8_regretThen_b25 (v2_b25 : Int32) (v3_b25 : Int32) (s_b25 : st_) : Option ((Int32 × Int32 × st_) ⊕ (Int32 × st_)) :=
  gd_ (ib_ (4 : Int32) 12584) <|
  if (s_b25 1 (ix_ (4 : Int32))) ≤ v3_b25 then (some (.inr (v2_b25, s_b25)))
  else (bn_ (fX8_armOf s_b25 v3_b25 (3 : Int32)) fun r14 =>
  bn_ (fX8_wouldCost s_b25 v3_b25 v3_b25) fun r18 =>
  some (.inl ((if (r14 + r18.2) < v2_b25 then (r14 + r18.2) else v2_b25), (v3_b25 + (1 : Int32)), r18.1)))
def fX8_regretThen_l25 : Nat → (Int32 × Int32 × st_) → Option (Int32 × st_) :=
  it_ (fun v => fX8_regretThen_b25 v.1 v.2.1 v.2.2)
def fX8_regretThen (s : st_) : Option (st_ × Int32) :=
  bn_ (fX8_armOf s (6 : Int32) (3 : Int32)) fun r1 =>
  bn_ (fX8_ruleNext s) fun r5 =>
  bn_ (fX8_wouldCost s (6 : Int32) r5) fun r9 =>
  bn_ (fX8_regretThen_l25 FU_ ((2147483647 : Int32), (0 : Int32), r9.1)) (fX8_regretThen_k25 r1 r9)
set_option maxRecDepth 8000 in
theorem kX8_regretThen {E : ev_} {H : Heap} {a : Nat} {s : st_} {r : st_ × Int32} (hm : fX8_regretThen s = some r) (h0 : has_ E H a ly_O s) (hf : ev_fr E a) : sp_ E mX8_regretThen [.ref a] H (po1 (.inl (some (.int r.2))) (fun Hn => sm_ H Hn a 10 ∧ has_ E Hn a ly_O r.1)) := by
  refine sp_of (by decide +kernel) rfl rfl ?_
  generalize hQ : po1 _ _ = Q
  have hs : sm_ H H a 10 := sm_.rfl'
  unfold fX8_regretThen at hm
  refine aw_lv (lv' := [(0, .ref a)]) [0] rfl ?_
  refine aw_b (pc' := 4) (lv' := [(0, .ref a)]) (st' := [.int (3 : Int32), .int (6 : Int32), .ref a]) [(0, .aload_n 0, 1, .null), (1, .bipush 6, 2, .int (6 : Int32)), (3, .iconst 3, 1, .int (3 : Int32))] (by decide +kernel) rfl ?_
  obtain ⟨r1, e2, hm⟩ := bn_x hm
  refine aw_cv (rest := []) (st1 := [.int r1]) a 0 (kX8_armOf e2 h0) rfl rfl ckX8_armOf lkX8_232 h0 eo_O_0 ⟨_, _, rfl⟩ nkX8_armOf rfl rfl rfl (Nat.le_of_ble_eq_true rfl) (Nat.zero_le _) (Nat.zero_le _) (by decide +kernel) (fun H3 z4 => ?_)
  have h0 := h0.kept0 z4
  have hs := hs.step0 z4
  refine aw_b (pc' := 11) (lv' := [(0, .ref a)]) (st' := [.ref a, .int (6 : Int32), .ref a, .int r1]) [(7, .aload_n 0, 1, .null), (8, .bipush 6, 2, .int (6 : Int32)), (10, .aload_n 0, 1, .null)] (by decide +kernel) rfl ?_
  obtain ⟨r5, e6, hm⟩ := bn_x hm
  refine aw_cv (rest := [.int (6 : Int32), .ref a, .int r1]) (st1 := [.int r5, .int (6 : Int32), .ref a, .int r1]) a 0 (kX8_ruleNext e6 h0) rfl rfl ckX8_ruleNext lkX8_329 h0 eo_O_0 ⟨_, _, rfl⟩ nkX8_ruleNext rfl rfl rfl (Nat.le_of_ble_eq_true rfl) (Nat.zero_le _) (Nat.zero_le _) (by decide +kernel) (fun H7 z8 => ?_)
  have h0 := h0.kept0 z8
  have hs := hs.step0 z8
  obtain ⟨r9, e10, hm⟩ := bn_x hm
  refine aw_cv (rest := [.int r1]) (st1 := [.int r9.2, .int r1]) a 0 (kX8_wouldCost e10 h0 hf) rfl rfl ckX8_wouldCost lkX8_332 h0 eo_O_0 ⟨_, _, rfl⟩ nkX8_wouldCost rfl rfl rfl (Nat.le_of_ble_eq_true rfl) (Nat.zero_le _) (Nat.zero_le _) (by decide +kernel) (fun H11 z12 => ?_)
  obtain ⟨z12, hn⟩ := z12
  have h0 := hn
  have hs := hs.step z12 (by omega) (by omega)
  refine aw_b (pc' := 19) (lv' := [(1, .int (r1 + r9.2)), (0, .ref a)]) (st' := []) [(17, .iadd, 1, .null), (18, .istore_n 1, 1, .null)] (by decide +kernel) rfl ?_
  refine aw_ldcw (v := (2147483647 : Int32)) kwX8_337 (by decide +kernel) ?_
  refine aw_b (pc' := 25) (lv' := [(3, .int (0 : Int32)), (2, .int (2147483647 : Int32)), (1, .int (r1 + r9.2)), (0, .ref a)]) (st' := []) [(22, .istore_n 2, 1, .null), (23, .iconst 0, 1, .int (0 : Int32)), (24, .istore_n 3, 1, .null)] (by decide +kernel) rfl ?_
  obtain ⟨x25, hx25, hr25⟩ := bn_x hm
  have X25_59 : ∀ (v2_x25_59 : Int32) (s_x25_59 : st_) (H_x25_59 : Heap), has_ E H_x25_59 a ly_O s_x25_59 → sm_ H H_x25_59 a 10 → fX8_regretThen_x25_59 r1 r9 v2_x25_59 s_x25_59 = some r → aw E mX8_regretThen Q 59 [(1, .int (r1 + r9.2)), (2, .int v2_x25_59)] [] H_x25_59 0 0 := by
    intro v2_x25_59 s_x25_59 H_x25_59 h0 hs hm
    unfold fX8_regretThen_x25_59 at hm
    refine aw_b (pc' := 62) (lv' := [(1, .int (r1 + r9.2)), (2, .int v2_x25_59)]) (st' := [.int ((r1 + r9.2) - v2_x25_59)]) [(59, .iload_n 1, 1, .null), (60, .iload_n 2, 1, .null), (61, .isub, 1, .null)] (by decide +kernel) rfl ?_
    obtain rfl := Option.some.inj hm
    subst hQ
    exact aw_iret rfl (Nat.zero_le _) (Nat.zero_le _) (by decide +kernel) ⟨rfl, hs, h0⟩
  have L25 : ∀ (fu : Nat) (v2_b25 : Int32) (v3_b25 : Int32) (s_b25 : st_) (H_b25 : Heap), has_ E H_b25 a ly_O s_b25 → sm_ H H_b25 a 10 → fX8_regretThen_l25 fu (v2_b25, v3_b25, s_b25) = some x25 → aw E mX8_regretThen Q 25 [(0, .ref a), (1, .int (r1 + r9.2)), (2, .int v2_b25), (3, .int v3_b25)] [] H_b25 0 0 := by
    intro fu
    induction fu with
    | zero =>
      intro v2_b25 v3_b25 s_b25 H_b25 h0 hs hm
      exact (it_0 hm).elim
    | succ fu ih25 =>
      intro v2_b25 v3_b25 s_b25 H_b25 h0 hs hm
      obtain ⟨y25, hm, hk25⟩ := it_s hm
      have hm : fX8_regretThen_b25 v2_b25 v3_b25 s_b25 = some y25 := hm
      unfold fX8_regretThen_b25 at hm
      refine aw_b (pc' := 27) (lv' := [(0, .ref a), (1, .int (r1 + r9.2)), (2, .int v2_b25), (3, .int v3_b25)]) (st' := [.ref a, .int v3_b25]) [(25, .iload_n 3, 1, .null), (26, .aload_n 0, 1, .null)] (by decide +kernel) rfl ?_
      refine aw_gl (v := .ref (a + 1)) a 0 h0 eo_O_0 fgX8_9 rfl (by decide +kernel) ?_
      refine aw_b (pc' := 31) (lv' := [(0, .ref a), (1, .int (r1 + r9.2)), (2, .int v2_b25), (3, .int v3_b25)]) (st' := [.int (4 : Int32), .ref (a + 1), .int v3_b25]) [(30, .iconst 4, 1, .int (4 : Int32))] (by decide +kernel) rfl ?_
      obtain ⟨g13, hm⟩ := gd_x hm
      refine aw_ial a 1 h0 rfl g13 (by decide +kernel) ?_
      refine aw_ic_ge (off := 27) 59 (by decide) (by decide +kernel) (fun hc => ?_) (fun hc => ?_)
      · have hm := (if_pos hc).symm.trans hm
        cases hm
        refine aw_lv (lv' := [(1, .int (r1 + r9.2)), (2, .int v2_b25)]) [1, 2] rfl ?_
        exact X25_59 v2_b25 s_b25 H_b25 h0 hs ((congrArg (fX8_regretThen_k25 r1 r9) (show ((v2_b25, s_b25)) = x25 from hk25)).trans hr25)
      · have hm := (if_neg hc).symm.trans hm
        refine aw_b (pc' := 39) (lv' := [(0, .ref a), (1, .int (r1 + r9.2)), (2, .int v2_b25), (3, .int v3_b25)]) (st' := [.int (3 : Int32), .int v3_b25, .ref a, .int v2_b25]) [(35, .iload_n 2, 1, .null), (36, .aload_n 0, 1, .null), (37, .iload_n 3, 1, .null), (38, .iconst 3, 1, .int (3 : Int32))] (by decide +kernel) rfl ?_
        obtain ⟨r14, e15, hm⟩ := bn_x hm
        refine aw_cv (rest := [.int v2_b25]) (st1 := [.int r14, .int v2_b25]) a 0 (kX8_armOf e15 h0) rfl rfl ckX8_armOf lkX8_232 h0 eo_O_0 ⟨_, _, rfl⟩ nkX8_armOf rfl rfl rfl (Nat.le_of_ble_eq_true rfl) (Nat.zero_le _) (Nat.zero_le _) (by decide +kernel) (fun H16 z17 => ?_)
        have h0 := h0.kept0 z17
        have hs := hs.step0 z17
        refine aw_b (pc' := 45) (lv' := [(0, .ref a), (1, .int (r1 + r9.2)), (2, .int v2_b25), (3, .int v3_b25)]) (st' := [.int v3_b25, .int v3_b25, .ref a, .int r14, .int v2_b25]) [(42, .aload_n 0, 1, .null), (43, .iload_n 3, 1, .null), (44, .iload_n 3, 1, .null)] (by decide +kernel) rfl ?_
        obtain ⟨r18, e19, hm⟩ := bn_x hm
        refine aw_cv (rest := [.int r14, .int v2_b25]) (st1 := [.int r18.2, .int r14, .int v2_b25]) a 0 (kX8_wouldCost e19 h0 hf) rfl rfl ckX8_wouldCost lkX8_332 h0 eo_O_0 ⟨_, _, rfl⟩ nkX8_wouldCost rfl rfl rfl (Nat.le_of_ble_eq_true rfl) (Nat.zero_le _) (Nat.zero_le _) (by decide +kernel) (fun H20 z21 => ?_)
        obtain ⟨z21, hn⟩ := z21
        have h0 := hn
        have hs := hs.step z21 (by omega) (by omega)
        refine aw_b (pc' := 49) (lv' := [(0, .ref a), (1, .int (r1 + r9.2)), (2, .int v2_b25), (3, .int v3_b25)]) (st' := [.int (r14 + r18.2), .int v2_b25]) [(48, .iadd, 1, .null)] (by decide +kernel) rfl ?_
        refine aw_mn (rest := []) mtX8_308 rfl (Nat.le_of_ble_eq_true rfl) (Nat.zero_le _) (Nat.zero_le _) (by decide +kernel) ?_
        refine aw_b (pc' := 25) (lv' := [(3, .int (v3_b25 + (1 : Int32))), (2, .int (if (r14 + r18.2) < v2_b25 then (r14 + r18.2) else v2_b25)), (0, .ref a), (1, .int (r1 + r9.2))]) (st' := []) [(52, .istore_n 2, 1, .null), (53, .iinc 3 1, 3, .int (1 : Int32)), (56, .goto (-31), 3, .null)] (by decide +kernel) rfl ?_
        cases hm
        refine aw_lv (lv' := [(0, .ref a), (1, .int (r1 + r9.2)), (2, .int (if (r14 + r18.2) < v2_b25 then (r14 + r18.2) else v2_b25)), (3, .int (v3_b25 + (1 : Int32)))]) [2, 3, 1, 0] rfl ?_
        exact ih25 (if (r14 + r18.2) < v2_b25 then (r14 + r18.2) else v2_b25) (v3_b25 + (1 : Int32)) r18.1 H20 h0 hs hk25
  refine aw_lv (lv' := [(0, .ref a), (1, .int (r1 + r9.2)), (2, .int (2147483647 : Int32)), (3, .int (0 : Int32))]) [3, 2, 1, 0] rfl ?_
  exact L25 FU_ (2147483647 : Int32) (0 : Int32) r9.1 H11 h0 hs hx25
def mX8_hurts : mt_ := (yX8_hurts, cX8_hurts, 4, some .int, [], { frames := 8, locals := 182, cells := 0, slots := 0 })
theorem ckX8_hurts : cokV_ mX8_hurts := ⟨⟨(uw_mem 2001 (by decide +kernel) (by decide +kernel)), (uw_mem 112 (by decide +kernel) (by decide +kernel)), by decide +kernel, by decide +kernel⟩, (uw_mem 2000 (by decide +kernel) (by decide +kernel)), (uw_mem 90 (by decide +kernel) (by decide +kernel))⟩
theorem nkX8_hurts : nok_ mX8_hurts 1 := by decide +kernel
theorem lkX8_338 : Cond.methodLink RX8 338 yX8_regretThen ∈ uw_ := (uw_mem 2002 (by decide +kernel) (by decide +kernel))
def fX8_hurts_x12_47 (r5 : st_ × Int32) (s_x12_47 : st_) : Option (st_ × Int32) :=
  some (s_x12_47, r5.2)
def fX8_hurts_k12 (r5 : st_ × Int32) (x : st_) : Option (st_ × Int32) :=
  fX8_hurts_x12_47 r5 x
def fX8_hurts_j41 (v3_b12 : Int32) (s_j41 : st_) : Option ((Int32 × st_) ⊕ (st_)) :=
  some (.inl ((v3_b12 + (1 : Int32)), s_j41))
def fX8_hurts_b12 (v3_b12 : Int32) (s_b12 : st_) : Option ((Int32 × st_) ⊕ (st_)) :=
  if (8 : Int32) ≤ v3_b12 then (some (.inr s_b12))
  else (bn_ (fX8_isThere s_b12 v3_b12) fun r9 =>
  if r9 = (0 : Int32) then (fX8_hurts_j41 v3_b12 s_b12)
  else (bn_ (fX8_armAt v3_b12) fun r13 =>
  gd_ (ib_ (r13 + (2 : Int32)) 12584) <|
  gd_ (ib_ (r13 + (2 : Int32)) 12584) <|
  bd_ (pt_ s_b12 1 (ix_ (r13 + (2 : Int32))) ((s_b12 1 (ix_ (r13 + (2 : Int32)))) - (1 : Int32))) fun s19 =>
  fX8_hurts_j41 v3_b12 s19))
def fX8_hurts_l12 : Nat → (Int32 × st_) → Option (st_) :=
  it_ (fun v => fX8_hurts_b12 v.1 v.2)
def fX8_hurts (s : st_) (i0 : Int32) : Option (st_ × Int32) :=
  bn_ (fX8_comes s i0) fun r1 =>
  bn_ (fX8_regretThen r1) fun r5 =>
  bn_ (fX8_hurts_l12 FU_ ((0 : Int32), r5.1)) (fX8_hurts_k12 r5)
set_option maxRecDepth 8000 in
theorem kX8_hurts {E : ev_} {H : Heap} {a : Nat} {s : st_} {i0 : Int32} {r : st_ × Int32} (hm : fX8_hurts s i0 = some r) (h0 : has_ E H a ly_O s) (hf : ev_fr E a) : sp_ E mX8_hurts [.ref a, .int i0] H (po1 (.inl (some (.int r.2))) (fun Hn => sm_ H Hn a 10 ∧ has_ E Hn a ly_O r.1)) := by
  refine sp_of (by decide +kernel) rfl rfl ?_
  generalize hQ : po1 _ _ = Q
  have hs : sm_ H H a 10 := sm_.rfl'
  unfold fX8_hurts at hm
  refine aw_lv (lv' := [(0, .ref a), (1, .int i0)]) [0, 1] rfl ?_
  refine aw_b (pc' := 2) (lv' := [(0, .ref a), (1, .int i0)]) (st' := [.int i0, .ref a]) [(0, .aload_n 0, 1, .null), (1, .iload_n 1, 1, .null)] (by decide +kernel) rfl ?_
  obtain ⟨r1, e2, hm⟩ := bn_x hm
  refine aw_cv (rest := []) (st1 := []) a 0 (kX8_comes e2 h0 hf) rfl rfl ckX8_comes lkX8_248 h0 eo_O_0 ⟨_, _, rfl⟩ nkX8_comes rfl rfl rfl (Nat.le_of_ble_eq_true rfl) (Nat.zero_le _) (Nat.zero_le _) (by decide +kernel) (fun H3 z4 => ?_)
  obtain ⟨z4, hn⟩ := z4
  have h0 := hn
  have hs := hs.step z4 (by omega) (by omega)
  refine aw_b (pc' := 6) (lv' := [(0, .ref a), (1, .int i0)]) (st' := [.ref a]) [(5, .aload_n 0, 1, .null)] (by decide +kernel) rfl ?_
  obtain ⟨r5, e6, hm⟩ := bn_x hm
  refine aw_cv (rest := []) (st1 := [.int r5.2]) a 0 (kX8_regretThen e6 h0 hf) rfl rfl ckX8_regretThen lkX8_338 h0 eo_O_0 ⟨_, _, rfl⟩ nkX8_regretThen rfl rfl rfl (Nat.le_of_ble_eq_true rfl) (Nat.zero_le _) (Nat.zero_le _) (by decide +kernel) (fun H7 z8 => ?_)
  obtain ⟨z8, hn⟩ := z8
  have h0 := hn
  have hs := hs.step z8 (by omega) (by omega)
  refine aw_b (pc' := 12) (lv' := [(3, .int (0 : Int32)), (2, .int r5.2), (0, .ref a), (1, .int i0)]) (st' := []) [(9, .istore_n 2, 1, .null), (10, .iconst 0, 1, .int (0 : Int32)), (11, .istore_n 3, 1, .null)] (by decide +kernel) rfl ?_
  obtain ⟨x12, hx12, hr12⟩ := bn_x hm
  have X12_47 : ∀ (s_x12_47 : st_) (H_x12_47 : Heap), has_ E H_x12_47 a ly_O s_x12_47 → sm_ H H_x12_47 a 10 → fX8_hurts_x12_47 r5 s_x12_47 = some r → aw E mX8_hurts Q 47 [(2, .int r5.2)] [] H_x12_47 0 0 := by
    intro s_x12_47 H_x12_47 h0 hs hm
    unfold fX8_hurts_x12_47 at hm
    refine aw_b (pc' := 48) (lv' := [(2, .int r5.2)]) (st' := [.int r5.2]) [(47, .iload_n 2, 1, .null)] (by decide +kernel) rfl ?_
    obtain rfl := Option.some.inj hm
    subst hQ
    exact aw_iret rfl (Nat.zero_le _) (Nat.zero_le _) (by decide +kernel) ⟨rfl, hs, h0⟩
  have L12 : ∀ (fu : Nat) (v3_b12 : Int32) (s_b12 : st_) (H_b12 : Heap), has_ E H_b12 a ly_O s_b12 → sm_ H H_b12 a 10 → fX8_hurts_l12 fu (v3_b12, s_b12) = some x12 → aw E mX8_hurts Q 12 [(0, .ref a), (2, .int r5.2), (3, .int v3_b12)] [] H_b12 0 0 := by
    intro fu
    induction fu with
    | zero =>
      intro v3_b12 s_b12 H_b12 h0 hs hm
      exact (it_0 hm).elim
    | succ fu ih12 =>
      intro v3_b12 s_b12 H_b12 h0 hs hm
      obtain ⟨y12, hm, hk12⟩ := it_s hm
      have hm : fX8_hurts_b12 v3_b12 s_b12 = some y12 := hm
      unfold fX8_hurts_b12 at hm
      refine aw_b (pc' := 15) (lv' := [(0, .ref a), (2, .int r5.2), (3, .int v3_b12)]) (st' := [.int (8 : Int32), .int v3_b12]) [(12, .iload_n 3, 1, .null), (13, .bipush 8, 2, .int (8 : Int32))] (by decide +kernel) rfl ?_
      refine aw_ic_ge (off := 32) 47 (by decide) (by decide +kernel) (fun hc => ?_) (fun hc => ?_)
      · have hm := (if_pos hc).symm.trans hm
        cases hm
        refine aw_lv (lv' := [(2, .int r5.2)]) [1] rfl ?_
        exact X12_47 s_b12 H_b12 h0 hs ((congrArg (fX8_hurts_k12 r5) (show (s_b12) = x12 from hk12)).trans hr12)
      · have hm := (if_neg hc).symm.trans hm
        refine aw_b (pc' := 20) (lv' := [(0, .ref a), (2, .int r5.2), (3, .int v3_b12)]) (st' := [.int v3_b12, .ref a]) [(18, .aload_n 0, 1, .null), (19, .iload_n 3, 1, .null)] (by decide +kernel) rfl ?_
        obtain ⟨r9, e10, hm⟩ := bn_x hm
        refine aw_cv (rest := []) (st1 := [.int r9]) a 0 (kX8_isThere e10 h0) rfl rfl ckX8_isThere lkX8_239 h0 eo_O_0 ⟨_, _, rfl⟩ nkX8_isThere rfl rfl rfl (Nat.le_of_ble_eq_true rfl) (Nat.zero_le _) (Nat.zero_le _) (by decide +kernel) (fun H11 z12 => ?_)
        have h0 := h0.kept0 z12
        have hs := hs.step0 z12
        have J41 : ∀ (s_j41 : st_) (H_j41 : Heap), has_ E H_j41 a ly_O s_j41 → sm_ H H_j41 a 10 → fX8_hurts_j41 v3_b12 s_j41 = some y12 → aw E mX8_hurts Q 41 [(0, .ref a), (2, .int r5.2), (3, .int v3_b12)] [] H_j41 0 0 := by
          intro s_j41 H_j41 h0 hs hm
          unfold fX8_hurts_j41 at hm
          refine aw_b (pc' := 12) (lv' := [(3, .int (v3_b12 + (1 : Int32))), (0, .ref a), (2, .int r5.2)]) (st' := []) [(41, .iinc 3 1, 3, .int (1 : Int32)), (44, .goto (-32), 3, .null)] (by decide +kernel) rfl ?_
          cases hm
          refine aw_lv (lv' := [(0, .ref a), (2, .int r5.2), (3, .int (v3_b12 + (1 : Int32)))]) [1, 2, 0] rfl ?_
          exact ih12 (v3_b12 + (1 : Int32)) s_j41 H_j41 h0 hs hk12
        refine aw_if_eq (off := 18) 41 (by decide) (by decide +kernel) (fun hc => ?_) (fun hc => ?_)
        · have hm := (if_pos hc).symm.trans hm
          exact J41 s_b12 H11 h0 hs hm
        · have hm := (if_neg hc).symm.trans hm
          refine aw_b (pc' := 27) (lv' := [(0, .ref a), (2, .int r5.2), (3, .int v3_b12)]) (st' := [.ref a]) [(26, .aload_n 0, 1, .null)] (by decide +kernel) rfl ?_
          refine aw_gl (v := .ref (a + 1)) a 0 h0 eo_O_0 fgX8_9 rfl (by decide +kernel) ?_
          refine aw_b (pc' := 31) (lv' := [(0, .ref a), (2, .int r5.2), (3, .int v3_b12)]) (st' := [.int v3_b12, .ref (a + 1)]) [(30, .iload_n 3, 1, .null)] (by decide +kernel) rfl ?_
          obtain ⟨r13, e14, hm⟩ := bn_x hm
          refine aw_cs (rest := [.ref (a + 1)]) (st1 := [.int r13, .ref (a + 1)]) (kX8_armAt e14) rfl rfl ckX8_armAt lkX8_215 nkX8_armAt rfl rfl rfl (Nat.le_of_ble_eq_true rfl) (Nat.zero_le _) (Nat.zero_le _) (by decide +kernel) (fun H15 z16 => ?_)
          have h0 := h0.kept0 z16
          have hs := hs.step0 z16
          refine aw_b (pc' := 37) (lv' := [(0, .ref a), (2, .int r5.2), (3, .int v3_b12)]) (st' := [.int (r13 + (2 : Int32)), .ref (a + 1), .int (r13 + (2 : Int32)), .ref (a + 1)]) [(34, .iconst 2, 1, .int (2 : Int32)), (35, .iadd, 1, .null), (36, .dup2, 1, .null)] (by decide +kernel) rfl ?_
          obtain ⟨g17, hm⟩ := gd_x hm
          refine aw_ial a 1 h0 rfl g17 (by decide +kernel) ?_
          refine aw_b (pc' := 40) (lv' := [(0, .ref a), (2, .int r5.2), (3, .int v3_b12)]) (st' := [.int ((s_b12 1 (ix_ (r13 + (2 : Int32)))) - (1 : Int32)), .int (r13 + (2 : Int32)), .ref (a + 1)]) [(38, .iconst 1, 1, .int (1 : Int32)), (39, .isub, 1, .null)] (by decide +kernel) rfl ?_
          obtain ⟨g18, hm⟩ := gd_x hm
          obtain ⟨s19, e20, hm⟩ := bd_x hm
          refine aw_isl a 1 h0 rfl hf g18 e20 (by decide +kernel) (fun H21 h0 z22 => ?_)
          have hs := hs.step z22 (by omega) (by omega)
          exact J41 s19 H21 h0 hs hm
  refine aw_lv (lv' := [(0, .ref a), (2, .int r5.2), (3, .int (0 : Int32))]) [2, 1, 0] rfl ?_
  exact L12 FU_ (0 : Int32) r5.1 H7 h0 hs hx12
def mX8_worstOf : mt_ := (yX8_worstOf, cX8_worstOf, 5, some .int, [], { frames := 9, locals := 205, cells := 0, slots := 0 })
theorem ckX8_worstOf : cokV_ mX8_worstOf := ⟨⟨(uw_mem 1997 (by decide +kernel) (by decide +kernel)), (uw_mem 112 (by decide +kernel) (by decide +kernel)), by decide +kernel, by decide +kernel⟩, (uw_mem 1996 (by decide +kernel) (by decide +kernel)), (uw_mem 89 (by decide +kernel) (by decide +kernel))⟩
theorem nkX8_worstOf : nok_ mX8_worstOf 0 := by decide +kernel
theorem lkX8_341 : Cond.methodLink RX8 341 yX8_hurts ∈ uw_ := (uw_mem 1998 (by decide +kernel) (by decide +kernel))
def fX8_worstOf_x6_48 (v1_x6_48 : Int32) (s_x6_48 : st_) : Option (st_ × Int32) :=
  some (s_x6_48, v1_x6_48)
def fX8_worstOf_k6 (x : Int32 × st_) : Option (st_ × Int32) :=
  fX8_worstOf_x6_48 x.1 x.2
def fX8_worstOf_j42 (v3_b6 : Int32) (r2 : st_ × Int32) (v1_j42 : Int32) (v2_j42 : Int32) : Option ((Int32 × Int32 × Int32 × st_) ⊕ (Int32 × st_)) :=
  some (.inl (v1_j42, v2_j42, (v3_b6 + (1 : Int32)), r2.1))
def fX8_worstOf_j37 (v3_b6 : Int32) (r2 : st_ × Int32) : Option ((Int32 × Int32 × Int32 × st_) ⊕ (Int32 × st_)) :=
  fX8_worstOf_j42 v3_b6 r2 v3_b6 r2.2
def fX8_worstOf_b6 (v1_b6 : Int32) (v2_b6 : Int32) (v3_b6 : Int32) (s_b6 : st_) : Option ((Int32 × Int32 × Int32 × st_) ⊕ (Int32 × st_)) :=
  gd_ (ib_ (0 : Int32) 12584) <|
  if (s_b6 1 (ix_ (0 : Int32))) ≤ v3_b6 then (some (.inr (v1_b6, s_b6)))
  else (bn_ (fX8_hurts s_b6 v3_b6) fun r2 =>
  if v1_b6 = (-1 : Int32) then (fX8_worstOf_j37 v3_b6 r2)
  else (if v2_b6 < r2.2 then (fX8_worstOf_j37 v3_b6 r2)
  else (fX8_worstOf_j42 v3_b6 r2 v1_b6 v2_b6)))
def fX8_worstOf_l6 : Nat → (Int32 × Int32 × Int32 × st_) → Option (Int32 × st_) :=
  it_ (fun v => fX8_worstOf_b6 v.1 v.2.1 v.2.2.1 v.2.2.2)
def fX8_worstOf (s : st_) : Option (st_ × Int32) :=
  bn_ (fX8_worstOf_l6 FU_ ((-1 : Int32), (0 : Int32), (0 : Int32), s)) (fX8_worstOf_k6)
set_option maxRecDepth 8000 in
theorem kX8_worstOf {E : ev_} {H : Heap} {a : Nat} {s : st_} {r : st_ × Int32} (hm : fX8_worstOf s = some r) (h0 : has_ E H a ly_O s) (hf : ev_fr E a) : sp_ E mX8_worstOf [.ref a] H (po1 (.inl (some (.int r.2))) (fun Hn => sm_ H Hn a 10 ∧ has_ E Hn a ly_O r.1)) := by
  refine sp_of (by decide +kernel) rfl rfl ?_
  generalize hQ : po1 _ _ = Q
  have hs : sm_ H H a 10 := sm_.rfl'
  unfold fX8_worstOf at hm
  refine aw_lv (lv' := [(0, .ref a)]) [0] rfl ?_
  refine aw_b (pc' := 6) (lv' := [(3, .int (0 : Int32)), (2, .int (0 : Int32)), (1, .int (-1 : Int32)), (0, .ref a)]) (st' := []) [(0, .iconst (-1), 1, .int (-1 : Int32)), (1, .istore_n 1, 1, .null), (2, .iconst 0, 1, .int (0 : Int32)), (3, .istore_n 2, 1, .null), (4, .iconst 0, 1, .int (0 : Int32)), (5, .istore_n 3, 1, .null)] (by decide +kernel) rfl ?_
  obtain ⟨x6, hx6, hr6⟩ := bn_x hm
  have X6_48 : ∀ (v1_x6_48 : Int32) (s_x6_48 : st_) (H_x6_48 : Heap), has_ E H_x6_48 a ly_O s_x6_48 → sm_ H H_x6_48 a 10 → fX8_worstOf_x6_48 v1_x6_48 s_x6_48 = some r → aw E mX8_worstOf Q 48 [(1, .int v1_x6_48)] [] H_x6_48 0 0 := by
    intro v1_x6_48 s_x6_48 H_x6_48 h0 hs hm
    unfold fX8_worstOf_x6_48 at hm
    refine aw_b (pc' := 49) (lv' := [(1, .int v1_x6_48)]) (st' := [.int v1_x6_48]) [(48, .iload_n 1, 1, .null)] (by decide +kernel) rfl ?_
    obtain rfl := Option.some.inj hm
    subst hQ
    exact aw_iret rfl (Nat.zero_le _) (Nat.zero_le _) (by decide +kernel) ⟨rfl, hs, h0⟩
  have L6 : ∀ (fu : Nat) (v1_b6 : Int32) (v2_b6 : Int32) (v3_b6 : Int32) (s_b6 : st_) (H_b6 : Heap), has_ E H_b6 a ly_O s_b6 → sm_ H H_b6 a 10 → fX8_worstOf_l6 fu (v1_b6, v2_b6, v3_b6, s_b6) = some x6 → aw E mX8_worstOf Q 6 [(0, .ref a), (1, .int v1_b6), (2, .int v2_b6), (3, .int v3_b6)] [] H_b6 0 0 := by
    intro fu
    induction fu with
    | zero =>
      intro v1_b6 v2_b6 v3_b6 s_b6 H_b6 h0 hs hm
      exact (it_0 hm).elim
    | succ fu ih6 =>
      intro v1_b6 v2_b6 v3_b6 s_b6 H_b6 h0 hs hm
      obtain ⟨y6, hm, hk6⟩ := it_s hm
      have hm : fX8_worstOf_b6 v1_b6 v2_b6 v3_b6 s_b6 = some y6 := hm
      unfold fX8_worstOf_b6 at hm
      refine aw_b (pc' := 8) (lv' := [(0, .ref a), (1, .int v1_b6), (2, .int v2_b6), (3, .int v3_b6)]) (st' := [.ref a, .int v3_b6]) [(6, .iload_n 3, 1, .null), (7, .aload_n 0, 1, .null)] (by decide +kernel) rfl ?_
      refine aw_gl (v := .ref (a + 1)) a 0 h0 eo_O_0 fgX8_9 rfl (by decide +kernel) ?_
      refine aw_b (pc' := 12) (lv' := [(0, .ref a), (1, .int v1_b6), (2, .int v2_b6), (3, .int v3_b6)]) (st' := [.int (0 : Int32), .ref (a + 1), .int v3_b6]) [(11, .iconst 0, 1, .int (0 : Int32))] (by decide +kernel) rfl ?_
      obtain ⟨g1, hm⟩ := gd_x hm
      refine aw_ial a 1 h0 rfl g1 (by decide +kernel) ?_
      refine aw_ic_ge (off := 35) 48 (by decide) (by decide +kernel) (fun hc => ?_) (fun hc => ?_)
      · have hm := (if_pos hc).symm.trans hm
        cases hm
        refine aw_lv (lv' := [(1, .int v1_b6)]) [1] rfl ?_
        exact X6_48 v1_b6 s_b6 H_b6 h0 hs ((congrArg fX8_worstOf_k6 (show ((v1_b6, s_b6)) = x6 from hk6)).trans hr6)
      · have hm := (if_neg hc).symm.trans hm
        refine aw_b (pc' := 18) (lv' := [(0, .ref a), (1, .int v1_b6), (2, .int v2_b6), (3, .int v3_b6)]) (st' := [.int v3_b6, .ref a]) [(16, .aload_n 0, 1, .null), (17, .iload_n 3, 1, .null)] (by decide +kernel) rfl ?_
        obtain ⟨r2, e3, hm⟩ := bn_x hm
        refine aw_cv (rest := []) (st1 := [.int r2.2]) a 0 (kX8_hurts e3 h0 hf) rfl rfl ckX8_hurts lkX8_341 h0 eo_O_0 ⟨_, _, rfl⟩ nkX8_hurts rfl rfl rfl (Nat.le_of_ble_eq_true rfl) (Nat.zero_le _) (Nat.zero_le _) (by decide +kernel) (fun H4 z5 => ?_)
        obtain ⟨z5, hn⟩ := z5
        have h0 := hn
        have hs := hs.step z5 (by omega) (by omega)
        refine aw_b (pc' := 25) (lv' := [(4, .int r2.2), (0, .ref a), (1, .int v1_b6), (2, .int v2_b6), (3, .int v3_b6)]) (st' := [.int (-1 : Int32), .int v1_b6]) [(21, .istore 4, 2, .null), (23, .iload_n 1, 1, .null), (24, .iconst (-1), 1, .int (-1 : Int32))] (by decide +kernel) rfl ?_
        have J42 : ∀ (v1_j42 : Int32) (v2_j42 : Int32) (H_j42 : Heap), has_ E H_j42 a ly_O r2.1 → sm_ H H_j42 a 10 → fX8_worstOf_j42 v3_b6 r2 v1_j42 v2_j42 = some y6 → aw E mX8_worstOf Q 42 [(0, .ref a), (1, .int v1_j42), (2, .int v2_j42), (3, .int v3_b6)] [] H_j42 0 0 := by
          intro v1_j42 v2_j42 H_j42 h0 hs hm
          unfold fX8_worstOf_j42 at hm
          refine aw_b (pc' := 6) (lv' := [(3, .int (v3_b6 + (1 : Int32))), (0, .ref a), (1, .int v1_j42), (2, .int v2_j42)]) (st' := []) [(42, .iinc 3 1, 3, .int (1 : Int32)), (45, .goto (-39), 3, .null)] (by decide +kernel) rfl ?_
          cases hm
          refine aw_lv (lv' := [(0, .ref a), (1, .int v1_j42), (2, .int v2_j42), (3, .int (v3_b6 + (1 : Int32)))]) [1, 2, 3, 0] rfl ?_
          exact ih6 v1_j42 v2_j42 (v3_b6 + (1 : Int32)) r2.1 H_j42 h0 hs hk6
        have J37 : ∀ (H_j37 : Heap), has_ E H_j37 a ly_O r2.1 → sm_ H H_j37 a 10 → fX8_worstOf_j37 v3_b6 r2 = some y6 → aw E mX8_worstOf Q 37 [(0, .ref a), (3, .int v3_b6), (4, .int r2.2)] [] H_j37 0 0 := by
          intro H_j37 h0 hs hm
          unfold fX8_worstOf_j37 at hm
          refine aw_b (pc' := 42) (lv' := [(2, .int r2.2), (1, .int v3_b6), (0, .ref a), (3, .int v3_b6), (4, .int r2.2)]) (st' := []) [(37, .iload_n 3, 1, .null), (38, .istore_n 1, 1, .null), (39, .iload 4, 2, .null), (41, .istore_n 2, 1, .null)] (by decide +kernel) rfl ?_
          refine aw_lv (lv' := [(0, .ref a), (1, .int v3_b6), (2, .int r2.2), (3, .int v3_b6)]) [2, 1, 0, 3] rfl ?_
          exact J42 v3_b6 r2.2 H_j37 h0 hs hm
        refine aw_ic_eq (off := 12) 37 (by decide) (by decide +kernel) (fun hc => ?_) (fun hc => ?_)
        · have hm := (if_pos hc).symm.trans hm
          refine aw_lv (lv' := [(0, .ref a), (3, .int v3_b6), (4, .int r2.2)]) [1, 4, 0] rfl ?_
          exact J37 H4 h0 hs hm
        · have hm := (if_neg hc).symm.trans hm
          refine aw_b (pc' := 31) (lv' := [(4, .int r2.2), (0, .ref a), (1, .int v1_b6), (2, .int v2_b6), (3, .int v3_b6)]) (st' := [.int v2_b6, .int r2.2]) [(28, .iload 4, 2, .null), (30, .iload_n 2, 1, .null)] (by decide +kernel) rfl ?_
          refine aw_ic_gt (off := 6) 37 (by decide) (by decide +kernel) (fun hc => ?_) (fun hc => ?_)
          · have hm := (if_pos hc).symm.trans hm
            refine aw_lv (lv' := [(0, .ref a), (3, .int v3_b6), (4, .int r2.2)]) [1, 4, 0] rfl ?_
            exact J37 H4 h0 hs hm
          · have hm := (if_neg hc).symm.trans hm
            refine aw_b (pc' := 42) (lv' := [(4, .int r2.2), (0, .ref a), (1, .int v1_b6), (2, .int v2_b6), (3, .int v3_b6)]) (st' := []) [(34, .goto 8, 3, .null)] (by decide +kernel) rfl ?_
            refine aw_lv (lv' := [(0, .ref a), (1, .int v1_b6), (2, .int v2_b6), (3, .int v3_b6)]) [1, 2, 3, 4] rfl ?_
            exact J42 v1_b6 v2_b6 H4 h0 hs hm
  refine aw_lv (lv' := [(0, .ref a), (1, .int (-1 : Int32)), (2, .int (0 : Int32)), (3, .int (0 : Int32))]) [3, 2, 1, 0] rfl ?_
  exact L6 FU_ (-1 : Int32) (0 : Int32) (0 : Int32) s H h0 hs hx6
def mX8_lists : mt_ := (yX8_lists, cX8_lists, 1, none, [], { frames := 3, locals := 65, cells := 0, slots := 0 })
theorem ckX8_lists : cokV_ mX8_lists := ⟨⟨(uw_mem 1993 (by decide +kernel) (by decide +kernel)), (uw_mem 112 (by decide +kernel) (by decide +kernel)), by decide +kernel, by decide +kernel⟩, (uw_mem 1992 (by decide +kernel) (by decide +kernel)), (uw_mem 88 (by decide +kernel) (by decide +kernel))⟩
theorem nkX8_lists : nok_ mX8_lists 0 := by decide +kernel
def fX8_lists (s : st_) : Option (st_) :=
  gd_ (ib_ (10 : Int32) 12584) <|
  if (s 1 (ix_ (10 : Int32))) = (0 : Int32) then (some s)
  else (gd_ (ib_ (15 : Int32) 12584) <|
  gd_ (ib_ (10 : Int32) 12584) <|
  gd_ (nz_ (s 1 (ix_ (10 : Int32)))) <|
  gd_ (ib_ ((56 : Int32) + ((s 1 (ix_ (15 : Int32))) - (s 1 (ix_ (15 : Int32))) / (s 1 (ix_ (10 : Int32))) * (s 1 (ix_ (10 : Int32))))) 12584) <|
  bn_ (fX8_comes s (s 1 (ix_ ((56 : Int32) + ((s 1 (ix_ (15 : Int32))) - (s 1 (ix_ (15 : Int32))) / (s 1 (ix_ (10 : Int32))) * (s 1 (ix_ (10 : Int32)))))))) fun r6 =>
  gd_ (ib_ (15 : Int32) 12584) <|
  gd_ (ib_ (10 : Int32) 12584) <|
  gd_ (nz_ (r6 1 (ix_ (10 : Int32)))) <|
  gd_ (ib_ (15 : Int32) 12584) <|
  bd_ (pt_ r6 1 (ix_ (15 : Int32)) (((r6 1 (ix_ (15 : Int32))) - (r6 1 (ix_ (15 : Int32))) / (r6 1 (ix_ (10 : Int32))) * (r6 1 (ix_ (10 : Int32)))) + (1 : Int32))) fun s14 =>
  some s14)
set_option maxRecDepth 8000 in
theorem kX8_lists {E : ev_} {H : Heap} {a : Nat} {s : st_} {r : st_} (hm : fX8_lists s = some r) (h0 : has_ E H a ly_O s) (hf : ev_fr E a) : sp_ E mX8_lists [.ref a] H (po1 (.inl (none)) (fun Hn => sm_ H Hn a 10 ∧ has_ E Hn a ly_O r)) := by
  refine sp_of (by decide +kernel) rfl rfl ?_
  generalize hQ : po1 _ _ = Q
  have hs : sm_ H H a 10 := sm_.rfl'
  unfold fX8_lists at hm
  refine aw_lv (lv' := [(0, .ref a)]) [0] rfl ?_
  refine aw_b (pc' := 1) (lv' := [(0, .ref a)]) (st' := [.ref a]) [(0, .aload_n 0, 1, .null)] (by decide +kernel) rfl ?_
  refine aw_gl (v := .ref (a + 1)) a 0 h0 eo_O_0 fgX8_9 rfl (by decide +kernel) ?_
  refine aw_b (pc' := 6) (lv' := [(0, .ref a)]) (st' := [.int (10 : Int32), .ref (a + 1)]) [(4, .bipush 10, 2, .int (10 : Int32))] (by decide +kernel) rfl ?_
  obtain ⟨g1, hm⟩ := gd_x hm
  refine aw_ial a 1 h0 rfl g1 (by decide +kernel) ?_
  refine aw_if_ne (off := 4) 11 (by decide) (by decide +kernel) (fun hc => ?_) (fun hc => ?_)
  · have hm := (if_neg hc).symm.trans hm
    refine aw_b (pc' := 13) (lv' := [(0, .ref a)]) (st' := [.ref a, .ref a]) [(11, .aload_n 0, 1, .null), (12, .aload_n 0, 1, .null)] (by decide +kernel) rfl ?_
    refine aw_gl (v := .ref (a + 1)) a 0 h0 eo_O_0 fgX8_9 rfl (by decide +kernel) ?_
    refine aw_b (pc' := 19) (lv' := [(0, .ref a)]) (st' := [.ref a, .int (56 : Int32), .ref (a + 1), .ref a]) [(16, .bipush 56, 2, .int (56 : Int32)), (18, .aload_n 0, 1, .null)] (by decide +kernel) rfl ?_
    refine aw_gl (v := .ref (a + 1)) a 0 h0 eo_O_0 fgX8_9 rfl (by decide +kernel) ?_
    refine aw_b (pc' := 24) (lv' := [(0, .ref a)]) (st' := [.int (15 : Int32), .ref (a + 1), .int (56 : Int32), .ref (a + 1), .ref a]) [(22, .bipush 15, 2, .int (15 : Int32))] (by decide +kernel) rfl ?_
    obtain ⟨g2, hm⟩ := gd_x hm
    refine aw_ial a 1 h0 rfl g2 (by decide +kernel) ?_
    refine aw_b (pc' := 26) (lv' := [(0, .ref a)]) (st' := [.ref a, .int (s 1 (ix_ (15 : Int32))), .int (56 : Int32), .ref (a + 1), .ref a]) [(25, .aload_n 0, 1, .null)] (by decide +kernel) rfl ?_
    refine aw_gl (v := .ref (a + 1)) a 0 h0 eo_O_0 fgX8_9 rfl (by decide +kernel) ?_
    refine aw_b (pc' := 31) (lv' := [(0, .ref a)]) (st' := [.int (10 : Int32), .ref (a + 1), .int (s 1 (ix_ (15 : Int32))), .int (56 : Int32), .ref (a + 1), .ref a]) [(29, .bipush 10, 2, .int (10 : Int32))] (by decide +kernel) rfl ?_
    obtain ⟨g3, hm⟩ := gd_x hm
    refine aw_ial a 1 h0 rfl g3 (by decide +kernel) ?_
    obtain ⟨g4, hm⟩ := gd_x hm
    refine aw_irem (nz_x g4) (by decide +kernel) ?_
    refine aw_b (pc' := 34) (lv' := [(0, .ref a)]) (st' := [.int ((56 : Int32) + ((s 1 (ix_ (15 : Int32))) - (s 1 (ix_ (15 : Int32))) / (s 1 (ix_ (10 : Int32))) * (s 1 (ix_ (10 : Int32))))), .ref (a + 1), .ref a]) [(33, .iadd, 1, .null)] (by decide +kernel) rfl ?_
    obtain ⟨g5, hm⟩ := gd_x hm
    refine aw_ial a 1 h0 rfl g5 (by decide +kernel) ?_
    obtain ⟨r6, e7, hm⟩ := bn_x hm
    refine aw_cv (rest := []) (st1 := []) a 0 (kX8_comes e7 h0 hf) rfl rfl ckX8_comes lkX8_248 h0 eo_O_0 ⟨_, _, rfl⟩ nkX8_comes rfl rfl rfl (Nat.le_of_ble_eq_true rfl) (Nat.zero_le _) (Nat.zero_le _) (by decide +kernel) (fun H8 z9 => ?_)
    obtain ⟨z9, hn⟩ := z9
    have h0 := hn
    have hs := hs.step z9 (by omega) (by omega)
    refine aw_b (pc' := 39) (lv' := [(0, .ref a)]) (st' := [.ref a]) [(38, .aload_n 0, 1, .null)] (by decide +kernel) rfl ?_
    refine aw_gl (v := .ref (a + 1)) a 0 h0 eo_O_0 fgX8_9 rfl (by decide +kernel) ?_
    refine aw_b (pc' := 45) (lv' := [(0, .ref a)]) (st' := [.ref a, .int (15 : Int32), .ref (a + 1)]) [(42, .bipush 15, 2, .int (15 : Int32)), (44, .aload_n 0, 1, .null)] (by decide +kernel) rfl ?_
    refine aw_gl (v := .ref (a + 1)) a 0 h0 eo_O_0 fgX8_9 rfl (by decide +kernel) ?_
    refine aw_b (pc' := 50) (lv' := [(0, .ref a)]) (st' := [.int (15 : Int32), .ref (a + 1), .int (15 : Int32), .ref (a + 1)]) [(48, .bipush 15, 2, .int (15 : Int32))] (by decide +kernel) rfl ?_
    obtain ⟨g10, hm⟩ := gd_x hm
    refine aw_ial a 1 h0 rfl g10 (by decide +kernel) ?_
    refine aw_b (pc' := 52) (lv' := [(0, .ref a)]) (st' := [.ref a, .int (r6 1 (ix_ (15 : Int32))), .int (15 : Int32), .ref (a + 1)]) [(51, .aload_n 0, 1, .null)] (by decide +kernel) rfl ?_
    refine aw_gl (v := .ref (a + 1)) a 0 h0 eo_O_0 fgX8_9 rfl (by decide +kernel) ?_
    refine aw_b (pc' := 57) (lv' := [(0, .ref a)]) (st' := [.int (10 : Int32), .ref (a + 1), .int (r6 1 (ix_ (15 : Int32))), .int (15 : Int32), .ref (a + 1)]) [(55, .bipush 10, 2, .int (10 : Int32))] (by decide +kernel) rfl ?_
    obtain ⟨g11, hm⟩ := gd_x hm
    refine aw_ial a 1 h0 rfl g11 (by decide +kernel) ?_
    obtain ⟨g12, hm⟩ := gd_x hm
    refine aw_irem (nz_x g12) (by decide +kernel) ?_
    refine aw_b (pc' := 61) (lv' := [(0, .ref a)]) (st' := [.int (((r6 1 (ix_ (15 : Int32))) - (r6 1 (ix_ (15 : Int32))) / (r6 1 (ix_ (10 : Int32))) * (r6 1 (ix_ (10 : Int32)))) + (1 : Int32)), .int (15 : Int32), .ref (a + 1)]) [(59, .iconst 1, 1, .int (1 : Int32)), (60, .iadd, 1, .null)] (by decide +kernel) rfl ?_
    obtain ⟨g13, hm⟩ := gd_x hm
    obtain ⟨s14, e15, hm⟩ := bd_x hm
    refine aw_isl a 1 h0 rfl hf g13 e15 (by decide +kernel) (fun H16 h0 z17 => ?_)
    have hs := hs.step z17 (by omega) (by omega)
    obtain rfl := Option.some.inj hm
    subst hQ
    exact aw_vret rfl (Nat.zero_le _) (Nat.zero_le _) (by decide +kernel) ⟨rfl, hs, h0⟩
  · have hm := (if_pos hc).symm.trans hm
    obtain rfl := Option.some.inj hm
    subst hQ
    exact aw_vret rfl (Nat.zero_le _) (Nat.zero_le _) (by decide +kernel) ⟨rfl, hs, h0⟩
def mX8_foe : mt_ := (yX8_foe, cX8_foe, 3, none, [], { frames := 10, locals := 229, cells := 0, slots := 0 })
theorem ckX8_foe : cokV_ mX8_foe := ⟨⟨(uw_mem 1989 (by decide +kernel) (by decide +kernel)), (uw_mem 112 (by decide +kernel) (by decide +kernel)), by decide +kernel, by decide +kernel⟩, (uw_mem 1988 (by decide +kernel) (by decide +kernel)), (uw_mem 87 (by decide +kernel) (by decide +kernel))⟩
theorem nkX8_foe : nok_ mX8_foe 0 := by decide +kernel
theorem lkX8_344 : Cond.methodLink RX8 344 yX8_lists ∈ uw_ := (uw_mem 1990 (by decide +kernel) (by decide +kernel))
theorem lkX8_347 : Cond.methodLink RX8 347 yX8_worstOf ∈ uw_ := (uw_mem 1994 (by decide +kernel) (by decide +kernel))
def fX8_foe_j73 (s : st_) (z1_j73 : Int32) : Option (st_) :=
  bn_ (fX8_comes s z1_j73) fun r7 =>
  some r7
def fX8_foe_j107 (s : st_) (z1_j107 : Int32) : Option (st_) :=
  bn_ (fX8_comes s z1_j107) fun r16 =>
  some r16
def fX8_foe_j155 (s : st_) : Option (st_) :=
  gd_ (ib_ (14 : Int32) 12584) <|
  gd_ (ib_ (14 : Int32) 12584) <|
  bd_ (pt_ s 1 (ix_ (14 : Int32)) ((s 1 (ix_ (14 : Int32))) + (1 : Int32))) fun s27 =>
  bn_ (fX8_worstOf s27) fun r31 =>
  bn_ (fX8_comes r31.1 r31.2) fun r35 =>
  some r35
def fX8_foe (s : st_) : Option (st_) :=
  gd_ (ib_ (0 : Int32) 12584) <|
  bn_ (fX8_armOf s (6 : Int32) (0 : Int32)) fun r2 =>
  gd_ (ib_ (9 : Int32) 12584) <|
  if (s 1 (ix_ (9 : Int32))) = (1 : Int32) then (if (((s 1 (ix_ (0 : Int32))) - (1 : Int32)) - r2) ≤ r2 then (fX8_foe_j73 s (0 : Int32))
  else (fX8_foe_j73 s ((s 1 (ix_ (0 : Int32))) - (1 : Int32))))
  else (if (s 1 (ix_ (9 : Int32))) = (2 : Int32) then (bn_ (fX8_comes s (((s 1 (ix_ (0 : Int32))) - (1 : Int32)) - r2)) fun r11 =>
  some r11)
  else (if (s 1 (ix_ (9 : Int32))) = (3 : Int32) then (gd_ (ib_ (16 : Int32) 12584) <|
  if ((s 1 (ix_ (16 : Int32))) - (s 1 (ix_ (16 : Int32))) / (2 : Int32) * (2 : Int32)) = (0 : Int32) then (fX8_foe_j107 s ((s 1 (ix_ (0 : Int32))) - (1 : Int32)))
  else (fX8_foe_j107 s (0 : Int32)))
  else (if (s 1 (ix_ (9 : Int32))) = (4 : Int32) then (bn_ (fX8_lists s) fun r20 =>
  some r20)
  else (if (s 1 (ix_ (9 : Int32))) = (5 : Int32) then (gd_ (ib_ (13 : Int32) 12584) <|
  if (s 1 (ix_ (13 : Int32))) = (-1 : Int32) then (fX8_foe_j155 s)
  else (gd_ (ib_ (14 : Int32) 12584) <|
  gd_ (ib_ (13 : Int32) 12584) <|
  if (s 1 (ix_ (14 : Int32))) < (s 1 (ix_ (13 : Int32))) then (fX8_foe_j155 s)
  else (bn_ (fX8_lists s) fun r41 =>
  some r41)))
  else (some s)))))
set_option maxRecDepth 8000 in
theorem kX8_foe {E : ev_} {H : Heap} {a : Nat} {s : st_} {r : st_} (hm : fX8_foe s = some r) (h0 : has_ E H a ly_O s) (hf : ev_fr E a) : sp_ E mX8_foe [.ref a] H (po1 (.inl (none)) (fun Hn => sm_ H Hn a 10 ∧ has_ E Hn a ly_O r)) := by
  refine sp_of (by decide +kernel) rfl rfl ?_
  generalize hQ : po1 _ _ = Q
  have hs : sm_ H H a 10 := sm_.rfl'
  unfold fX8_foe at hm
  refine aw_lv (lv' := [(0, .ref a)]) [0] rfl ?_
  refine aw_b (pc' := 1) (lv' := [(0, .ref a)]) (st' := [.ref a]) [(0, .aload_n 0, 1, .null)] (by decide +kernel) rfl ?_
  refine aw_gl (v := .ref (a + 1)) a 0 h0 eo_O_0 fgX8_9 rfl (by decide +kernel) ?_
  refine aw_b (pc' := 5) (lv' := [(0, .ref a)]) (st' := [.int (0 : Int32), .ref (a + 1)]) [(4, .iconst 0, 1, .int (0 : Int32))] (by decide +kernel) rfl ?_
  obtain ⟨g1, hm⟩ := gd_x hm
  refine aw_ial a 1 h0 rfl g1 (by decide +kernel) ?_
  refine aw_b (pc' := 13) (lv' := [(1, .int ((s 1 (ix_ (0 : Int32))) - (1 : Int32))), (0, .ref a)]) (st' := [.int (0 : Int32), .int (6 : Int32), .ref a]) [(6, .iconst 1, 1, .int (1 : Int32)), (7, .isub, 1, .null), (8, .istore_n 1, 1, .null), (9, .aload_n 0, 1, .null), (10, .bipush 6, 2, .int (6 : Int32)), (12, .iconst 0, 1, .int (0 : Int32))] (by decide +kernel) rfl ?_
  obtain ⟨r2, e3, hm⟩ := bn_x hm
  refine aw_cv (rest := []) (st1 := [.int r2]) a 0 (kX8_armOf e3 h0) rfl rfl ckX8_armOf lkX8_232 h0 eo_O_0 ⟨_, _, rfl⟩ nkX8_armOf rfl rfl rfl (Nat.le_of_ble_eq_true rfl) (Nat.zero_le _) (Nat.zero_le _) (by decide +kernel) (fun H4 z5 => ?_)
  have h0 := h0.kept0 z5
  have hs := hs.step0 z5
  refine aw_b (pc' := 18) (lv' := [(2, .int r2), (1, .int ((s 1 (ix_ (0 : Int32))) - (1 : Int32))), (0, .ref a)]) (st' := [.ref a]) [(16, .istore_n 2, 1, .null), (17, .aload_n 0, 1, .null)] (by decide +kernel) rfl ?_
  refine aw_gl (v := .ref (a + 1)) a 0 h0 eo_O_0 fgX8_9 rfl (by decide +kernel) ?_
  refine aw_b (pc' := 23) (lv' := [(2, .int r2), (1, .int ((s 1 (ix_ (0 : Int32))) - (1 : Int32))), (0, .ref a)]) (st' := [.int (9 : Int32), .ref (a + 1)]) [(21, .bipush 9, 2, .int (9 : Int32))] (by decide +kernel) rfl ?_
  obtain ⟨g6, hm⟩ := gd_x hm
  refine aw_ial a 1 h0 rfl g6 (by decide +kernel) ?_
  refine aw_ts [((1 : Int32), 60), ((2 : Int32), 79), ((3 : Int32), 89), ((4 : Int32), 113), ((5 : Int32), 120)] 177 (by decide +kernel) ?_
  refine aw_tg (fun hc => ?_) (fun hc => ?_)
  · have hm := (if_pos hc).symm.trans hm
    refine aw_b (pc' := 65) (lv' := [(2, .int r2), (1, .int ((s 1 (ix_ (0 : Int32))) - (1 : Int32))), (0, .ref a)]) (st' := [.int r2, .int (((s 1 (ix_ (0 : Int32))) - (1 : Int32)) - r2), .ref a]) [(60, .aload_n 0, 1, .null), (61, .iload_n 1, 1, .null), (62, .iload_n 2, 1, .null), (63, .isub, 1, .null), (64, .iload_n 2, 1, .null)] (by decide +kernel) rfl ?_
    have J73 : ∀ (z1_j73 : Int32) (H_j73 : Heap), has_ E H_j73 a ly_O s → sm_ H H_j73 a 10 → fX8_foe_j73 s z1_j73 = some r → aw E mX8_foe Q 73 [] [.int z1_j73, .ref a] H_j73 0 0 := by
      intro z1_j73 H_j73 h0 hs hm
      unfold fX8_foe_j73 at hm
      obtain ⟨r7, e8, hm⟩ := bn_x hm
      refine aw_cv (rest := []) (st1 := []) a 0 (kX8_comes e8 h0 hf) rfl rfl ckX8_comes lkX8_248 h0 eo_O_0 ⟨_, _, rfl⟩ nkX8_comes rfl rfl rfl (Nat.le_of_ble_eq_true rfl) (Nat.zero_le _) (Nat.zero_le _) (by decide +kernel) (fun H9 z10 => ?_)
      obtain ⟨z10, hn⟩ := z10
      have h0 := hn
      have hs := hs.step z10 (by omega) (by omega)
      refine aw_b (pc' := 177) (lv' := []) (st' := []) [(76, .goto 101, 3, .null)] (by decide +kernel) rfl ?_
      obtain rfl := Option.some.inj hm
      subst hQ
      exact aw_vret rfl (Nat.zero_le _) (Nat.zero_le _) (by decide +kernel) ⟨rfl, hs, h0⟩
    refine aw_ic_le (off := 7) 72 (by decide) (by decide +kernel) (fun hc => ?_) (fun hc => ?_)
    · have hm := (if_pos hc).symm.trans hm
      refine aw_b (pc' := 73) (lv' := [(2, .int r2), (1, .int ((s 1 (ix_ (0 : Int32))) - (1 : Int32))), (0, .ref a)]) (st' := [.int (0 : Int32), .ref a]) [(72, .iconst 0, 1, .int (0 : Int32))] (by decide +kernel) rfl ?_
      refine aw_lv (lv' := []) [] rfl ?_
      exact J73 (0 : Int32) H4 h0 hs hm
    · have hm := (if_neg hc).symm.trans hm
      refine aw_b (pc' := 73) (lv' := [(2, .int r2), (1, .int ((s 1 (ix_ (0 : Int32))) - (1 : Int32))), (0, .ref a)]) (st' := [.int ((s 1 (ix_ (0 : Int32))) - (1 : Int32)), .ref a]) [(68, .iload_n 1, 1, .null), (69, .goto 4, 3, .null)] (by decide +kernel) rfl ?_
      refine aw_lv (lv' := []) [] rfl ?_
      exact J73 ((s 1 (ix_ (0 : Int32))) - (1 : Int32)) H4 h0 hs hm
  · have hm := (if_neg hc).symm.trans hm
    refine aw_tg (fun hc => ?_) (fun hc => ?_)
    · have hm := (if_pos hc).symm.trans hm
      refine aw_b (pc' := 83) (lv' := [(2, .int r2), (1, .int ((s 1 (ix_ (0 : Int32))) - (1 : Int32))), (0, .ref a)]) (st' := [.int (((s 1 (ix_ (0 : Int32))) - (1 : Int32)) - r2), .ref a]) [(79, .aload_n 0, 1, .null), (80, .iload_n 1, 1, .null), (81, .iload_n 2, 1, .null), (82, .isub, 1, .null)] (by decide +kernel) rfl ?_
      obtain ⟨r11, e12, hm⟩ := bn_x hm
      refine aw_cv (rest := []) (st1 := []) a 0 (kX8_comes e12 h0 hf) rfl rfl ckX8_comes lkX8_248 h0 eo_O_0 ⟨_, _, rfl⟩ nkX8_comes rfl rfl rfl (Nat.le_of_ble_eq_true rfl) (Nat.zero_le _) (Nat.zero_le _) (by decide +kernel) (fun H13 z14 => ?_)
      obtain ⟨z14, hn⟩ := z14
      have h0 := hn
      have hs := hs.step z14 (by omega) (by omega)
      refine aw_b (pc' := 177) (lv' := [(2, .int r2), (1, .int ((s 1 (ix_ (0 : Int32))) - (1 : Int32))), (0, .ref a)]) (st' := []) [(86, .goto 91, 3, .null)] (by decide +kernel) rfl ?_
      obtain rfl := Option.some.inj hm
      subst hQ
      exact aw_vret rfl (Nat.zero_le _) (Nat.zero_le _) (by decide +kernel) ⟨rfl, hs, h0⟩
    · have hm := (if_neg hc).symm.trans hm
      refine aw_tg (fun hc => ?_) (fun hc => ?_)
      · have hm := (if_pos hc).symm.trans hm
        refine aw_b (pc' := 91) (lv' := [(2, .int r2), (1, .int ((s 1 (ix_ (0 : Int32))) - (1 : Int32))), (0, .ref a)]) (st' := [.ref a, .ref a]) [(89, .aload_n 0, 1, .null), (90, .aload_n 0, 1, .null)] (by decide +kernel) rfl ?_
        refine aw_gl (v := .ref (a + 1)) a 0 h0 eo_O_0 fgX8_9 rfl (by decide +kernel) ?_
        refine aw_b (pc' := 96) (lv' := [(2, .int r2), (1, .int ((s 1 (ix_ (0 : Int32))) - (1 : Int32))), (0, .ref a)]) (st' := [.int (16 : Int32), .ref (a + 1), .ref a]) [(94, .bipush 16, 2, .int (16 : Int32))] (by decide +kernel) rfl ?_
        obtain ⟨g15, hm⟩ := gd_x hm
        refine aw_ial a 1 h0 rfl g15 (by decide +kernel) ?_
        refine aw_b (pc' := 98) (lv' := [(2, .int r2), (1, .int ((s 1 (ix_ (0 : Int32))) - (1 : Int32))), (0, .ref a)]) (st' := [.int (2 : Int32), .int (s 1 (ix_ (16 : Int32))), .ref a]) [(97, .iconst 2, 1, .int (2 : Int32))] (by decide +kernel) rfl ?_
        refine aw_irem (by decide) (by decide +kernel) ?_
        have J107 : ∀ (z1_j107 : Int32) (H_j107 : Heap), has_ E H_j107 a ly_O s → sm_ H H_j107 a 10 → fX8_foe_j107 s z1_j107 = some r → aw E mX8_foe Q 107 [] [.int z1_j107, .ref a] H_j107 0 0 := by
          intro z1_j107 H_j107 h0 hs hm
          unfold fX8_foe_j107 at hm
          obtain ⟨r16, e17, hm⟩ := bn_x hm
          refine aw_cv (rest := []) (st1 := []) a 0 (kX8_comes e17 h0 hf) rfl rfl ckX8_comes lkX8_248 h0 eo_O_0 ⟨_, _, rfl⟩ nkX8_comes rfl rfl rfl (Nat.le_of_ble_eq_true rfl) (Nat.zero_le _) (Nat.zero_le _) (by decide +kernel) (fun H18 z19 => ?_)
          obtain ⟨z19, hn⟩ := z19
          have h0 := hn
          have hs := hs.step z19 (by omega) (by omega)
          refine aw_b (pc' := 177) (lv' := []) (st' := []) [(110, .goto 67, 3, .null)] (by decide +kernel) rfl ?_
          obtain rfl := Option.some.inj hm
          subst hQ
          exact aw_vret rfl (Nat.zero_le _) (Nat.zero_le _) (by decide +kernel) ⟨rfl, hs, h0⟩
        refine aw_if_ne (off := 7) 106 (by decide) (by decide +kernel) (fun hc => ?_) (fun hc => ?_)
        · have hm := (if_neg hc).symm.trans hm
          refine aw_b (pc' := 107) (lv' := [(2, .int r2), (1, .int ((s 1 (ix_ (0 : Int32))) - (1 : Int32))), (0, .ref a)]) (st' := [.int (0 : Int32), .ref a]) [(106, .iconst 0, 1, .int (0 : Int32))] (by decide +kernel) rfl ?_
          refine aw_lv (lv' := []) [] rfl ?_
          exact J107 (0 : Int32) H4 h0 hs hm
        · have hm := (if_pos hc).symm.trans hm
          refine aw_b (pc' := 107) (lv' := [(2, .int r2), (1, .int ((s 1 (ix_ (0 : Int32))) - (1 : Int32))), (0, .ref a)]) (st' := [.int ((s 1 (ix_ (0 : Int32))) - (1 : Int32)), .ref a]) [(102, .iload_n 1, 1, .null), (103, .goto 4, 3, .null)] (by decide +kernel) rfl ?_
          refine aw_lv (lv' := []) [] rfl ?_
          exact J107 ((s 1 (ix_ (0 : Int32))) - (1 : Int32)) H4 h0 hs hm
      · have hm := (if_neg hc).symm.trans hm
        refine aw_tg (fun hc => ?_) (fun hc => ?_)
        · have hm := (if_pos hc).symm.trans hm
          refine aw_b (pc' := 114) (lv' := [(2, .int r2), (1, .int ((s 1 (ix_ (0 : Int32))) - (1 : Int32))), (0, .ref a)]) (st' := [.ref a]) [(113, .aload_n 0, 1, .null)] (by decide +kernel) rfl ?_
          obtain ⟨r20, e21, hm⟩ := bn_x hm
          refine aw_cv (rest := []) (st1 := []) a 0 (kX8_lists e21 h0 hf) rfl rfl ckX8_lists lkX8_344 h0 eo_O_0 ⟨_, _, rfl⟩ nkX8_lists rfl rfl rfl (Nat.le_of_ble_eq_true rfl) (Nat.zero_le _) (Nat.zero_le _) (by decide +kernel) (fun H22 z23 => ?_)
          obtain ⟨z23, hn⟩ := z23
          have h0 := hn
          have hs := hs.step z23 (by omega) (by omega)
          refine aw_b (pc' := 177) (lv' := [(2, .int r2), (1, .int ((s 1 (ix_ (0 : Int32))) - (1 : Int32))), (0, .ref a)]) (st' := []) [(117, .goto 60, 3, .null)] (by decide +kernel) rfl ?_
          obtain rfl := Option.some.inj hm
          subst hQ
          exact aw_vret rfl (Nat.zero_le _) (Nat.zero_le _) (by decide +kernel) ⟨rfl, hs, h0⟩
        · have hm := (if_neg hc).symm.trans hm
          refine aw_tg (fun hc => ?_) (fun hc => ?_)
          · have hm := (if_pos hc).symm.trans hm
            refine aw_b (pc' := 121) (lv' := [(2, .int r2), (1, .int ((s 1 (ix_ (0 : Int32))) - (1 : Int32))), (0, .ref a)]) (st' := [.ref a]) [(120, .aload_n 0, 1, .null)] (by decide +kernel) rfl ?_
            refine aw_gl (v := .ref (a + 1)) a 0 h0 eo_O_0 fgX8_9 rfl (by decide +kernel) ?_
            refine aw_b (pc' := 126) (lv' := [(2, .int r2), (1, .int ((s 1 (ix_ (0 : Int32))) - (1 : Int32))), (0, .ref a)]) (st' := [.int (13 : Int32), .ref (a + 1)]) [(124, .bipush 13, 2, .int (13 : Int32))] (by decide +kernel) rfl ?_
            obtain ⟨g24, hm⟩ := gd_x hm
            refine aw_ial a 1 h0 rfl g24 (by decide +kernel) ?_
            refine aw_b (pc' := 128) (lv' := [(2, .int r2), (1, .int ((s 1 (ix_ (0 : Int32))) - (1 : Int32))), (0, .ref a)]) (st' := [.int (-1 : Int32), .int (s 1 (ix_ (13 : Int32)))]) [(127, .iconst (-1), 1, .int (-1 : Int32))] (by decide +kernel) rfl ?_
            have J155 : ∀ (H_j155 : Heap), has_ E H_j155 a ly_O s → sm_ H H_j155 a 10 → fX8_foe_j155 s = some r → aw E mX8_foe Q 155 [(0, .ref a)] [] H_j155 0 0 := by
              intro H_j155 h0 hs hm
              unfold fX8_foe_j155 at hm
              refine aw_b (pc' := 156) (lv' := [(0, .ref a)]) (st' := [.ref a]) [(155, .aload_n 0, 1, .null)] (by decide +kernel) rfl ?_
              refine aw_gl (v := .ref (a + 1)) a 0 h0 eo_O_0 fgX8_9 rfl (by decide +kernel) ?_
              refine aw_b (pc' := 162) (lv' := [(0, .ref a)]) (st' := [.int (14 : Int32), .ref (a + 1), .int (14 : Int32), .ref (a + 1)]) [(159, .bipush 14, 2, .int (14 : Int32)), (161, .dup2, 1, .null)] (by decide +kernel) rfl ?_
              obtain ⟨g25, hm⟩ := gd_x hm
              refine aw_ial a 1 h0 rfl g25 (by decide +kernel) ?_
              refine aw_b (pc' := 165) (lv' := [(0, .ref a)]) (st' := [.int ((s 1 (ix_ (14 : Int32))) + (1 : Int32)), .int (14 : Int32), .ref (a + 1)]) [(163, .iconst 1, 1, .int (1 : Int32)), (164, .iadd, 1, .null)] (by decide +kernel) rfl ?_
              obtain ⟨g26, hm⟩ := gd_x hm
              obtain ⟨s27, e28, hm⟩ := bd_x hm
              refine aw_isl a 1 h0 rfl hf g26 e28 (by decide +kernel) (fun H29 h0 z30 => ?_)
              have hs := hs.step z30 (by omega) (by omega)
              refine aw_b (pc' := 168) (lv' := [(0, .ref a)]) (st' := [.ref a, .ref a]) [(166, .aload_n 0, 1, .null), (167, .aload_n 0, 1, .null)] (by decide +kernel) rfl ?_
              obtain ⟨r31, e32, hm⟩ := bn_x hm
              refine aw_cv (rest := [.ref a]) (st1 := [.int r31.2, .ref a]) a 0 (kX8_worstOf e32 h0 hf) rfl rfl ckX8_worstOf lkX8_347 h0 eo_O_0 ⟨_, _, rfl⟩ nkX8_worstOf rfl rfl rfl (Nat.le_of_ble_eq_true rfl) (Nat.zero_le _) (Nat.zero_le _) (by decide +kernel) (fun H33 z34 => ?_)
              obtain ⟨z34, hn⟩ := z34
              have h0 := hn
              have hs := hs.step z34 (by omega) (by omega)
              obtain ⟨r35, e36, hm⟩ := bn_x hm
              refine aw_cv (rest := []) (st1 := []) a 0 (kX8_comes e36 h0 hf) rfl rfl ckX8_comes lkX8_248 h0 eo_O_0 ⟨_, _, rfl⟩ nkX8_comes rfl rfl rfl (Nat.le_of_ble_eq_true rfl) (Nat.zero_le _) (Nat.zero_le _) (by decide +kernel) (fun H37 z38 => ?_)
              obtain ⟨z38, hn⟩ := z38
              have h0 := hn
              have hs := hs.step z38 (by omega) (by omega)
              refine aw_b (pc' := 177) (lv' := [(0, .ref a)]) (st' := []) [(174, .goto 3, 3, .null)] (by decide +kernel) rfl ?_
              obtain rfl := Option.some.inj hm
              subst hQ
              exact aw_vret rfl (Nat.zero_le _) (Nat.zero_le _) (by decide +kernel) ⟨rfl, hs, h0⟩
            refine aw_ic_eq (off := 27) 155 (by decide) (by decide +kernel) (fun hc => ?_) (fun hc => ?_)
            · have hm := (if_pos hc).symm.trans hm
              refine aw_lv (lv' := [(0, .ref a)]) [2] rfl ?_
              exact J155 H4 h0 hs hm
            · have hm := (if_neg hc).symm.trans hm
              refine aw_b (pc' := 132) (lv' := [(2, .int r2), (1, .int ((s 1 (ix_ (0 : Int32))) - (1 : Int32))), (0, .ref a)]) (st' := [.ref a]) [(131, .aload_n 0, 1, .null)] (by decide +kernel) rfl ?_
              refine aw_gl (v := .ref (a + 1)) a 0 h0 eo_O_0 fgX8_9 rfl (by decide +kernel) ?_
              refine aw_b (pc' := 137) (lv' := [(2, .int r2), (1, .int ((s 1 (ix_ (0 : Int32))) - (1 : Int32))), (0, .ref a)]) (st' := [.int (14 : Int32), .ref (a + 1)]) [(135, .bipush 14, 2, .int (14 : Int32))] (by decide +kernel) rfl ?_
              obtain ⟨g39, hm⟩ := gd_x hm
              refine aw_ial a 1 h0 rfl g39 (by decide +kernel) ?_
              refine aw_b (pc' := 139) (lv' := [(2, .int r2), (1, .int ((s 1 (ix_ (0 : Int32))) - (1 : Int32))), (0, .ref a)]) (st' := [.ref a, .int (s 1 (ix_ (14 : Int32)))]) [(138, .aload_n 0, 1, .null)] (by decide +kernel) rfl ?_
              refine aw_gl (v := .ref (a + 1)) a 0 h0 eo_O_0 fgX8_9 rfl (by decide +kernel) ?_
              refine aw_b (pc' := 144) (lv' := [(2, .int r2), (1, .int ((s 1 (ix_ (0 : Int32))) - (1 : Int32))), (0, .ref a)]) (st' := [.int (13 : Int32), .ref (a + 1), .int (s 1 (ix_ (14 : Int32)))]) [(142, .bipush 13, 2, .int (13 : Int32))] (by decide +kernel) rfl ?_
              obtain ⟨g40, hm⟩ := gd_x hm
              refine aw_ial a 1 h0 rfl g40 (by decide +kernel) ?_
              refine aw_ic_lt (off := 10) 155 (by decide) (by decide +kernel) (fun hc => ?_) (fun hc => ?_)
              · have hm := (if_pos hc).symm.trans hm
                refine aw_lv (lv' := [(0, .ref a)]) [2] rfl ?_
                exact J155 H4 h0 hs hm
              · have hm := (if_neg hc).symm.trans hm
                refine aw_b (pc' := 149) (lv' := [(2, .int r2), (1, .int ((s 1 (ix_ (0 : Int32))) - (1 : Int32))), (0, .ref a)]) (st' := [.ref a]) [(148, .aload_n 0, 1, .null)] (by decide +kernel) rfl ?_
                obtain ⟨r41, e42, hm⟩ := bn_x hm
                refine aw_cv (rest := []) (st1 := []) a 0 (kX8_lists e42 h0 hf) rfl rfl ckX8_lists lkX8_344 h0 eo_O_0 ⟨_, _, rfl⟩ nkX8_lists rfl rfl rfl (Nat.le_of_ble_eq_true rfl) (Nat.zero_le _) (Nat.zero_le _) (by decide +kernel) (fun H43 z44 => ?_)
                obtain ⟨z44, hn⟩ := z44
                have h0 := hn
                have hs := hs.step z44 (by omega) (by omega)
                refine aw_b (pc' := 177) (lv' := [(2, .int r2), (1, .int ((s 1 (ix_ (0 : Int32))) - (1 : Int32))), (0, .ref a)]) (st' := []) [(152, .goto 25, 3, .null)] (by decide +kernel) rfl ?_
                obtain rfl := Option.some.inj hm
                subst hQ
                exact aw_vret rfl (Nat.zero_le _) (Nat.zero_le _) (by decide +kernel) ⟨rfl, hs, h0⟩
          · have hm := (if_neg hc).symm.trans hm
            show aw E _ Q 177 _ _ _ _ _
            obtain rfl := Option.some.inj hm
            subst hQ
            exact aw_vret rfl (Nat.zero_le _) (Nat.zero_le _) (by decide +kernel) ⟨rfl, hs, h0⟩
def mX8_weighs : mt_ := (yX8_weighs, cX8_weighs, 9, none, [], { frames := 1, locals := 24, cells := 0, slots := 0 })
theorem ckX8_weighs : cokV_ mX8_weighs := ⟨⟨(uw_mem 2033 (by decide +kernel) (by decide +kernel)), (uw_mem 112 (by decide +kernel) (by decide +kernel)), by decide +kernel, by decide +kernel⟩, (uw_mem 2032 (by decide +kernel) (by decide +kernel)), (uw_mem 98 (by decide +kernel) (by decide +kernel))⟩
theorem nkX8_weighs : nok_ mX8_weighs 0 := by decide +kernel
theorem kwX8_350 : Cond.constantLong RX8 350 (1000 : Int64) ∈ uw_ := (uw_mem 1871 (by decide +kernel) (by decide +kernel))
theorem mtX8_352 : ml_ RX8 352 Lib.MathLoose.max_long.x Lib.MathLoose.max_long.code 4 .long := ⟨(uw_mem 2034 (by decide +kernel) (by decide +kernel)), (uw_mem 889 (by decide +kernel) (by decide +kernel)), (uw_mem 113 (by decide +kernel) (by decide +kernel)), (uw_mem 890 (by decide +kernel) (by decide +kernel))⟩
def fX8_weighs_x139_183 (s_x139_183 : st_) : Option (st_) :=
  some s_x139_183
def fX8_weighs_k139 (x : st_) : Option (st_) :=
  fX8_weighs_x139_183 x
def fX8_weighs_b139 (v3_x29_136 : Int32) (v4_b139 : Int32) (s_b139 : st_) : Option ((Int32 × st_) ⊕ (st_)) :=
  gd_ (ib_ (4 : Int32) 12584) <|
  if (s_b139 1 (ix_ (4 : Int32))) ≤ v4_b139 then (some (.inr s_b139))
  else (if (1000 : Int32) ≤ v3_x29_136 then (some (.inr s_b139))
  else (gd_ (ib_ (((26 : Int32) + ((5 : Int32) * v4_b139)) + (2 : Int32)) 12584) <|
  gd_ (ib_ (((26 : Int32) + ((5 : Int32) * v4_b139)) + (2 : Int32)) 12584) <|
  bd_ (pt_ s_b139 1 (ix_ (((26 : Int32) + ((5 : Int32) * v4_b139)) + (2 : Int32))) ((s_b139 1 (ix_ (((26 : Int32) + ((5 : Int32) * v4_b139)) + (2 : Int32)))) * (1000 : Int32))) fun s7 =>
  some (.inl ((v4_b139 + (1 : Int32)), s7))))
def fX8_weighs_l139 (v3_x29_136 : Int32) : Nat → (Int32 × st_) → Option (st_) :=
  it_ (fun v => fX8_weighs_b139 v3_x29_136 v.1 v.2)
def fX8_weighs_x29_136 (v3_x29_136 : Int32) (s_x29_136 : st_) : Option (st_) :=
  bn_ (fX8_weighs_l139 v3_x29_136 FU_ ((0 : Int32), s_x29_136)) (fX8_weighs_k139)
def fX8_weighs_k29 (x : Int32 × st_) : Option (st_) :=
  fX8_weighs_x29_136 x.1 x.2
def fX8_weighs_b29 (s : st_) (v3_b29 : Int32) (v4_b29 : Int32) (s_b29 : st_) : Option ((Int32 × Int32 × st_) ⊕ (Int32 × st_)) :=
  gd_ (ib_ (4 : Int32) 12584) <|
  if (s_b29 1 (ix_ (4 : Int32))) ≤ v4_b29 then (some (.inr (v3_b29, s_b29)))
  else (bn_ (fX8_of s_b29 v4_b29 (2 : Int32)) fun r12 =>
  gd_ (ib_ (7 : Int32) 12584) <|
  gd_ (ib_ (16 : Int32) 12584) <|
  gd_ (ib_ (((2948 : Int32) + ((1200 : Int32) * v4_b29)) + (s_b29 1 (ix_ (16 : Int32)))) 12584) <|
  gd_ (nzl_ ((1000 : Int64) * (Int32.toInt64 ((s 1 (ix_ (2 : Int32))) + ((s 1 (ix_ (3 : Int32))) * ((s 1 (ix_ (0 : Int32))) - (1 : Int32))))))) <|
  gd_ (ib_ (((26 : Int32) + ((5 : Int32) * v4_b29)) + (2 : Int32)) 12584) <|
  bd_ (pt_ s_b29 1 (ix_ (((26 : Int32) + ((5 : Int32) * v4_b29)) + (2 : Int32))) (Int64.toInt32 (if ((Int32.toInt64 r12) - ((((Int32.toInt64 r12) * (Int32.toInt64 (s_b29 1 (ix_ (7 : Int32))))) * (Int32.toInt64 (s_b29 1 (ix_ (((2948 : Int32) + ((1200 : Int32) * v4_b29)) + (s_b29 1 (ix_ (16 : Int32)))))))) / ((1000 : Int64) * (Int32.toInt64 ((s 1 (ix_ (2 : Int32))) + ((s 1 (ix_ (3 : Int32))) * ((s 1 (ix_ (0 : Int32))) - (1 : Int32)))))))) < (1 : Int64) then (1 : Int64) else ((Int32.toInt64 r12) - ((((Int32.toInt64 r12) * (Int32.toInt64 (s_b29 1 (ix_ (7 : Int32))))) * (Int32.toInt64 (s_b29 1 (ix_ (((2948 : Int32) + ((1200 : Int32) * v4_b29)) + (s_b29 1 (ix_ (16 : Int32)))))))) / ((1000 : Int64) * (Int32.toInt64 ((s 1 (ix_ (2 : Int32))) + ((s 1 (ix_ (3 : Int32))) * ((s 1 (ix_ (0 : Int32))) - (1 : Int32))))))))))) fun s21 =>
  bn_ (fX8_of s21 v4_b29 (2 : Int32)) fun r25 =>
  some (.inl ((if v3_b29 < r25 then r25 else v3_b29), (v4_b29 + (1 : Int32)), s21)))
def fX8_weighs_l29 (s : st_) : Nat → (Int32 × Int32 × st_) → Option (Int32 × st_) :=
  it_ (fun v => fX8_weighs_b29 s v.1 v.2.1 v.2.2)
def fX8_weighs (s : st_) : Option (st_) :=
  gd_ (ib_ (2 : Int32) 12584) <|
  gd_ (ib_ (3 : Int32) 12584) <|
  gd_ (ib_ (0 : Int32) 12584) <|
  bn_ (fX8_weighs_l29 s FU_ ((0 : Int32), (0 : Int32), s)) (fX8_weighs_k29)
set_option maxRecDepth 8000 in
theorem kX8_weighs {E : ev_} {H : Heap} {a : Nat} {s : st_} {r : st_} (hm : fX8_weighs s = some r) (h0 : has_ E H a ly_O s) (hf : ev_fr E a) : sp_ E mX8_weighs [.ref a] H (po1 (.inl (none)) (fun Hn => sm_ H Hn a 10 ∧ has_ E Hn a ly_O r)) := by
  refine sp_of (by decide +kernel) rfl rfl ?_
  generalize hQ : po1 _ _ = Q
  have hs : sm_ H H a 10 := sm_.rfl'
  unfold fX8_weighs at hm
  refine aw_lv (lv' := [(0, .ref a)]) [0] rfl ?_
  refine aw_b (pc' := 1) (lv' := [(0, .ref a)]) (st' := [.ref a]) [(0, .aload_n 0, 1, .null)] (by decide +kernel) rfl ?_
  refine aw_gl (v := .ref (a + 1)) a 0 h0 eo_O_0 fgX8_9 rfl (by decide +kernel) ?_
  refine aw_b (pc' := 5) (lv' := [(0, .ref a)]) (st' := [.int (2 : Int32), .ref (a + 1)]) [(4, .iconst 2, 1, .int (2 : Int32))] (by decide +kernel) rfl ?_
  obtain ⟨g1, hm⟩ := gd_x hm
  refine aw_ial a 1 h0 rfl g1 (by decide +kernel) ?_
  refine aw_b (pc' := 7) (lv' := [(0, .ref a)]) (st' := [.ref a, .int (s 1 (ix_ (2 : Int32)))]) [(6, .aload_n 0, 1, .null)] (by decide +kernel) rfl ?_
  refine aw_gl (v := .ref (a + 1)) a 0 h0 eo_O_0 fgX8_9 rfl (by decide +kernel) ?_
  refine aw_b (pc' := 11) (lv' := [(0, .ref a)]) (st' := [.int (3 : Int32), .ref (a + 1), .int (s 1 (ix_ (2 : Int32)))]) [(10, .iconst 3, 1, .int (3 : Int32))] (by decide +kernel) rfl ?_
  obtain ⟨g2, hm⟩ := gd_x hm
  refine aw_ial a 1 h0 rfl g2 (by decide +kernel) ?_
  refine aw_b (pc' := 13) (lv' := [(0, .ref a)]) (st' := [.ref a, .int (s 1 (ix_ (3 : Int32))), .int (s 1 (ix_ (2 : Int32)))]) [(12, .aload_n 0, 1, .null)] (by decide +kernel) rfl ?_
  refine aw_gl (v := .ref (a + 1)) a 0 h0 eo_O_0 fgX8_9 rfl (by decide +kernel) ?_
  refine aw_b (pc' := 17) (lv' := [(0, .ref a)]) (st' := [.int (0 : Int32), .ref (a + 1), .int (s 1 (ix_ (3 : Int32))), .int (s 1 (ix_ (2 : Int32)))]) [(16, .iconst 0, 1, .int (0 : Int32))] (by decide +kernel) rfl ?_
  obtain ⟨g3, hm⟩ := gd_x hm
  refine aw_ial a 1 h0 rfl g3 (by decide +kernel) ?_
  refine aw_b (pc' := 29) (lv' := [(4, .int (0 : Int32)), (3, .int (0 : Int32)), (1, .long (Int32.toInt64 ((s 1 (ix_ (2 : Int32))) + ((s 1 (ix_ (3 : Int32))) * ((s 1 (ix_ (0 : Int32))) - (1 : Int32)))))), (0, .ref a)]) (st' := []) [(18, .iconst 1, 1, .int (1 : Int32)), (19, .isub, 1, .null), (20, .imul, 1, .null), (21, .iadd, 1, .null), (22, .i2l, 1, .null), (23, .lstore_n 1, 1, .null), (24, .iconst 0, 1, .int (0 : Int32)), (25, .istore_n 3, 1, .null), (26, .iconst 0, 1, .int (0 : Int32)), (27, .istore 4, 2, .null)] (by decide +kernel) rfl ?_
  obtain ⟨x29, hx29, hr29⟩ := bn_x hm
  have X29_136 : ∀ (v3_x29_136 : Int32) (s_x29_136 : st_) (H_x29_136 : Heap), has_ E H_x29_136 a ly_O s_x29_136 → sm_ H H_x29_136 a 10 → fX8_weighs_x29_136 v3_x29_136 s_x29_136 = some r → aw E mX8_weighs Q 136 [(0, .ref a), (3, .int v3_x29_136)] [] H_x29_136 0 0 := by
    intro v3_x29_136 s_x29_136 H_x29_136 h0 hs hm
    unfold fX8_weighs_x29_136 at hm
    refine aw_b (pc' := 139) (lv' := [(4, .int (0 : Int32)), (0, .ref a), (3, .int v3_x29_136)]) (st' := []) [(136, .iconst 0, 1, .int (0 : Int32)), (137, .istore 4, 2, .null)] (by decide +kernel) rfl ?_
    obtain ⟨x139, hx139, hr139⟩ := bn_x hm
    have X139_183 : ∀ (s_x139_183 : st_) (H_x139_183 : Heap), has_ E H_x139_183 a ly_O s_x139_183 → sm_ H H_x139_183 a 10 → fX8_weighs_x139_183 s_x139_183 = some r → aw E mX8_weighs Q 183 [] [] H_x139_183 0 0 := by
      intro s_x139_183 H_x139_183 h0 hs hm
      unfold fX8_weighs_x139_183 at hm
      obtain rfl := Option.some.inj hm
      subst hQ
      exact aw_vret rfl (Nat.zero_le _) (Nat.zero_le _) (by decide +kernel) ⟨rfl, hs, h0⟩
    have L139 : ∀ (fu : Nat) (v4_b139 : Int32) (s_b139 : st_) (H_b139 : Heap), has_ E H_b139 a ly_O s_b139 → sm_ H H_b139 a 10 → fX8_weighs_l139 v3_x29_136 fu (v4_b139, s_b139) = some x139 → aw E mX8_weighs Q 139 [(0, .ref a), (3, .int v3_x29_136), (4, .int v4_b139)] [] H_b139 0 0 := by
      intro fu
      induction fu with
      | zero =>
        intro v4_b139 s_b139 H_b139 h0 hs hm
        exact (it_0 hm).elim
      | succ fu ih139 =>
        intro v4_b139 s_b139 H_b139 h0 hs hm
        obtain ⟨y139, hm, hk139⟩ := it_s hm
        have hm : fX8_weighs_b139 v3_x29_136 v4_b139 s_b139 = some y139 := hm
        unfold fX8_weighs_b139 at hm
        refine aw_b (pc' := 142) (lv' := [(0, .ref a), (3, .int v3_x29_136), (4, .int v4_b139)]) (st' := [.ref a, .int v4_b139]) [(139, .iload 4, 2, .null), (141, .aload_n 0, 1, .null)] (by decide +kernel) rfl ?_
        refine aw_gl (v := .ref (a + 1)) a 0 h0 eo_O_0 fgX8_9 rfl (by decide +kernel) ?_
        refine aw_b (pc' := 146) (lv' := [(0, .ref a), (3, .int v3_x29_136), (4, .int v4_b139)]) (st' := [.int (4 : Int32), .ref (a + 1), .int v4_b139]) [(145, .iconst 4, 1, .int (4 : Int32))] (by decide +kernel) rfl ?_
        obtain ⟨g4, hm⟩ := gd_x hm
        refine aw_ial a 1 h0 rfl g4 (by decide +kernel) ?_
        refine aw_ic_ge (off := 36) 183 (by decide) (by decide +kernel) (fun hc => ?_) (fun hc => ?_)
        · have hm := (if_pos hc).symm.trans hm
          cases hm
          refine aw_lv (lv' := []) [] rfl ?_
          exact X139_183 s_b139 H_b139 h0 hs ((congrArg fX8_weighs_k139 (show (s_b139) = x139 from hk139)).trans hr139)
        · have hm := (if_neg hc).symm.trans hm
          refine aw_b (pc' := 154) (lv' := [(0, .ref a), (3, .int v3_x29_136), (4, .int v4_b139)]) (st' := [.int (1000 : Int32), .int v3_x29_136]) [(150, .iload_n 3, 1, .null), (151, .sipush 1000, 3, .int (1000 : Int32))] (by decide +kernel) rfl ?_
          refine aw_ic_ge (off := 29) 183 (by decide) (by decide +kernel) (fun hc => ?_) (fun hc => ?_)
          · have hm := (if_pos hc).symm.trans hm
            cases hm
            refine aw_lv (lv' := []) [] rfl ?_
            exact X139_183 s_b139 H_b139 h0 hs ((congrArg fX8_weighs_k139 (show (s_b139) = x139 from hk139)).trans hr139)
          · have hm := (if_neg hc).symm.trans hm
            refine aw_b (pc' := 158) (lv' := [(0, .ref a), (3, .int v3_x29_136), (4, .int v4_b139)]) (st' := [.ref a]) [(157, .aload_n 0, 1, .null)] (by decide +kernel) rfl ?_
            refine aw_gl (v := .ref (a + 1)) a 0 h0 eo_O_0 fgX8_9 rfl (by decide +kernel) ?_
            refine aw_b (pc' := 171) (lv' := [(0, .ref a), (3, .int v3_x29_136), (4, .int v4_b139)]) (st' := [.int (((26 : Int32) + ((5 : Int32) * v4_b139)) + (2 : Int32)), .ref (a + 1), .int (((26 : Int32) + ((5 : Int32) * v4_b139)) + (2 : Int32)), .ref (a + 1)]) [(161, .bipush 26, 2, .int (26 : Int32)), (163, .iconst 5, 1, .int (5 : Int32)), (164, .iload 4, 2, .null), (166, .imul, 1, .null), (167, .iadd, 1, .null), (168, .iconst 2, 1, .int (2 : Int32)), (169, .iadd, 1, .null), (170, .dup2, 1, .null)] (by decide +kernel) rfl ?_
            obtain ⟨g5, hm⟩ := gd_x hm
            refine aw_ial a 1 h0 rfl g5 (by decide +kernel) ?_
            refine aw_b (pc' := 176) (lv' := [(0, .ref a), (3, .int v3_x29_136), (4, .int v4_b139)]) (st' := [.int ((s_b139 1 (ix_ (((26 : Int32) + ((5 : Int32) * v4_b139)) + (2 : Int32)))) * (1000 : Int32)), .int (((26 : Int32) + ((5 : Int32) * v4_b139)) + (2 : Int32)), .ref (a + 1)]) [(172, .sipush 1000, 3, .int (1000 : Int32)), (175, .imul, 1, .null)] (by decide +kernel) rfl ?_
            obtain ⟨g6, hm⟩ := gd_x hm
            obtain ⟨s7, e8, hm⟩ := bd_x hm
            refine aw_isl a 1 h0 rfl hf g6 e8 (by decide +kernel) (fun H9 h0 z10 => ?_)
            have hs := hs.step z10 (by omega) (by omega)
            refine aw_b (pc' := 139) (lv' := [(4, .int (v4_b139 + (1 : Int32))), (0, .ref a), (3, .int v3_x29_136)]) (st' := []) [(177, .iinc 4 1, 3, .int (1 : Int32)), (180, .goto (-41), 3, .null)] (by decide +kernel) rfl ?_
            cases hm
            refine aw_lv (lv' := [(0, .ref a), (3, .int v3_x29_136), (4, .int (v4_b139 + (1 : Int32)))]) [1, 2, 0] rfl ?_
            exact ih139 (v4_b139 + (1 : Int32)) s7 H9 h0 hs hk139
    refine aw_lv (lv' := [(0, .ref a), (3, .int v3_x29_136), (4, .int (0 : Int32))]) [1, 2, 0] rfl ?_
    exact L139 FU_ (0 : Int32) s_x29_136 H_x29_136 h0 hs hx139
  have L29 : ∀ (fu : Nat) (v3_b29 : Int32) (v4_b29 : Int32) (s_b29 : st_) (H_b29 : Heap), has_ E H_b29 a ly_O s_b29 → sm_ H H_b29 a 10 → fX8_weighs_l29 s fu (v3_b29, v4_b29, s_b29) = some x29 → aw E mX8_weighs Q 29 [(0, .ref a), (1, .long (Int32.toInt64 ((s 1 (ix_ (2 : Int32))) + ((s 1 (ix_ (3 : Int32))) * ((s 1 (ix_ (0 : Int32))) - (1 : Int32)))))), (3, .int v3_b29), (4, .int v4_b29)] [] H_b29 0 0 := by
    intro fu
    induction fu with
    | zero =>
      intro v3_b29 v4_b29 s_b29 H_b29 h0 hs hm
      exact (it_0 hm).elim
    | succ fu ih29 =>
      intro v3_b29 v4_b29 s_b29 H_b29 h0 hs hm
      obtain ⟨y29, hm, hk29⟩ := it_s hm
      have hm : fX8_weighs_b29 s v3_b29 v4_b29 s_b29 = some y29 := hm
      unfold fX8_weighs_b29 at hm
      refine aw_b (pc' := 32) (lv' := [(0, .ref a), (1, .long (Int32.toInt64 ((s 1 (ix_ (2 : Int32))) + ((s 1 (ix_ (3 : Int32))) * ((s 1 (ix_ (0 : Int32))) - (1 : Int32)))))), (3, .int v3_b29), (4, .int v4_b29)]) (st' := [.ref a, .int v4_b29]) [(29, .iload 4, 2, .null), (31, .aload_n 0, 1, .null)] (by decide +kernel) rfl ?_
      refine aw_gl (v := .ref (a + 1)) a 0 h0 eo_O_0 fgX8_9 rfl (by decide +kernel) ?_
      refine aw_b (pc' := 36) (lv' := [(0, .ref a), (1, .long (Int32.toInt64 ((s 1 (ix_ (2 : Int32))) + ((s 1 (ix_ (3 : Int32))) * ((s 1 (ix_ (0 : Int32))) - (1 : Int32)))))), (3, .int v3_b29), (4, .int v4_b29)]) (st' := [.int (4 : Int32), .ref (a + 1), .int v4_b29]) [(35, .iconst 4, 1, .int (4 : Int32))] (by decide +kernel) rfl ?_
      obtain ⟨g11, hm⟩ := gd_x hm
      refine aw_ial a 1 h0 rfl g11 (by decide +kernel) ?_
      refine aw_ic_ge (off := 99) 136 (by decide) (by decide +kernel) (fun hc => ?_) (fun hc => ?_)
      · have hm := (if_pos hc).symm.trans hm
        cases hm
        refine aw_lv (lv' := [(0, .ref a), (3, .int v3_b29)]) [0, 2] rfl ?_
        exact X29_136 v3_b29 s_b29 H_b29 h0 hs ((congrArg fX8_weighs_k29 (show ((v3_b29, s_b29)) = x29 from hk29)).trans hr29)
      · have hm := (if_neg hc).symm.trans hm
        refine aw_b (pc' := 44) (lv' := [(0, .ref a), (1, .long (Int32.toInt64 ((s 1 (ix_ (2 : Int32))) + ((s 1 (ix_ (3 : Int32))) * ((s 1 (ix_ (0 : Int32))) - (1 : Int32)))))), (3, .int v3_b29), (4, .int v4_b29)]) (st' := [.int (2 : Int32), .int v4_b29, .ref a]) [(40, .aload_n 0, 1, .null), (41, .iload 4, 2, .null), (43, .iconst 2, 1, .int (2 : Int32))] (by decide +kernel) rfl ?_
        obtain ⟨r12, e13, hm⟩ := bn_x hm
        refine aw_cv (rest := []) (st1 := [.int r12]) a 0 (kX8_of e13 h0) rfl rfl ckX8_of lkX8_236 h0 eo_O_0 ⟨_, _, rfl⟩ nkX8_of rfl rfl rfl (Nat.le_of_ble_eq_true rfl) (Nat.zero_le _) (Nat.zero_le _) (by decide +kernel) (fun H14 z15 => ?_)
        have h0 := h0.kept0 z15
        have hs := hs.step0 z15
        refine aw_b (pc' := 53) (lv' := [(5, .long (Int32.toInt64 r12)), (0, .ref a), (1, .long (Int32.toInt64 ((s 1 (ix_ (2 : Int32))) + ((s 1 (ix_ (3 : Int32))) * ((s 1 (ix_ (0 : Int32))) - (1 : Int32)))))), (3, .int v3_b29), (4, .int v4_b29)]) (st' := [.ref a, .long (Int32.toInt64 r12)]) [(47, .i2l, 1, .null), (48, .lstore 5, 2, .null), (50, .lload 5, 2, .null), (52, .aload_n 0, 1, .null)] (by decide +kernel) rfl ?_
        refine aw_gl (v := .ref (a + 1)) a 0 h0 eo_O_0 fgX8_9 rfl (by decide +kernel) ?_
        refine aw_b (pc' := 58) (lv' := [(5, .long (Int32.toInt64 r12)), (0, .ref a), (1, .long (Int32.toInt64 ((s 1 (ix_ (2 : Int32))) + ((s 1 (ix_ (3 : Int32))) * ((s 1 (ix_ (0 : Int32))) - (1 : Int32)))))), (3, .int v3_b29), (4, .int v4_b29)]) (st' := [.int (7 : Int32), .ref (a + 1), .long (Int32.toInt64 r12)]) [(56, .bipush 7, 2, .int (7 : Int32))] (by decide +kernel) rfl ?_
        obtain ⟨g16, hm⟩ := gd_x hm
        refine aw_ial a 1 h0 rfl g16 (by decide +kernel) ?_
        refine aw_b (pc' := 62) (lv' := [(5, .long (Int32.toInt64 r12)), (0, .ref a), (1, .long (Int32.toInt64 ((s 1 (ix_ (2 : Int32))) + ((s 1 (ix_ (3 : Int32))) * ((s 1 (ix_ (0 : Int32))) - (1 : Int32)))))), (3, .int v3_b29), (4, .int v4_b29)]) (st' := [.ref a, .long ((Int32.toInt64 r12) * (Int32.toInt64 (s_b29 1 (ix_ (7 : Int32)))))]) [(59, .i2l, 1, .null), (60, .lmul, 1, .null), (61, .aload_n 0, 1, .null)] (by decide +kernel) rfl ?_
        refine aw_gl (v := .ref (a + 1)) a 0 h0 eo_O_0 fgX8_9 rfl (by decide +kernel) ?_
        refine aw_b (pc' := 76) (lv' := [(5, .long (Int32.toInt64 r12)), (0, .ref a), (1, .long (Int32.toInt64 ((s 1 (ix_ (2 : Int32))) + ((s 1 (ix_ (3 : Int32))) * ((s 1 (ix_ (0 : Int32))) - (1 : Int32)))))), (3, .int v3_b29), (4, .int v4_b29)]) (st' := [.ref a, .int ((2948 : Int32) + ((1200 : Int32) * v4_b29)), .ref (a + 1), .long ((Int32.toInt64 r12) * (Int32.toInt64 (s_b29 1 (ix_ (7 : Int32)))))]) [(65, .sipush 2948, 3, .int (2948 : Int32)), (68, .sipush 1200, 3, .int (1200 : Int32)), (71, .iload 4, 2, .null), (73, .imul, 1, .null), (74, .iadd, 1, .null), (75, .aload_n 0, 1, .null)] (by decide +kernel) rfl ?_
        refine aw_gl (v := .ref (a + 1)) a 0 h0 eo_O_0 fgX8_9 rfl (by decide +kernel) ?_
        refine aw_b (pc' := 81) (lv' := [(5, .long (Int32.toInt64 r12)), (0, .ref a), (1, .long (Int32.toInt64 ((s 1 (ix_ (2 : Int32))) + ((s 1 (ix_ (3 : Int32))) * ((s 1 (ix_ (0 : Int32))) - (1 : Int32)))))), (3, .int v3_b29), (4, .int v4_b29)]) (st' := [.int (16 : Int32), .ref (a + 1), .int ((2948 : Int32) + ((1200 : Int32) * v4_b29)), .ref (a + 1), .long ((Int32.toInt64 r12) * (Int32.toInt64 (s_b29 1 (ix_ (7 : Int32)))))]) [(79, .bipush 16, 2, .int (16 : Int32))] (by decide +kernel) rfl ?_
        obtain ⟨g17, hm⟩ := gd_x hm
        refine aw_ial a 1 h0 rfl g17 (by decide +kernel) ?_
        refine aw_b (pc' := 83) (lv' := [(5, .long (Int32.toInt64 r12)), (0, .ref a), (1, .long (Int32.toInt64 ((s 1 (ix_ (2 : Int32))) + ((s 1 (ix_ (3 : Int32))) * ((s 1 (ix_ (0 : Int32))) - (1 : Int32)))))), (3, .int v3_b29), (4, .int v4_b29)]) (st' := [.int (((2948 : Int32) + ((1200 : Int32) * v4_b29)) + (s_b29 1 (ix_ (16 : Int32)))), .ref (a + 1), .long ((Int32.toInt64 r12) * (Int32.toInt64 (s_b29 1 (ix_ (7 : Int32)))))]) [(82, .iadd, 1, .null)] (by decide +kernel) rfl ?_
        obtain ⟨g18, hm⟩ := gd_x hm
        refine aw_ial a 1 h0 rfl g18 (by decide +kernel) ?_
        refine aw_b (pc' := 86) (lv' := [(5, .long (Int32.toInt64 r12)), (0, .ref a), (1, .long (Int32.toInt64 ((s 1 (ix_ (2 : Int32))) + ((s 1 (ix_ (3 : Int32))) * ((s 1 (ix_ (0 : Int32))) - (1 : Int32)))))), (3, .int v3_b29), (4, .int v4_b29)]) (st' := [.long (((Int32.toInt64 r12) * (Int32.toInt64 (s_b29 1 (ix_ (7 : Int32))))) * (Int32.toInt64 (s_b29 1 (ix_ (((2948 : Int32) + ((1200 : Int32) * v4_b29)) + (s_b29 1 (ix_ (16 : Int32))))))))]) [(84, .i2l, 1, .null), (85, .lmul, 1, .null)] (by decide +kernel) rfl ?_
        refine aw_ldc2 (v := (1000 : Int64)) kwX8_350 (by decide +kernel) ?_
        refine aw_b (pc' := 91) (lv' := [(5, .long (Int32.toInt64 r12)), (0, .ref a), (1, .long (Int32.toInt64 ((s 1 (ix_ (2 : Int32))) + ((s 1 (ix_ (3 : Int32))) * ((s 1 (ix_ (0 : Int32))) - (1 : Int32)))))), (3, .int v3_b29), (4, .int v4_b29)]) (st' := [.long ((1000 : Int64) * (Int32.toInt64 ((s 1 (ix_ (2 : Int32))) + ((s 1 (ix_ (3 : Int32))) * ((s 1 (ix_ (0 : Int32))) - (1 : Int32)))))), .long (((Int32.toInt64 r12) * (Int32.toInt64 (s_b29 1 (ix_ (7 : Int32))))) * (Int32.toInt64 (s_b29 1 (ix_ (((2948 : Int32) + ((1200 : Int32) * v4_b29)) + (s_b29 1 (ix_ (16 : Int32))))))))]) [(89, .lload_n 1, 1, .null), (90, .lmul, 1, .null)] (by decide +kernel) rfl ?_
        obtain ⟨g19, hm⟩ := gd_x hm
        refine aw_ldiv (nzl_x g19) (by decide +kernel) ?_
        refine aw_b (pc' := 95) (lv' := [(7, .long ((((Int32.toInt64 r12) * (Int32.toInt64 (s_b29 1 (ix_ (7 : Int32))))) * (Int32.toInt64 (s_b29 1 (ix_ (((2948 : Int32) + ((1200 : Int32) * v4_b29)) + (s_b29 1 (ix_ (16 : Int32)))))))) / ((1000 : Int64) * (Int32.toInt64 ((s 1 (ix_ (2 : Int32))) + ((s 1 (ix_ (3 : Int32))) * ((s 1 (ix_ (0 : Int32))) - (1 : Int32)))))))), (5, .long (Int32.toInt64 r12)), (0, .ref a), (1, .long (Int32.toInt64 ((s 1 (ix_ (2 : Int32))) + ((s 1 (ix_ (3 : Int32))) * ((s 1 (ix_ (0 : Int32))) - (1 : Int32)))))), (3, .int v3_b29), (4, .int v4_b29)]) (st' := [.ref a]) [(92, .lstore 7, 2, .null), (94, .aload_n 0, 1, .null)] (by decide +kernel) rfl ?_
        refine aw_gl (v := .ref (a + 1)) a 0 h0 eo_O_0 fgX8_9 rfl (by decide +kernel) ?_
        refine aw_b (pc' := 113) (lv' := [(7, .long ((((Int32.toInt64 r12) * (Int32.toInt64 (s_b29 1 (ix_ (7 : Int32))))) * (Int32.toInt64 (s_b29 1 (ix_ (((2948 : Int32) + ((1200 : Int32) * v4_b29)) + (s_b29 1 (ix_ (16 : Int32)))))))) / ((1000 : Int64) * (Int32.toInt64 ((s 1 (ix_ (2 : Int32))) + ((s 1 (ix_ (3 : Int32))) * ((s 1 (ix_ (0 : Int32))) - (1 : Int32)))))))), (5, .long (Int32.toInt64 r12)), (0, .ref a), (1, .long (Int32.toInt64 ((s 1 (ix_ (2 : Int32))) + ((s 1 (ix_ (3 : Int32))) * ((s 1 (ix_ (0 : Int32))) - (1 : Int32)))))), (3, .int v3_b29), (4, .int v4_b29)]) (st' := [.long ((Int32.toInt64 r12) - ((((Int32.toInt64 r12) * (Int32.toInt64 (s_b29 1 (ix_ (7 : Int32))))) * (Int32.toInt64 (s_b29 1 (ix_ (((2948 : Int32) + ((1200 : Int32) * v4_b29)) + (s_b29 1 (ix_ (16 : Int32)))))))) / ((1000 : Int64) * (Int32.toInt64 ((s 1 (ix_ (2 : Int32))) + ((s 1 (ix_ (3 : Int32))) * ((s 1 (ix_ (0 : Int32))) - (1 : Int32)))))))), .long (1 : Int64), .int (((26 : Int32) + ((5 : Int32) * v4_b29)) + (2 : Int32)), .ref (a + 1)]) [(98, .bipush 26, 2, .int (26 : Int32)), (100, .iconst 5, 1, .int (5 : Int32)), (101, .iload 4, 2, .null), (103, .imul, 1, .null), (104, .iadd, 1, .null), (105, .iconst 2, 1, .int (2 : Int32)), (106, .iadd, 1, .null), (107, .lconst 1, 1, .long (1 : Int64)), (108, .lload 5, 2, .null), (110, .lload 7, 2, .null), (112, .lsub, 1, .null)] (by decide +kernel) rfl ?_
        refine aw_mxl (rest := [.int (((26 : Int32) + ((5 : Int32) * v4_b29)) + (2 : Int32)), .ref (a + 1)]) mtX8_352 rfl (Nat.le_of_ble_eq_true rfl) (Nat.zero_le _) (Nat.zero_le _) (by decide +kernel) ?_
        refine aw_b (pc' := 117) (lv' := [(7, .long ((((Int32.toInt64 r12) * (Int32.toInt64 (s_b29 1 (ix_ (7 : Int32))))) * (Int32.toInt64 (s_b29 1 (ix_ (((2948 : Int32) + ((1200 : Int32) * v4_b29)) + (s_b29 1 (ix_ (16 : Int32)))))))) / ((1000 : Int64) * (Int32.toInt64 ((s 1 (ix_ (2 : Int32))) + ((s 1 (ix_ (3 : Int32))) * ((s 1 (ix_ (0 : Int32))) - (1 : Int32)))))))), (5, .long (Int32.toInt64 r12)), (0, .ref a), (1, .long (Int32.toInt64 ((s 1 (ix_ (2 : Int32))) + ((s 1 (ix_ (3 : Int32))) * ((s 1 (ix_ (0 : Int32))) - (1 : Int32)))))), (3, .int v3_b29), (4, .int v4_b29)]) (st' := [.int (Int64.toInt32 (if ((Int32.toInt64 r12) - ((((Int32.toInt64 r12) * (Int32.toInt64 (s_b29 1 (ix_ (7 : Int32))))) * (Int32.toInt64 (s_b29 1 (ix_ (((2948 : Int32) + ((1200 : Int32) * v4_b29)) + (s_b29 1 (ix_ (16 : Int32)))))))) / ((1000 : Int64) * (Int32.toInt64 ((s 1 (ix_ (2 : Int32))) + ((s 1 (ix_ (3 : Int32))) * ((s 1 (ix_ (0 : Int32))) - (1 : Int32)))))))) < (1 : Int64) then (1 : Int64) else ((Int32.toInt64 r12) - ((((Int32.toInt64 r12) * (Int32.toInt64 (s_b29 1 (ix_ (7 : Int32))))) * (Int32.toInt64 (s_b29 1 (ix_ (((2948 : Int32) + ((1200 : Int32) * v4_b29)) + (s_b29 1 (ix_ (16 : Int32)))))))) / ((1000 : Int64) * (Int32.toInt64 ((s 1 (ix_ (2 : Int32))) + ((s 1 (ix_ (3 : Int32))) * ((s 1 (ix_ (0 : Int32))) - (1 : Int32)))))))))), .int (((26 : Int32) + ((5 : Int32) * v4_b29)) + (2 : Int32)), .ref (a + 1)]) [(116, .l2i, 1, .null)] (by decide +kernel) rfl ?_
        obtain ⟨g20, hm⟩ := gd_x hm
        obtain ⟨s21, e22, hm⟩ := bd_x hm
        refine aw_isl a 1 h0 rfl hf g20 e22 (by decide +kernel) (fun H23 h0 z24 => ?_)
        have hs := hs.step z24 (by omega) (by omega)
        refine aw_b (pc' := 123) (lv' := [(7, .long ((((Int32.toInt64 r12) * (Int32.toInt64 (s_b29 1 (ix_ (7 : Int32))))) * (Int32.toInt64 (s_b29 1 (ix_ (((2948 : Int32) + ((1200 : Int32) * v4_b29)) + (s_b29 1 (ix_ (16 : Int32)))))))) / ((1000 : Int64) * (Int32.toInt64 ((s 1 (ix_ (2 : Int32))) + ((s 1 (ix_ (3 : Int32))) * ((s 1 (ix_ (0 : Int32))) - (1 : Int32)))))))), (5, .long (Int32.toInt64 r12)), (0, .ref a), (1, .long (Int32.toInt64 ((s 1 (ix_ (2 : Int32))) + ((s 1 (ix_ (3 : Int32))) * ((s 1 (ix_ (0 : Int32))) - (1 : Int32)))))), (3, .int v3_b29), (4, .int v4_b29)]) (st' := [.int (2 : Int32), .int v4_b29, .ref a, .int v3_b29]) [(118, .iload_n 3, 1, .null), (119, .aload_n 0, 1, .null), (120, .iload 4, 2, .null), (122, .iconst 2, 1, .int (2 : Int32))] (by decide +kernel) rfl ?_
        obtain ⟨r25, e26, hm⟩ := bn_x hm
        refine aw_cv (rest := [.int v3_b29]) (st1 := [.int r25, .int v3_b29]) a 0 (kX8_of e26 h0) rfl rfl ckX8_of lkX8_236 h0 eo_O_0 ⟨_, _, rfl⟩ nkX8_of rfl rfl rfl (Nat.le_of_ble_eq_true rfl) (Nat.zero_le _) (Nat.zero_le _) (by decide +kernel) (fun H27 z28 => ?_)
        have h0 := h0.kept0 z28
        have hs := hs.step0 z28
        refine aw_mx (rest := []) mtX8_305 rfl (Nat.le_of_ble_eq_true rfl) (Nat.zero_le _) (Nat.zero_le _) (by decide +kernel) ?_
        refine aw_b (pc' := 29) (lv' := [(4, .int (v4_b29 + (1 : Int32))), (3, .int (if v3_b29 < r25 then r25 else v3_b29)), (7, .long ((((Int32.toInt64 r12) * (Int32.toInt64 (s_b29 1 (ix_ (7 : Int32))))) * (Int32.toInt64 (s_b29 1 (ix_ (((2948 : Int32) + ((1200 : Int32) * v4_b29)) + (s_b29 1 (ix_ (16 : Int32)))))))) / ((1000 : Int64) * (Int32.toInt64 ((s 1 (ix_ (2 : Int32))) + ((s 1 (ix_ (3 : Int32))) * ((s 1 (ix_ (0 : Int32))) - (1 : Int32)))))))), (5, .long (Int32.toInt64 r12)), (0, .ref a), (1, .long (Int32.toInt64 ((s 1 (ix_ (2 : Int32))) + ((s 1 (ix_ (3 : Int32))) * ((s 1 (ix_ (0 : Int32))) - (1 : Int32))))))]) (st' := []) [(129, .istore_n 3, 1, .null), (130, .iinc 4 1, 3, .int (1 : Int32)), (133, .goto (-104), 3, .null)] (by decide +kernel) rfl ?_
        cases hm
        refine aw_lv (lv' := [(0, .ref a), (1, .long (Int32.toInt64 ((s 1 (ix_ (2 : Int32))) + ((s 1 (ix_ (3 : Int32))) * ((s 1 (ix_ (0 : Int32))) - (1 : Int32)))))), (3, .int (if v3_b29 < r25 then r25 else v3_b29)), (4, .int (v4_b29 + (1 : Int32)))]) [4, 5, 1, 0] rfl ?_
        exact ih29 (if v3_b29 < r25 then r25 else v3_b29) (v4_b29 + (1 : Int32)) s21 H27 h0 hs hk29
  refine aw_lv (lv' := [(0, .ref a), (1, .long (Int32.toInt64 ((s 1 (ix_ (2 : Int32))) + ((s 1 (ix_ (3 : Int32))) * ((s 1 (ix_ (0 : Int32))) - (1 : Int32)))))), (3, .int (0 : Int32)), (4, .int (0 : Int32))]) [3, 2, 1, 0] rfl ?_
  exact L29 FU_ (0 : Int32) (0 : Int32) s H h0 hs hx29
def mX8_rootOf : mt_ := (yX8_rootOf, cX8_rootOf, 2, some .int, [], { frames := 0, locals := 0, cells := 0, slots := 0 })
theorem ckX8_rootOf : cokS_ mX8_rootOf := ⟨⟨(uw_mem 1816 (by decide +kernel) (by decide +kernel)), (uw_mem 112 (by decide +kernel) (by decide +kernel)), by decide +kernel, by decide +kernel⟩, (uw_mem 1815 (by decide +kernel) (by decide +kernel))⟩
theorem nkX8_rootOf : nok_ mX8_rootOf 1 := by decide +kernel
def fX8_rootOf_x2_19 (v1_x2_19 : Int32) : Option (Int32) :=
  some v1_x2_19
def fX8_rootOf_k2 (x : Int32) : Option (Int32) :=
  fX8_rootOf_x2_19 x
def fX8_rootOf_b2 (i0 : Int32) (v1_b2 : Int32) : Option ((Int32) ⊕ (Int32)) :=
  if i0 < ((v1_b2 + (1 : Int32)) * (v1_b2 + (1 : Int32))) then (some (.inr v1_b2))
  else (some (.inl (v1_b2 + (1 : Int32))))
def fX8_rootOf_l2 (i0 : Int32) : Nat → Int32 → Option (Int32) :=
  it_ (fun v => fX8_rootOf_b2 i0 v)
def fX8_rootOf (i0 : Int32) : Option (Int32) :=
  bn_ (fX8_rootOf_l2 i0 FU_ (0 : Int32)) (fX8_rootOf_k2)
set_option maxRecDepth 8000 in
theorem kX8_rootOf {E : ev_} {H : Heap} {i0 : Int32} {r : Int32} (hm : fX8_rootOf i0 = some r) : sp_ E mX8_rootOf [.int i0] H (po1 (.inl (some (.int r))) (fun Hn => sm_ H Hn 0 0)) := by
  refine sp_of (by decide +kernel) rfl rfl ?_
  generalize hQ : po1 _ _ = Q
  have hs : sm_ H H 0 0 := sm_.rfl'
  unfold fX8_rootOf at hm
  refine aw_lv (lv' := [(0, .int i0)]) [0] rfl ?_
  refine aw_b (pc' := 2) (lv' := [(1, .int (0 : Int32)), (0, .int i0)]) (st' := []) [(0, .iconst 0, 1, .int (0 : Int32)), (1, .istore_n 1, 1, .null)] (by decide +kernel) rfl ?_
  obtain ⟨x2, hx2, hr2⟩ := bn_x hm
  have X2_19 : ∀ (v1_x2_19 : Int32) (H_x2_19 : Heap), sm_ H H_x2_19 0 0 → fX8_rootOf_x2_19 v1_x2_19 = some r → aw E mX8_rootOf Q 19 [(1, .int v1_x2_19)] [] H_x2_19 0 0 := by
    intro v1_x2_19 H_x2_19 hs hm
    unfold fX8_rootOf_x2_19 at hm
    refine aw_b (pc' := 20) (lv' := [(1, .int v1_x2_19)]) (st' := [.int v1_x2_19]) [(19, .iload_n 1, 1, .null)] (by decide +kernel) rfl ?_
    obtain rfl := Option.some.inj hm
    subst hQ
    exact aw_iret rfl (Nat.zero_le _) (Nat.zero_le _) (by decide +kernel) ⟨rfl, hs⟩
  have L2 : ∀ (fu : Nat) (v1_b2 : Int32) (H_b2 : Heap), sm_ H H_b2 0 0 → fX8_rootOf_l2 i0 fu v1_b2 = some x2 → aw E mX8_rootOf Q 2 [(0, .int i0), (1, .int v1_b2)] [] H_b2 0 0 := by
    intro fu
    induction fu with
    | zero =>
      intro v1_b2 H_b2 hs hm
      exact (it_0 hm).elim
    | succ fu ih2 =>
      intro v1_b2 H_b2 hs hm
      obtain ⟨y2, hm, hk2⟩ := it_s hm
      have hm : fX8_rootOf_b2 i0 v1_b2 = some y2 := hm
      unfold fX8_rootOf_b2 at hm
      refine aw_b (pc' := 10) (lv' := [(0, .int i0), (1, .int v1_b2)]) (st' := [.int i0, .int ((v1_b2 + (1 : Int32)) * (v1_b2 + (1 : Int32)))]) [(2, .iload_n 1, 1, .null), (3, .iconst 1, 1, .int (1 : Int32)), (4, .iadd, 1, .null), (5, .iload_n 1, 1, .null), (6, .iconst 1, 1, .int (1 : Int32)), (7, .iadd, 1, .null), (8, .imul, 1, .null), (9, .iload_n 0, 1, .null)] (by decide +kernel) rfl ?_
      refine aw_ic_gt (off := 9) 19 (by decide) (by decide +kernel) (fun hc => ?_) (fun hc => ?_)
      · have hm := (if_pos hc).symm.trans hm
        cases hm
        refine aw_lv (lv' := [(1, .int v1_b2)]) [1] rfl ?_
        exact X2_19 v1_b2 H_b2 hs ((congrArg fX8_rootOf_k2 (show (v1_b2) = x2 from hk2)).trans hr2)
      · have hm := (if_neg hc).symm.trans hm
        refine aw_b (pc' := 2) (lv' := [(1, .int (v1_b2 + (1 : Int32))), (0, .int i0)]) (st' := []) [(13, .iinc 1 1, 3, .int (1 : Int32)), (16, .goto (-14), 3, .null)] (by decide +kernel) rfl ?_
        cases hm
        refine aw_lv (lv' := [(0, .int i0), (1, .int (v1_b2 + (1 : Int32)))]) [1, 0] rfl ?_
        exact ih2 (v1_b2 + (1 : Int32)) H_b2 hs hk2
  refine aw_lv (lv' := [(0, .int i0), (1, .int (0 : Int32))]) [1, 0] rfl ?_
  exact L2 FU_ (0 : Int32) H hs hx2
def mX8_boundOf : mt_ := (yX8_boundOf, cX8_boundOf, 2, some .int, [], { frames := 1, locals := 21, cells := 0, slots := 0 })
theorem ckX8_boundOf : cokV_ mX8_boundOf := ⟨⟨(uw_mem 1813 (by decide +kernel) (by decide +kernel)), (uw_mem 112 (by decide +kernel) (by decide +kernel)), by decide +kernel, by decide +kernel⟩, (uw_mem 1812 (by decide +kernel) (by decide +kernel)), (uw_mem 69 (by decide +kernel) (by decide +kernel))⟩
theorem nkX8_boundOf : nok_ mX8_boundOf 1 := by decide +kernel
theorem lkX8_354 : Cond.methodLink RX8 354 yX8_rootOf ∈ uw_ := (uw_mem 1814 (by decide +kernel) (by decide +kernel))
def fX8_boundOf (s : st_) (i0 : Int32) : Option (Int32) :=
  gd_ (ib_ (11 : Int32) 12584) <|
  gd_ (ib_ (12 : Int32) 12584) <|
  bn_ (fX8_rootOf i0) fun r3 =>
  some ((s 1 (ix_ (11 : Int32))) + ((s 1 (ix_ (12 : Int32))) * r3))
set_option maxRecDepth 8000 in
theorem kX8_boundOf {E : ev_} {H : Heap} {a : Nat} {s : st_} {i0 : Int32} {r : Int32} (hm : fX8_boundOf s i0 = some r) (h0 : has_ E H a ly_O s) : sp_ E mX8_boundOf [.ref a, .int i0] H (po1 (.inl (some (.int r))) (fun Hn => sm_ H Hn 0 0)) := by
  refine sp_of (by decide +kernel) rfl rfl ?_
  generalize hQ : po1 _ _ = Q
  have hs : sm_ H H 0 0 := sm_.rfl'
  unfold fX8_boundOf at hm
  refine aw_lv (lv' := [(0, .ref a), (1, .int i0)]) [0, 1] rfl ?_
  refine aw_b (pc' := 1) (lv' := [(0, .ref a), (1, .int i0)]) (st' := [.ref a]) [(0, .aload_n 0, 1, .null)] (by decide +kernel) rfl ?_
  refine aw_gl (v := .ref (a + 1)) a 0 h0 eo_O_0 fgX8_9 rfl (by decide +kernel) ?_
  refine aw_b (pc' := 6) (lv' := [(0, .ref a), (1, .int i0)]) (st' := [.int (11 : Int32), .ref (a + 1)]) [(4, .bipush 11, 2, .int (11 : Int32))] (by decide +kernel) rfl ?_
  obtain ⟨g1, hm⟩ := gd_x hm
  refine aw_ial a 1 h0 rfl g1 (by decide +kernel) ?_
  refine aw_b (pc' := 8) (lv' := [(0, .ref a), (1, .int i0)]) (st' := [.ref a, .int (s 1 (ix_ (11 : Int32)))]) [(7, .aload_n 0, 1, .null)] (by decide +kernel) rfl ?_
  refine aw_gl (v := .ref (a + 1)) a 0 h0 eo_O_0 fgX8_9 rfl (by decide +kernel) ?_
  refine aw_b (pc' := 13) (lv' := [(0, .ref a), (1, .int i0)]) (st' := [.int (12 : Int32), .ref (a + 1), .int (s 1 (ix_ (11 : Int32)))]) [(11, .bipush 12, 2, .int (12 : Int32))] (by decide +kernel) rfl ?_
  obtain ⟨g2, hm⟩ := gd_x hm
  refine aw_ial a 1 h0 rfl g2 (by decide +kernel) ?_
  refine aw_b (pc' := 15) (lv' := [(0, .ref a), (1, .int i0)]) (st' := [.int i0, .int (s 1 (ix_ (12 : Int32))), .int (s 1 (ix_ (11 : Int32)))]) [(14, .iload_n 1, 1, .null)] (by decide +kernel) rfl ?_
  obtain ⟨r3, e4, hm⟩ := bn_x hm
  refine aw_cs (rest := [.int (s 1 (ix_ (12 : Int32))), .int (s 1 (ix_ (11 : Int32)))]) (st1 := [.int r3, .int (s 1 (ix_ (12 : Int32))), .int (s 1 (ix_ (11 : Int32)))]) (kX8_rootOf e4) rfl rfl ckX8_rootOf lkX8_354 nkX8_rootOf rfl rfl rfl (Nat.le_of_ble_eq_true rfl) (Nat.zero_le _) (Nat.zero_le _) (by decide +kernel) (fun H5 z6 => ?_)
  have h0 := h0.kept0 z6
  have hs := hs.step0 z6
  refine aw_b (pc' := 20) (lv' := [(0, .ref a), (1, .int i0)]) (st' := [.int ((s 1 (ix_ (11 : Int32))) + ((s 1 (ix_ (12 : Int32))) * r3))]) [(18, .imul, 1, .null), (19, .iadd, 1, .null)] (by decide +kernel) rfl ?_
  obtain rfl := Option.some.inj hm
  subst hQ
  exact aw_iret rfl (Nat.zero_le _) (Nat.zero_le _) (by decide +kernel) ⟨rfl, hs⟩
def mX8_judges : mt_ := (yX8_judges, cX8_judges, 2, none, [], { frames := 4, locals := 84, cells := 0, slots := 0 })
theorem ckX8_judges : cokV_ mX8_judges := ⟨⟨(uw_mem 2038 (by decide +kernel) (by decide +kernel)), (uw_mem 112 (by decide +kernel) (by decide +kernel)), by decide +kernel, by decide +kernel⟩, (uw_mem 2037 (by decide +kernel) (by decide +kernel)), (uw_mem 99 (by decide +kernel) (by decide +kernel))⟩
theorem nkX8_judges : nok_ mX8_judges 0 := by decide +kernel
theorem lkX8_357 : Cond.methodLink RX8 357 yX8_regretNow ∈ uw_ := (uw_mem 1805 (by decide +kernel) (by decide +kernel))
theorem lkX8_360 : Cond.methodLink RX8 360 yX8_boundOf ∈ uw_ := (uw_mem 1810 (by decide +kernel) (by decide +kernel))
def fX8_judges_j91 (s_j91 : st_) : Option (st_) :=
  gd_ (ib_ (17 : Int32) 12584) <|
  gd_ (ib_ (17 : Int32) 12584) <|
  bd_ (pt_ s_j91 1 (ix_ (17 : Int32)) ((s_j91 1 (ix_ (17 : Int32))) + (1 : Int32))) fun s20 =>
  some s20
def fX8_judges_j37 (s : st_) (r1 : Int32) (z2_j37 : Int32) : Option (st_) :=
  gd_ (ib_ (18 : Int32) 12584) <|
  bd_ (pt_ s 1 (ix_ (18 : Int32)) z2_j37) fun s7 =>
  gd_ (ib_ (11 : Int32) 12584) <|
  if (s7 1 (ix_ (11 : Int32))) = (-1 : Int32) then (some s7)
  else (gd_ (ib_ (16 : Int32) 12584) <|
  bn_ (fX8_boundOf s7 (s7 1 (ix_ (16 : Int32)))) fun r13 =>
  if r13 < r1 then (gd_ (ib_ (17 : Int32) 12584) <|
  if (s7 1 (ix_ (17 : Int32))) = (0 : Int32) then (gd_ (ib_ (16 : Int32) 12584) <|
  gd_ (ib_ (19 : Int32) 12584) <|
  bd_ (pt_ s7 1 (ix_ (19 : Int32)) ((s7 1 (ix_ (16 : Int32))) - (1 : Int32))) fun s26 =>
  fX8_judges_j91 s26)
  else (fX8_judges_j91 s7))
  else (some s7))
def fX8_judges (s : st_) : Option (st_) :=
  bn_ (fX8_regretNow s) fun r1 =>
  gd_ (ib_ (16 : Int32) 12584) <|
  if (s 1 (ix_ (16 : Int32))) = (1 : Int32) then (fX8_judges_j37 s r1 r1)
  else (gd_ (ib_ (18 : Int32) 12584) <|
  fX8_judges_j37 s r1 (if (s 1 (ix_ (18 : Int32))) < r1 then r1 else (s 1 (ix_ (18 : Int32)))))
set_option maxRecDepth 8000 in
theorem kX8_judges {E : ev_} {H : Heap} {a : Nat} {s : st_} {r : st_} (hm : fX8_judges s = some r) (h0 : has_ E H a ly_O s) (hf : ev_fr E a) : sp_ E mX8_judges [.ref a] H (po1 (.inl (none)) (fun Hn => sm_ H Hn a 10 ∧ has_ E Hn a ly_O r)) := by
  refine sp_of (by decide +kernel) rfl rfl ?_
  generalize hQ : po1 _ _ = Q
  have hs : sm_ H H a 10 := sm_.rfl'
  unfold fX8_judges at hm
  refine aw_lv (lv' := [(0, .ref a)]) [0] rfl ?_
  refine aw_b (pc' := 1) (lv' := [(0, .ref a)]) (st' := [.ref a]) [(0, .aload_n 0, 1, .null)] (by decide +kernel) rfl ?_
  obtain ⟨r1, e2, hm⟩ := bn_x hm
  refine aw_cv (rest := []) (st1 := [.int r1]) a 0 (kX8_regretNow e2 h0) rfl rfl ckX8_regretNow lkX8_357 h0 eo_O_0 ⟨_, _, rfl⟩ nkX8_regretNow rfl rfl rfl (Nat.le_of_ble_eq_true rfl) (Nat.zero_le _) (Nat.zero_le _) (by decide +kernel) (fun H3 z4 => ?_)
  have h0 := h0.kept0 z4
  have hs := hs.step0 z4
  refine aw_b (pc' := 6) (lv' := [(1, .int r1), (0, .ref a)]) (st' := [.ref a]) [(4, .istore_n 1, 1, .null), (5, .aload_n 0, 1, .null)] (by decide +kernel) rfl ?_
  refine aw_gl (v := .ref (a + 1)) a 0 h0 eo_O_0 fgX8_9 rfl (by decide +kernel) ?_
  refine aw_b (pc' := 12) (lv' := [(1, .int r1), (0, .ref a)]) (st' := [.ref a, .int (18 : Int32), .ref (a + 1)]) [(9, .bipush 18, 2, .int (18 : Int32)), (11, .aload_n 0, 1, .null)] (by decide +kernel) rfl ?_
  refine aw_gl (v := .ref (a + 1)) a 0 h0 eo_O_0 fgX8_9 rfl (by decide +kernel) ?_
  refine aw_b (pc' := 17) (lv' := [(1, .int r1), (0, .ref a)]) (st' := [.int (16 : Int32), .ref (a + 1), .int (18 : Int32), .ref (a + 1)]) [(15, .bipush 16, 2, .int (16 : Int32))] (by decide +kernel) rfl ?_
  obtain ⟨g5, hm⟩ := gd_x hm
  refine aw_ial a 1 h0 rfl g5 (by decide +kernel) ?_
  refine aw_b (pc' := 19) (lv' := [(1, .int r1), (0, .ref a)]) (st' := [.int (1 : Int32), .int (s 1 (ix_ (16 : Int32))), .int (18 : Int32), .ref (a + 1)]) [(18, .iconst 1, 1, .int (1 : Int32))] (by decide +kernel) rfl ?_
  have J37 : ∀ (z2_j37 : Int32) (H_j37 : Heap), has_ E H_j37 a ly_O s → sm_ H H_j37 a 10 → fX8_judges_j37 s r1 z2_j37 = some r → aw E mX8_judges Q 37 [(0, .ref a), (1, .int r1)] [.int z2_j37, .int (18 : Int32), .ref (a + 1)] H_j37 0 0 := by
    intro z2_j37 H_j37 h0 hs hm
    unfold fX8_judges_j37 at hm
    obtain ⟨g6, hm⟩ := gd_x hm
    obtain ⟨s7, e8, hm⟩ := bd_x hm
    refine aw_isl a 1 h0 rfl hf g6 e8 (by decide +kernel) (fun H9 h0 z10 => ?_)
    have hs := hs.step z10 (by omega) (by omega)
    refine aw_b (pc' := 39) (lv' := [(0, .ref a), (1, .int r1)]) (st' := [.ref a]) [(38, .aload_n 0, 1, .null)] (by decide +kernel) rfl ?_
    refine aw_gl (v := .ref (a + 1)) a 0 h0 eo_O_0 fgX8_9 rfl (by decide +kernel) ?_
    refine aw_b (pc' := 44) (lv' := [(0, .ref a), (1, .int r1)]) (st' := [.int (11 : Int32), .ref (a + 1)]) [(42, .bipush 11, 2, .int (11 : Int32))] (by decide +kernel) rfl ?_
    obtain ⟨g11, hm⟩ := gd_x hm
    refine aw_ial a 1 h0 rfl g11 (by decide +kernel) ?_
    refine aw_b (pc' := 46) (lv' := [(0, .ref a), (1, .int r1)]) (st' := [.int (-1 : Int32), .int (s7 1 (ix_ (11 : Int32)))]) [(45, .iconst (-1), 1, .int (-1 : Int32))] (by decide +kernel) rfl ?_
    refine aw_ic_eq (off := 18) 64 (by decide) (by decide +kernel) (fun hc => ?_) (fun hc => ?_)
    · have hm := (if_pos hc).symm.trans hm
      obtain rfl := Option.some.inj hm
      subst hQ
      exact aw_vret rfl (Nat.zero_le _) (Nat.zero_le _) (by decide +kernel) ⟨rfl, hs, h0⟩
    · have hm := (if_neg hc).symm.trans hm
      refine aw_b (pc' := 52) (lv' := [(0, .ref a), (1, .int r1)]) (st' := [.ref a, .ref a, .int r1]) [(49, .iload_n 1, 1, .null), (50, .aload_n 0, 1, .null), (51, .aload_n 0, 1, .null)] (by decide +kernel) rfl ?_
      refine aw_gl (v := .ref (a + 1)) a 0 h0 eo_O_0 fgX8_9 rfl (by decide +kernel) ?_
      refine aw_b (pc' := 57) (lv' := [(0, .ref a), (1, .int r1)]) (st' := [.int (16 : Int32), .ref (a + 1), .ref a, .int r1]) [(55, .bipush 16, 2, .int (16 : Int32))] (by decide +kernel) rfl ?_
      obtain ⟨g12, hm⟩ := gd_x hm
      refine aw_ial a 1 h0 rfl g12 (by decide +kernel) ?_
      obtain ⟨r13, e14, hm⟩ := bn_x hm
      refine aw_cv (rest := [.int r1]) (st1 := [.int r13, .int r1]) a 0 (kX8_boundOf e14 h0) rfl rfl ckX8_boundOf lkX8_360 h0 eo_O_0 ⟨_, _, rfl⟩ nkX8_boundOf rfl rfl rfl (Nat.le_of_ble_eq_true rfl) (Nat.zero_le _) (Nat.zero_le _) (by decide +kernel) (fun H15 z16 => ?_)
      have h0 := h0.kept0 z16
      have hs := hs.step0 z16
      refine aw_ic_gt (off := 4) 65 (by decide) (by decide +kernel) (fun hc => ?_) (fun hc => ?_)
      · have hm := (if_pos hc).symm.trans hm
        refine aw_b (pc' := 66) (lv' := [(0, .ref a), (1, .int r1)]) (st' := [.ref a]) [(65, .aload_n 0, 1, .null)] (by decide +kernel) rfl ?_
        refine aw_gl (v := .ref (a + 1)) a 0 h0 eo_O_0 fgX8_9 rfl (by decide +kernel) ?_
        refine aw_b (pc' := 71) (lv' := [(0, .ref a), (1, .int r1)]) (st' := [.int (17 : Int32), .ref (a + 1)]) [(69, .bipush 17, 2, .int (17 : Int32))] (by decide +kernel) rfl ?_
        obtain ⟨g17, hm⟩ := gd_x hm
        refine aw_ial a 1 h0 rfl g17 (by decide +kernel) ?_
        have J91 : ∀ (s_j91 : st_) (H_j91 : Heap), has_ E H_j91 a ly_O s_j91 → sm_ H H_j91 a 10 → fX8_judges_j91 s_j91 = some r → aw E mX8_judges Q 91 [(0, .ref a)] [] H_j91 0 0 := by
          intro s_j91 H_j91 h0 hs hm
          unfold fX8_judges_j91 at hm
          refine aw_b (pc' := 92) (lv' := [(0, .ref a)]) (st' := [.ref a]) [(91, .aload_n 0, 1, .null)] (by decide +kernel) rfl ?_
          refine aw_gl (v := .ref (a + 1)) a 0 h0 eo_O_0 fgX8_9 rfl (by decide +kernel) ?_
          refine aw_b (pc' := 98) (lv' := [(0, .ref a)]) (st' := [.int (17 : Int32), .ref (a + 1), .int (17 : Int32), .ref (a + 1)]) [(95, .bipush 17, 2, .int (17 : Int32)), (97, .dup2, 1, .null)] (by decide +kernel) rfl ?_
          obtain ⟨g18, hm⟩ := gd_x hm
          refine aw_ial a 1 h0 rfl g18 (by decide +kernel) ?_
          refine aw_b (pc' := 101) (lv' := [(0, .ref a)]) (st' := [.int ((s_j91 1 (ix_ (17 : Int32))) + (1 : Int32)), .int (17 : Int32), .ref (a + 1)]) [(99, .iconst 1, 1, .int (1 : Int32)), (100, .iadd, 1, .null)] (by decide +kernel) rfl ?_
          obtain ⟨g19, hm⟩ := gd_x hm
          obtain ⟨s20, e21, hm⟩ := bd_x hm
          refine aw_isl a 1 h0 rfl hf g19 e21 (by decide +kernel) (fun H22 h0 z23 => ?_)
          have hs := hs.step z23 (by omega) (by omega)
          obtain rfl := Option.some.inj hm
          subst hQ
          exact aw_vret rfl (Nat.zero_le _) (Nat.zero_le _) (by decide +kernel) ⟨rfl, hs, h0⟩
        refine aw_if_ne (off := 19) 91 (by decide) (by decide +kernel) (fun hc => ?_) (fun hc => ?_)
        · have hm := (if_neg hc).symm.trans hm
          refine aw_lv (lv' := [(0, .ref a)]) [0] rfl ?_
          exact J91 s7 H15 h0 hs hm
        · have hm := (if_pos hc).symm.trans hm
          refine aw_b (pc' := 76) (lv' := [(0, .ref a), (1, .int r1)]) (st' := [.ref a]) [(75, .aload_n 0, 1, .null)] (by decide +kernel) rfl ?_
          refine aw_gl (v := .ref (a + 1)) a 0 h0 eo_O_0 fgX8_9 rfl (by decide +kernel) ?_
          refine aw_b (pc' := 82) (lv' := [(0, .ref a), (1, .int r1)]) (st' := [.ref a, .int (19 : Int32), .ref (a + 1)]) [(79, .bipush 19, 2, .int (19 : Int32)), (81, .aload_n 0, 1, .null)] (by decide +kernel) rfl ?_
          refine aw_gl (v := .ref (a + 1)) a 0 h0 eo_O_0 fgX8_9 rfl (by decide +kernel) ?_
          refine aw_b (pc' := 87) (lv' := [(0, .ref a), (1, .int r1)]) (st' := [.int (16 : Int32), .ref (a + 1), .int (19 : Int32), .ref (a + 1)]) [(85, .bipush 16, 2, .int (16 : Int32))] (by decide +kernel) rfl ?_
          obtain ⟨g24, hm⟩ := gd_x hm
          refine aw_ial a 1 h0 rfl g24 (by decide +kernel) ?_
          refine aw_b (pc' := 90) (lv' := [(0, .ref a), (1, .int r1)]) (st' := [.int ((s7 1 (ix_ (16 : Int32))) - (1 : Int32)), .int (19 : Int32), .ref (a + 1)]) [(88, .iconst 1, 1, .int (1 : Int32)), (89, .isub, 1, .null)] (by decide +kernel) rfl ?_
          obtain ⟨g25, hm⟩ := gd_x hm
          obtain ⟨s26, e27, hm⟩ := bd_x hm
          refine aw_isl a 1 h0 rfl hf g25 e27 (by decide +kernel) (fun H28 h0 z29 => ?_)
          have hs := hs.step z29 (by omega) (by omega)
          refine aw_lv (lv' := [(0, .ref a)]) [0] rfl ?_
          exact J91 s26 H28 h0 hs hm
      · have hm := (if_neg hc).symm.trans hm
        obtain rfl := Option.some.inj hm
        subst hQ
        exact aw_vret rfl (Nat.zero_le _) (Nat.zero_le _) (by decide +kernel) ⟨rfl, hs, h0⟩
  refine aw_ic_ne (off := 7) 26 (by decide) (by decide +kernel) (fun hc => ?_) (fun hc => ?_)
  · have hm := (if_neg hc).symm.trans hm
    refine aw_b (pc' := 27) (lv' := [(1, .int r1), (0, .ref a)]) (st' := [.ref a, .int (18 : Int32), .ref (a + 1)]) [(26, .aload_n 0, 1, .null)] (by decide +kernel) rfl ?_
    refine aw_gl (v := .ref (a + 1)) a 0 h0 eo_O_0 fgX8_9 rfl (by decide +kernel) ?_
    refine aw_b (pc' := 32) (lv' := [(1, .int r1), (0, .ref a)]) (st' := [.int (18 : Int32), .ref (a + 1), .int (18 : Int32), .ref (a + 1)]) [(30, .bipush 18, 2, .int (18 : Int32))] (by decide +kernel) rfl ?_
    obtain ⟨g30, hm⟩ := gd_x hm
    refine aw_ial a 1 h0 rfl g30 (by decide +kernel) ?_
    refine aw_b (pc' := 34) (lv' := [(1, .int r1), (0, .ref a)]) (st' := [.int r1, .int (s 1 (ix_ (18 : Int32))), .int (18 : Int32), .ref (a + 1)]) [(33, .iload_n 1, 1, .null)] (by decide +kernel) rfl ?_
    refine aw_mx (rest := [.int (18 : Int32), .ref (a + 1)]) mtX8_305 rfl (Nat.le_of_ble_eq_true rfl) (Nat.zero_le _) (Nat.zero_le _) (by decide +kernel) ?_
    refine aw_lv (lv' := [(0, .ref a), (1, .int r1)]) [1, 0] rfl ?_
    exact J37 (if (s 1 (ix_ (18 : Int32))) < r1 then r1 else (s 1 (ix_ (18 : Int32)))) H3 h0 hs hm
  · have hm := (if_pos hc).symm.trans hm
    refine aw_b (pc' := 37) (lv' := [(1, .int r1), (0, .ref a)]) (st' := [.int r1, .int (18 : Int32), .ref (a + 1)]) [(22, .iload_n 1, 1, .null), (23, .goto 14, 3, .null)] (by decide +kernel) rfl ?_
    refine aw_lv (lv' := [(0, .ref a), (1, .int r1)]) [1, 0] rfl ?_
    exact J37 r1 H3 h0 hs hm
def mX8_swapAt : mt_ := (yX8_swapAt, cX8_swapAt, 2, some .int, [], { frames := 0, locals := 0, cells := 0, slots := 0 })
theorem ckX8_swapAt : cokS_ mX8_swapAt := ⟨⟨(uw_mem 1948 (by decide +kernel) (by decide +kernel)), (uw_mem 112 (by decide +kernel) (by decide +kernel)), by decide +kernel, by decide +kernel⟩, (uw_mem 1947 (by decide +kernel) (by decide +kernel))⟩
theorem nkX8_swapAt : nok_ mX8_swapAt 2 := by decide +kernel
def fX8_swapAt (i0 : Int32) (i1 : Int32) : Option (Int32) :=
  some (((12548 : Int32) + ((6 : Int32) * i0)) + i1)
set_option maxRecDepth 8000 in
theorem kX8_swapAt {E : ev_} {H : Heap} {i0 : Int32} {i1 : Int32} {r : Int32} (hm : fX8_swapAt i0 i1 = some r) : sp_ E mX8_swapAt [.int i0, .int i1] H (po1 (.inl (some (.int r))) (fun Hn => sm_ H Hn 0 0)) := by
  refine sp_of (by decide +kernel) rfl rfl ?_
  generalize hQ : po1 _ _ = Q
  have hs : sm_ H H 0 0 := sm_.rfl'
  unfold fX8_swapAt at hm
  refine aw_lv (lv' := [(0, .int i0), (1, .int i1)]) [0, 1] rfl ?_
  refine aw_b (pc' := 10) (lv' := [(0, .int i0), (1, .int i1)]) (st' := [.int (((12548 : Int32) + ((6 : Int32) * i0)) + i1)]) [(0, .sipush 12548, 3, .int (12548 : Int32)), (3, .bipush 6, 2, .int (6 : Int32)), (5, .iload_n 0, 1, .null), (6, .imul, 1, .null), (7, .iadd, 1, .null), (8, .iload_n 1, 1, .null), (9, .iadd, 1, .null)] (by decide +kernel) rfl ?_
  obtain rfl := Option.some.inj hm
  subst hQ
  exact aw_iret rfl (Nat.zero_le _) (Nat.zero_le _) (by decide +kernel) ⟨rfl, hs⟩
def mX8_rivalTakes : mt_ := (yX8_rivalTakes, cX8_rivalTakes, 1, some .int, [], { frames := 4, locals := 89, cells := 0, slots := 0 })
theorem ckX8_rivalTakes : cokV_ mX8_rivalTakes := ⟨⟨(uw_mem 2013 (by decide +kernel) (by decide +kernel)), (uw_mem 112 (by decide +kernel) (by decide +kernel)), by decide +kernel, by decide +kernel⟩, (uw_mem 2012 (by decide +kernel) (by decide +kernel)), (uw_mem 93 (by decide +kernel) (by decide +kernel))⟩
theorem nkX8_rivalTakes : nok_ mX8_rivalTakes 0 := by decide +kernel
def fX8_rivalTakes_j41 (s_j41 : st_) : Option (st_ × Int32) :=
  gd_ (ib_ (21 : Int32) 12584) <|
  gd_ (ib_ (22 : Int32) 12584) <|
  gd_ (ib_ (23 : Int32) 12584) <|
  bn_ (fX8_takenBy s_j41 (s_j41 1 (ix_ (21 : Int32))) (s_j41 1 (ix_ (22 : Int32))) (s_j41 1 (ix_ (23 : Int32)))) fun r6 =>
  gd_ (ib_ (25 : Int32) 12584) <|
  bd_ (pt_ s_j41 1 (ix_ (25 : Int32)) r6) fun s11 =>
  gd_ (ib_ (25 : Int32) 12584) <|
  some (s11, (s11 1 (ix_ (25 : Int32))))
def fX8_rivalTakes (s : st_) : Option (st_ × Int32) :=
  gd_ (ib_ (21 : Int32) 12584) <|
  if (s 1 (ix_ (21 : Int32))) = (-1 : Int32) then (some (s, (-1 : Int32)))
  else (gd_ (ib_ (21 : Int32) 12584) <|
  if (s 1 (ix_ (21 : Int32))) = (0 : Int32) then (gd_ (ib_ (23 : Int32) 12584) <|
  bn_ (fX8_drawn s (s 1 (ix_ (23 : Int32)))) fun r17 =>
  gd_ (ib_ (23 : Int32) 12584) <|
  bd_ (pt_ s 1 (ix_ (23 : Int32)) r17) fun s22 =>
  fX8_rivalTakes_j41 s22)
  else (fX8_rivalTakes_j41 s))
set_option maxRecDepth 8000 in
theorem kX8_rivalTakes {E : ev_} {H : Heap} {a : Nat} {s : st_} {r : st_ × Int32} (hm : fX8_rivalTakes s = some r) (h0 : has_ E H a ly_O s) (hf : ev_fr E a) : sp_ E mX8_rivalTakes [.ref a] H (po1 (.inl (some (.int r.2))) (fun Hn => sm_ H Hn a 10 ∧ has_ E Hn a ly_O r.1)) := by
  refine sp_of (by decide +kernel) rfl rfl ?_
  generalize hQ : po1 _ _ = Q
  have hs : sm_ H H a 10 := sm_.rfl'
  unfold fX8_rivalTakes at hm
  refine aw_lv (lv' := [(0, .ref a)]) [0] rfl ?_
  refine aw_b (pc' := 1) (lv' := [(0, .ref a)]) (st' := [.ref a]) [(0, .aload_n 0, 1, .null)] (by decide +kernel) rfl ?_
  refine aw_gl (v := .ref (a + 1)) a 0 h0 eo_O_0 fgX8_9 rfl (by decide +kernel) ?_
  refine aw_b (pc' := 6) (lv' := [(0, .ref a)]) (st' := [.int (21 : Int32), .ref (a + 1)]) [(4, .bipush 21, 2, .int (21 : Int32))] (by decide +kernel) rfl ?_
  obtain ⟨g1, hm⟩ := gd_x hm
  refine aw_ial a 1 h0 rfl g1 (by decide +kernel) ?_
  refine aw_b (pc' := 8) (lv' := [(0, .ref a)]) (st' := [.int (-1 : Int32), .int (s 1 (ix_ (21 : Int32)))]) [(7, .iconst (-1), 1, .int (-1 : Int32))] (by decide +kernel) rfl ?_
  refine aw_ic_ne (off := 5) 13 (by decide) (by decide +kernel) (fun hc => ?_) (fun hc => ?_)
  · have hm := (if_neg hc).symm.trans hm
    refine aw_b (pc' := 14) (lv' := [(0, .ref a)]) (st' := [.ref a]) [(13, .aload_n 0, 1, .null)] (by decide +kernel) rfl ?_
    refine aw_gl (v := .ref (a + 1)) a 0 h0 eo_O_0 fgX8_9 rfl (by decide +kernel) ?_
    refine aw_b (pc' := 19) (lv' := [(0, .ref a)]) (st' := [.int (21 : Int32), .ref (a + 1)]) [(17, .bipush 21, 2, .int (21 : Int32))] (by decide +kernel) rfl ?_
    obtain ⟨g2, hm⟩ := gd_x hm
    refine aw_ial a 1 h0 rfl g2 (by decide +kernel) ?_
    have J41 : ∀ (s_j41 : st_) (H_j41 : Heap), has_ E H_j41 a ly_O s_j41 → sm_ H H_j41 a 10 → fX8_rivalTakes_j41 s_j41 = some r → aw E mX8_rivalTakes Q 41 [(0, .ref a)] [] H_j41 0 0 := by
      intro s_j41 H_j41 h0 hs hm
      unfold fX8_rivalTakes_j41 at hm
      refine aw_b (pc' := 42) (lv' := [(0, .ref a)]) (st' := [.ref a]) [(41, .aload_n 0, 1, .null)] (by decide +kernel) rfl ?_
      refine aw_gl (v := .ref (a + 1)) a 0 h0 eo_O_0 fgX8_9 rfl (by decide +kernel) ?_
      refine aw_b (pc' := 49) (lv' := [(0, .ref a)]) (st' := [.ref a, .ref a, .int (25 : Int32), .ref (a + 1)]) [(45, .bipush 25, 2, .int (25 : Int32)), (47, .aload_n 0, 1, .null), (48, .aload_n 0, 1, .null)] (by decide +kernel) rfl ?_
      refine aw_gl (v := .ref (a + 1)) a 0 h0 eo_O_0 fgX8_9 rfl (by decide +kernel) ?_
      refine aw_b (pc' := 54) (lv' := [(0, .ref a)]) (st' := [.int (21 : Int32), .ref (a + 1), .ref a, .int (25 : Int32), .ref (a + 1)]) [(52, .bipush 21, 2, .int (21 : Int32))] (by decide +kernel) rfl ?_
      obtain ⟨g3, hm⟩ := gd_x hm
      refine aw_ial a 1 h0 rfl g3 (by decide +kernel) ?_
      refine aw_b (pc' := 56) (lv' := [(0, .ref a)]) (st' := [.ref a, .int (s_j41 1 (ix_ (21 : Int32))), .ref a, .int (25 : Int32), .ref (a + 1)]) [(55, .aload_n 0, 1, .null)] (by decide +kernel) rfl ?_
      refine aw_gl (v := .ref (a + 1)) a 0 h0 eo_O_0 fgX8_9 rfl (by decide +kernel) ?_
      refine aw_b (pc' := 61) (lv' := [(0, .ref a)]) (st' := [.int (22 : Int32), .ref (a + 1), .int (s_j41 1 (ix_ (21 : Int32))), .ref a, .int (25 : Int32), .ref (a + 1)]) [(59, .bipush 22, 2, .int (22 : Int32))] (by decide +kernel) rfl ?_
      obtain ⟨g4, hm⟩ := gd_x hm
      refine aw_ial a 1 h0 rfl g4 (by decide +kernel) ?_
      refine aw_b (pc' := 63) (lv' := [(0, .ref a)]) (st' := [.ref a, .int (s_j41 1 (ix_ (22 : Int32))), .int (s_j41 1 (ix_ (21 : Int32))), .ref a, .int (25 : Int32), .ref (a + 1)]) [(62, .aload_n 0, 1, .null)] (by decide +kernel) rfl ?_
      refine aw_gl (v := .ref (a + 1)) a 0 h0 eo_O_0 fgX8_9 rfl (by decide +kernel) ?_
      refine aw_b (pc' := 68) (lv' := [(0, .ref a)]) (st' := [.int (23 : Int32), .ref (a + 1), .int (s_j41 1 (ix_ (22 : Int32))), .int (s_j41 1 (ix_ (21 : Int32))), .ref a, .int (25 : Int32), .ref (a + 1)]) [(66, .bipush 23, 2, .int (23 : Int32))] (by decide +kernel) rfl ?_
      obtain ⟨g5, hm⟩ := gd_x hm
      refine aw_ial a 1 h0 rfl g5 (by decide +kernel) ?_
      obtain ⟨r6, e7, hm⟩ := bn_x hm
      refine aw_cv (rest := [.int (25 : Int32), .ref (a + 1)]) (st1 := [.int r6, .int (25 : Int32), .ref (a + 1)]) a 0 (kX8_takenBy e7 h0) rfl rfl ckX8_takenBy lkX8_325 h0 eo_O_0 ⟨_, _, rfl⟩ nkX8_takenBy rfl rfl rfl (Nat.le_of_ble_eq_true rfl) (Nat.zero_le _) (Nat.zero_le _) (by decide +kernel) (fun H8 z9 => ?_)
      have h0 := h0.kept0 z9
      have hs := hs.step0 z9
      obtain ⟨g10, hm⟩ := gd_x hm
      obtain ⟨s11, e12, hm⟩ := bd_x hm
      refine aw_isl a 1 h0 rfl hf g10 e12 (by decide +kernel) (fun H13 h0 z14 => ?_)
      have hs := hs.step z14 (by omega) (by omega)
      refine aw_b (pc' := 74) (lv' := [(0, .ref a)]) (st' := [.ref a]) [(73, .aload_n 0, 1, .null)] (by decide +kernel) rfl ?_
      refine aw_gl (v := .ref (a + 1)) a 0 h0 eo_O_0 fgX8_9 rfl (by decide +kernel) ?_
      refine aw_b (pc' := 79) (lv' := [(0, .ref a)]) (st' := [.int (25 : Int32), .ref (a + 1)]) [(77, .bipush 25, 2, .int (25 : Int32))] (by decide +kernel) rfl ?_
      obtain ⟨g15, hm⟩ := gd_x hm
      refine aw_ial a 1 h0 rfl g15 (by decide +kernel) ?_
      obtain rfl := Option.some.inj hm
      subst hQ
      exact aw_iret rfl (Nat.zero_le _) (Nat.zero_le _) (by decide +kernel) ⟨rfl, hs, h0⟩
    refine aw_if_ne (off := 21) 41 (by decide) (by decide +kernel) (fun hc => ?_) (fun hc => ?_)
    · have hm := (if_neg hc).symm.trans hm
      exact J41 s H h0 hs hm
    · have hm := (if_pos hc).symm.trans hm
      refine aw_b (pc' := 24) (lv' := [(0, .ref a)]) (st' := [.ref a]) [(23, .aload_n 0, 1, .null)] (by decide +kernel) rfl ?_
      refine aw_gl (v := .ref (a + 1)) a 0 h0 eo_O_0 fgX8_9 rfl (by decide +kernel) ?_
      refine aw_b (pc' := 31) (lv' := [(0, .ref a)]) (st' := [.ref a, .ref a, .int (23 : Int32), .ref (a + 1)]) [(27, .bipush 23, 2, .int (23 : Int32)), (29, .aload_n 0, 1, .null), (30, .aload_n 0, 1, .null)] (by decide +kernel) rfl ?_
      refine aw_gl (v := .ref (a + 1)) a 0 h0 eo_O_0 fgX8_9 rfl (by decide +kernel) ?_
      refine aw_b (pc' := 36) (lv' := [(0, .ref a)]) (st' := [.int (23 : Int32), .ref (a + 1), .ref a, .int (23 : Int32), .ref (a + 1)]) [(34, .bipush 23, 2, .int (23 : Int32))] (by decide +kernel) rfl ?_
      obtain ⟨g16, hm⟩ := gd_x hm
      refine aw_ial a 1 h0 rfl g16 (by decide +kernel) ?_
      obtain ⟨r17, e18, hm⟩ := bn_x hm
      refine aw_cv (rest := [.int (23 : Int32), .ref (a + 1)]) (st1 := [.int r17, .int (23 : Int32), .ref (a + 1)]) a 0 (kX8_drawn e18 h0) rfl rfl ckX8_drawn lkX8_322 h0 eo_O_0 ⟨_, _, rfl⟩ nkX8_drawn rfl rfl rfl (Nat.le_of_ble_eq_true rfl) (Nat.zero_le _) (Nat.zero_le _) (by decide +kernel) (fun H19 z20 => ?_)
      have h0 := h0.kept0 z20
      have hs := hs.step0 z20
      obtain ⟨g21, hm⟩ := gd_x hm
      obtain ⟨s22, e23, hm⟩ := bd_x hm
      refine aw_isl a 1 h0 rfl hf g21 e23 (by decide +kernel) (fun H24 h0 z25 => ?_)
      have hs := hs.step z25 (by omega) (by omega)
      exact J41 s22 H24 h0 hs hm
  · have hm := (if_pos hc).symm.trans hm
    refine aw_b (pc' := 12) (lv' := [(0, .ref a)]) (st' := [.int (-1 : Int32)]) [(11, .iconst (-1), 1, .int (-1 : Int32))] (by decide +kernel) rfl ?_
    obtain rfl := Option.some.inj hm
    subst hQ
    exact aw_iret rfl (Nat.zero_le _) (Nat.zero_le _) (by decide +kernel) ⟨rfl, hs, h0⟩
