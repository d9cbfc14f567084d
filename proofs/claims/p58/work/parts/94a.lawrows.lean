/-! the law's methods on an ArmDuel: printed by wip/p58/gen_law.py out of the listing -/
theorem kL_cellI {E : ev_} {H : Heap} {b n : Nat} {f : Nat → Int32} {i : Int32} (hs : scr_ E b n f) (hi : ib_ i 2000000000 = true) : sp_ E mL_cell [.ref b, .int i] H (po1 (.inl (some (.int (nI (cl_ n f (ix_ i)))))) (fun Hn => sm_ H Hn 0 0)) := by
  have h := ib_i32 (by decide) hi
  obtain ⟨j, hj, rfl⟩ := nI_of (Int32.not_lt.mpr h.1)
  have hj2 : j < 2000000000 := (nI_ltI hj (by decide)).mp h.2
  rw [ix_n (by omega)]
  exact kL_cell hs hj2
theorem sm_.w120 {H Hn : Heap} {a : Nat} (h : sm_ H Hn a 119) : sm_ H Hn a 120 := ⟨h.1, fun q hq ho => h.2 q hq (by omega)⟩
def mL_load : mt_ := (yL_load, cL_load, 5, some .int, [], { frames := 13, locals := 316, cells := 0, slots := 0 })
theorem ckL_load : cokS_ mL_load := ⟨⟨(uw_mem 569 (by decide +kernel) (by decide +kernel)), (uw_mem 28 (by decide +kernel) (by decide +kernel)), by decide +kernel, by decide +kernel⟩, (uw_mem 568 (by decide +kernel) (by decide +kernel))⟩
theorem nkL_load : nok_ mL_load 2 := by decide +kernel
theorem lkL_30 : Cond.methodLink RL 30 yX7_load ∈ uw_ := (uw_mem 623 (by decide +kernel) (by decide +kernel))
theorem lkL_14 : Cond.methodLink RL 14 yJ0_length_8abf5 ∈ uw_ := (uw_mem 570 (by decide +kernel) (by decide +kernel))
theorem lkL_20 : Cond.methodLink RL 20 yJ0_charAt_5068e ∈ uw_ := (uw_mem 580 (by decide +kernel) (by decide +kernel))
theorem lkL_24 : Cond.methodLink RL 24 yX7_append ∈ uw_ := (uw_mem 618 (by decide +kernel) (by decide +kernel))
def fL_load_x5_65 (s_x5_65 : st_) : Option (st_ × Int32) :=
  bn_ (gX7_load s_x5_65) fun r1 =>
  some (r1.1, r1.2)
def fL_load_k5 (x : st_) : Option (st_ × Int32) :=
  fL_load_x5_65 x
def fL_load_j59 (v4_b5 : Int32) (v2_j59 : Int64) (s_j59 : st_) : Option ((Int64 × Int32 × st_) ⊕ (st_)) :=
  some (.inl (v2_j59, (v4_b5 + (1 : Int32)), s_j59))
def fL_load_j51 (ww : List Int32) (v2_b5 : Int64) (v4_b5 : Int32) (s_b5 : st_) : Option ((Int64 × Int32 × st_) ⊕ (st_)) :=
  bn_ (gX7_append s_b5 ((v2_b5 <<< ((Int32.toInt64 (8 : Int32)) &&& 63)) ||| (Int32.toInt64 (ww.getD (ix_ v4_b5) 0)))) fun r10 =>
  fL_load_j59 v4_b5 (0 : Int64) r10.1
def fL_load_b5 (ww : List Int32) (v2_b5 : Int64) (v4_b5 : Int32) (s_b5 : st_) : Option ((Int64 × Int32 × st_) ⊕ (st_)) :=
  if (nI ww.length) ≤ v4_b5 then (some (.inr s_b5))
  else (gd_ (ib_ v4_b5 ww.length) <|
  if (v4_b5 - v4_b5 / (8 : Int32) * (8 : Int32)) = (7 : Int32) then (fL_load_j51 ww v2_b5 v4_b5 s_b5)
  else (if v4_b5 = ((nI ww.length) - (1 : Int32)) then (fL_load_j51 ww v2_b5 v4_b5 s_b5)
  else (fL_load_j59 v4_b5 ((v2_b5 <<< ((Int32.toInt64 (8 : Int32)) &&& 63)) ||| (Int32.toInt64 (ww.getD (ix_ v4_b5) 0))) s_b5)))
def fL_load_l5 (ww : List Int32) : Nat → (Int64 × Int32 × st_) → Option (st_) :=
  it_ (fun v => fL_load_b5 ww v.1 v.2.1 v.2.2)
def fL_load (s : st_) (ww : List Int32) : Option (st_ × Int32) :=
  bn_ (fL_load_l5 ww FU_ ((0 : Int64), (0 : Int32), s)) (fL_load_k5)
set_option maxRecDepth 100000 in
theorem kL_load {E : ev_} {H : Heap} {a : Nat} {tq : Nat} {P : Nat → Prop} {s : st_} {ww : List Int32} {r : st_ × Int32} (hm : fL_load s ww = some r) (h0 : has_ E H a ly_M s) (ht : tt_ E H tq ww P) (hP : ∀ x, P x → x < a ∨ a + 119 ≤ x) (hf : ev_fr E a) : sp_ E mL_load [.ref a, .ref tq] H (po1 (.inl (some (.int r.2))) (fun Hn => sm_ H Hn a 119 ∧ has_ E Hn a ly_M r.1)) := by
  refine sp_of (by decide +kernel) rfl rfl ?_
  generalize hQ : po1 _ _ = Q
  have hs : sm_ H H a 119 := sm_.rfl'
  unfold fL_load at hm
  refine aw_lv (lv' := [(0, .ref a), (1, .ref tq)]) [0, 1] rfl ?_
  refine aw_b (pc' := 5) (lv' := [(4, .int (0 : Int32)), (2, .long (0 : Int64)), (0, .ref a), (1, .ref tq)]) (st' := []) [(0, .lconst 0, 1, .long (0 : Int64)), (1, .lstore_n 2, 1, .null), (2, .iconst 0, 1, .int (0 : Int32)), (3, .istore 4, 2, .null)] (by decide +kernel) rfl ?_
  obtain ⟨x5, hx5, hr5⟩ := bn_x hm
  have X5_65 : ∀ (s_x5_65 : st_) (H_x5_65 : Heap), has_ E H_x5_65 a ly_M s_x5_65 → sm_ H H_x5_65 a 119 → fL_load_x5_65 s_x5_65 = some r → aw E mL_load Q 65 [(0, .ref a)] [] H_x5_65 0 0 := by
    intro s_x5_65 H_x5_65 h0 hs hm
    unfold fL_load_x5_65 at hm
    refine aw_b (pc' := 66) (lv' := [(0, .ref a)]) (st' := [.ref a]) [(65, .aload_n 0, 1, .null)] (by decide +kernel) rfl ?_
    obtain ⟨r1, e2, hm⟩ := bn_x hm
    refine aw_cv (rest := []) (st1 := [.int r1.2]) a 0 (kX7_load e2 h0 hf) rfl rfl ckX7_load lkL_30 h0 eo_M_0 ⟨_, _, rfl⟩ nkX7_load rfl rfl rfl (Nat.le_of_ble_eq_true rfl) (Nat.zero_le _) (Nat.zero_le _) (by decide +kernel) (fun H3 z4 => ?_)
    obtain ⟨z4, hn⟩ := z4
    have h0 := hn
    have hs := hs.step z4 (by omega) (by omega)
    obtain rfl := Option.some.inj hm
    subst hQ
    exact aw_iret rfl (Nat.zero_le _) (Nat.zero_le _) (by decide +kernel) ⟨rfl, hs, h0⟩
  have L5 : ∀ (fu : Nat) (v2_b5 : Int64) (v4_b5 : Int32) (s_b5 : st_) (H_b5 : Heap), has_ E H_b5 a ly_M s_b5 → sm_ H H_b5 a 119 → fL_load_l5 ww fu (v2_b5, v4_b5, s_b5) = some x5 → aw E mL_load Q 5 [(0, .ref a), (1, .ref tq), (2, .long v2_b5), (4, .int v4_b5)] [] H_b5 0 0 := by
    intro fu
    induction fu with
    | zero =>
      intro v2_b5 v4_b5 s_b5 H_b5 h0 hs hm
      exact (it_0 hm).elim
    | succ fu ih5 =>
      intro v2_b5 v4_b5 s_b5 H_b5 h0 hs hm
      obtain ⟨y5, hm, hk5⟩ := it_s hm
      have hm : fL_load_b5 ww v2_b5 v4_b5 s_b5 = some y5 := hm
      unfold fL_load_b5 at hm
      refine aw_b (pc' := 8) (lv' := [(0, .ref a), (1, .ref tq), (2, .long v2_b5), (4, .int v4_b5)]) (st' := [.ref tq, .int v4_b5]) [(5, .iload 4, 2, .null), (7, .aload_n 1, 1, .null)] (by decide +kernel) rfl ?_
      have ht1 := ht.keep (H1 := H_b5) (fun x hx hpx => hs.2 x hx (hP x hpx))
      refine aw_crt (rest := [.int v4_b5]) (st1 := [.int (nI ww.length), .int v4_b5]) ht1 rfl (kJ0l ht1) rfl rfl ck_mJ0l lkL_14 nk_mJ0l rfl rfl rfl (Nat.le_of_ble_eq_true rfl) (Nat.zero_le _) (Nat.zero_le _) (by decide +kernel) (fun H5 z6 => ?_)
      have h0 := h0.kept0 z6
      have hs := hs.step0 z6
      refine aw_ic_ge (off := 54) 65 (by decide) (by decide +kernel) (fun hc => ?_) (fun hc => ?_)
      · have hm := (if_pos hc).symm.trans hm
        cases hm
        refine aw_lv (lv' := [(0, .ref a)]) [0] rfl ?_
        exact X5_65 s_b5 H5 h0 hs ((congrArg fL_load_k5 (show (s_b5) = x5 from hk5)).trans hr5)
      · have hm := (if_neg hc).symm.trans hm
        refine aw_b (pc' := 21) (lv' := [(0, .ref a), (1, .ref tq), (2, .long v2_b5), (4, .int v4_b5)]) (st' := [.int v4_b5, .ref tq, .long (v2_b5 <<< ((Int32.toInt64 (8 : Int32)) &&& 63))]) [(14, .lload_n 2, 1, .null), (15, .bipush 8, 2, .int (8 : Int32)), (17, .lshl, 1, .null), (18, .aload_n 1, 1, .null), (19, .iload 4, 2, .null)] (by decide +kernel) rfl ?_
        obtain ⟨g9, hm⟩ := gd_x hm
        have ht1 := ht.keep (H1 := H5) (fun x hx hpx => hs.2 x hx (hP x hpx))
        refine aw_crt (rest := [.long (v2_b5 <<< ((Int32.toInt64 (8 : Int32)) &&& 63))]) (st1 := [.int (ww.getD (ix_ v4_b5) 0), .long (v2_b5 <<< ((Int32.toInt64 (8 : Int32)) &&& 63))]) ht1 rfl (kJ0h ht1 g9) rfl rfl ck_mJ0h lkL_20 nk_mJ0h rfl rfl rfl (Nat.le_of_ble_eq_true rfl) (Nat.zero_le _) (Nat.zero_le _) (by decide +kernel) (fun H7 z8 => ?_)
        have h0 := h0.kept0 z8
        have hs := hs.step0 z8
        refine aw_b (pc' := 31) (lv' := [(2, .long ((v2_b5 <<< ((Int32.toInt64 (8 : Int32)) &&& 63)) ||| (Int32.toInt64 (ww.getD (ix_ v4_b5) 0)))), (0, .ref a), (1, .ref tq), (4, .int v4_b5)]) (st' := [.int (8 : Int32), .int v4_b5]) [(24, .i2l, 1, .null), (25, .lor, 1, .null), (26, .lstore_n 2, 1, .null), (27, .iload 4, 2, .null), (29, .bipush 8, 2, .int (8 : Int32))] (by decide +kernel) rfl ?_
        refine aw_irem (by decide) (by decide +kernel) ?_
        refine aw_b (pc' := 34) (lv' := [(2, .long ((v2_b5 <<< ((Int32.toInt64 (8 : Int32)) &&& 63)) ||| (Int32.toInt64 (ww.getD (ix_ v4_b5) 0)))), (0, .ref a), (1, .ref tq), (4, .int v4_b5)]) (st' := [.int (7 : Int32), .int (v4_b5 - v4_b5 / (8 : Int32) * (8 : Int32))]) [(32, .bipush 7, 2, .int (7 : Int32))] (by decide +kernel) rfl ?_
        have J59 : ∀ (v2_j59 : Int64) (s_j59 : st_) (H_j59 : Heap), has_ E H_j59 a ly_M s_j59 → sm_ H H_j59 a 119 → fL_load_j59 v4_b5 v2_j59 s_j59 = some y5 → aw E mL_load Q 59 [(0, .ref a), (1, .ref tq), (2, .long v2_j59), (4, .int v4_b5)] [] H_j59 0 0 := by
          intro v2_j59 s_j59 H_j59 h0 hs hm
          unfold fL_load_j59 at hm
          refine aw_b (pc' := 5) (lv' := [(4, .int (v4_b5 + (1 : Int32))), (0, .ref a), (1, .ref tq), (2, .long v2_j59)]) (st' := []) [(59, .iinc 4 1, 3, .int (1 : Int32)), (62, .goto (-57), 3, .null)] (by decide +kernel) rfl ?_
          cases hm
          refine aw_lv (lv' := [(0, .ref a), (1, .ref tq), (2, .long v2_j59), (4, .int (v4_b5 + (1 : Int32)))]) [1, 2, 3, 0] rfl ?_
          exact ih5 v2_j59 (v4_b5 + (1 : Int32)) s_j59 H_j59 h0 hs hk5
        have J51 : ∀ (H_j51 : Heap), has_ E H_j51 a ly_M s_b5 → sm_ H H_j51 a 119 → fL_load_j51 ww v2_b5 v4_b5 s_b5 = some y5 → aw E mL_load Q 51 [(0, .ref a), (1, .ref tq), (2, .long ((v2_b5 <<< ((Int32.toInt64 (8 : Int32)) &&& 63)) ||| (Int32.toInt64 (ww.getD (ix_ v4_b5) 0)))), (4, .int v4_b5)] [] H_j51 0 0 := by
          intro H_j51 h0 hs hm
          unfold fL_load_j51 at hm
          refine aw_b (pc' := 53) (lv' := [(0, .ref a), (1, .ref tq), (2, .long ((v2_b5 <<< ((Int32.toInt64 (8 : Int32)) &&& 63)) ||| (Int32.toInt64 (ww.getD (ix_ v4_b5) 0)))), (4, .int v4_b5)]) (st' := [.long ((v2_b5 <<< ((Int32.toInt64 (8 : Int32)) &&& 63)) ||| (Int32.toInt64 (ww.getD (ix_ v4_b5) 0))), .ref a]) [(51, .aload_n 0, 1, .null), (52, .lload_n 2, 1, .null)] (by decide +kernel) rfl ?_
          obtain ⟨r10, e11, hm⟩ := bn_x hm
          refine aw_cv (rest := []) (st1 := [.int r10.2]) a 0 (kX7_append e11 h0 hf) rfl rfl ckX7_append lkL_24 h0 eo_M_0 ⟨_, _, rfl⟩ nkX7_append rfl rfl rfl (Nat.le_of_ble_eq_true rfl) (Nat.zero_le _) (Nat.zero_le _) (by decide +kernel) (fun H12 z13 => ?_)
          obtain ⟨z13, hn⟩ := z13
          have h0 := hn
          have hs := hs.step z13 (by omega) (by omega)
          refine aw_b (pc' := 59) (lv' := [(2, .long (0 : Int64)), (0, .ref a), (1, .ref tq), (4, .int v4_b5)]) (st' := []) [(56, .pop, 1, .null), (57, .lconst 0, 1, .long (0 : Int64)), (58, .lstore_n 2, 1, .null)] (by decide +kernel) rfl ?_
          refine aw_lv (lv' := [(0, .ref a), (1, .ref tq), (2, .long (0 : Int64)), (4, .int v4_b5)]) [1, 2, 0, 3] rfl ?_
          exact J59 (0 : Int64) r10.1 H12 h0 hs hm
        refine aw_ic_eq (off := 17) 51 (by decide) (by decide +kernel) (fun hc => ?_) (fun hc => ?_)
        · have hm := (if_pos hc).symm.trans hm
          refine aw_lv (lv' := [(0, .ref a), (1, .ref tq), (2, .long ((v2_b5 <<< ((Int32.toInt64 (8 : Int32)) &&& 63)) ||| (Int32.toInt64 (ww.getD (ix_ v4_b5) 0)))), (4, .int v4_b5)]) [1, 2, 0, 3] rfl ?_
          exact J51 H7 h0 hs hm
        · have hm := (if_neg hc).symm.trans hm
          refine aw_b (pc' := 40) (lv' := [(2, .long ((v2_b5 <<< ((Int32.toInt64 (8 : Int32)) &&& 63)) ||| (Int32.toInt64 (ww.getD (ix_ v4_b5) 0)))), (0, .ref a), (1, .ref tq), (4, .int v4_b5)]) (st' := [.ref tq, .int v4_b5]) [(37, .iload 4, 2, .null), (39, .aload_n 1, 1, .null)] (by decide +kernel) rfl ?_
          have ht1 := ht.keep (H1 := H7) (fun x hx hpx => hs.2 x hx (hP x hpx))
          refine aw_crt (rest := [.int v4_b5]) (st1 := [.int (nI ww.length), .int v4_b5]) ht1 rfl (kJ0l ht1) rfl rfl ck_mJ0l lkL_14 nk_mJ0l rfl rfl rfl (Nat.le_of_ble_eq_true rfl) (Nat.zero_le _) (Nat.zero_le _) (by decide +kernel) (fun H14 z15 => ?_)
          have h0 := h0.kept0 z15
          have hs := hs.step0 z15
          refine aw_b (pc' := 45) (lv' := [(2, .long ((v2_b5 <<< ((Int32.toInt64 (8 : Int32)) &&& 63)) ||| (Int32.toInt64 (ww.getD (ix_ v4_b5) 0)))), (0, .ref a), (1, .ref tq), (4, .int v4_b5)]) (st' := [.int ((nI ww.length) - (1 : Int32)), .int v4_b5]) [(43, .iconst 1, 1, .int (1 : Int32)), (44, .isub, 1, .null)] (by decide +kernel) rfl ?_
          refine aw_ic_eq (off := 6) 51 (by decide) (by decide +kernel) (fun hc => ?_) (fun hc => ?_)
          · have hm := (if_pos hc).symm.trans hm
            refine aw_lv (lv' := [(0, .ref a), (1, .ref tq), (2, .long ((v2_b5 <<< ((Int32.toInt64 (8 : Int32)) &&& 63)) ||| (Int32.toInt64 (ww.getD (ix_ v4_b5) 0)))), (4, .int v4_b5)]) [1, 2, 0, 3] rfl ?_
            exact J51 H14 h0 hs hm
          · have hm := (if_neg hc).symm.trans hm
            refine aw_b (pc' := 59) (lv' := [(2, .long ((v2_b5 <<< ((Int32.toInt64 (8 : Int32)) &&& 63)) ||| (Int32.toInt64 (ww.getD (ix_ v4_b5) 0)))), (0, .ref a), (1, .ref tq), (4, .int v4_b5)]) (st' := []) [(48, .goto 11, 3, .null)] (by decide +kernel) rfl ?_
            refine aw_lv (lv' := [(0, .ref a), (1, .ref tq), (2, .long ((v2_b5 <<< ((Int32.toInt64 (8 : Int32)) &&& 63)) ||| (Int32.toInt64 (ww.getD (ix_ v4_b5) 0)))), (4, .int v4_b5)]) [1, 2, 0, 3] rfl ?_
            exact J59 ((v2_b5 <<< ((Int32.toInt64 (8 : Int32)) &&& 63)) ||| (Int32.toInt64 (ww.getD (ix_ v4_b5) 0))) s_b5 H14 h0 hs hm
  refine aw_lv (lv' := [(0, .ref a), (1, .ref tq), (2, .long (0 : Int64)), (4, .int (0 : Int32))]) [2, 3, 1, 0] rfl ?_
  exact L5 FU_ (0 : Int64) (0 : Int32) s H h0 hs hx5
def mL_step : mt_ := (yL_step, cL_step, 5, none, [], { frames := 7, locals := 167, cells := 0, slots := 0 })
theorem ckL_step : cokS_ mL_step := ⟨⟨(uw_mem 973 (by decide +kernel) (by decide +kernel)), (uw_mem 28 (by decide +kernel) (by decide +kernel)), by decide +kernel, by decide +kernel⟩, (uw_mem 972 (by decide +kernel) (by decide +kernel))⟩
theorem nkL_step : nok_ mL_step 4 := by decide +kernel
theorem lkL_52 : Cond.methodLink RL 52 yL_cell ∈ uw_ := (uw_mem 560 (by decide +kernel) (by decide +kernel))
theorem lkL_111 : Cond.methodLink RL 111 yX7_setting ∈ uw_ := (uw_mem 490 (by decide +kernel) (by decide +kernel))
theorem lkL_114 : Cond.methodLink RL 114 yX7_request ∈ uw_ := (uw_mem 974 (by decide +kernel) (by decide +kernel))
theorem lkL_117 : Cond.methodLink RL 117 yX7_setFoe ∈ uw_ := (uw_mem 1002 (by decide +kernel) (by decide +kernel))
theorem lkL_120 : Cond.methodLink RL 120 yX7_setMaster ∈ uw_ := (uw_mem 1006 (by decide +kernel) (by decide +kernel))
theorem lkL_124 : Cond.methodLink RL 124 yX7_setEta ∈ uw_ := (uw_mem 1035 (by decide +kernel) (by decide +kernel))
theorem lkL_127 : Cond.methodLink RL 127 yX7_addAsk ∈ uw_ := (uw_mem 1039 (by decide +kernel) (by decide +kernel))
theorem lkL_130 : Cond.methodLink RL 130 yX7_setBudget ∈ uw_ := (uw_mem 1044 (by decide +kernel) (by decide +kernel))
theorem lkL_133 : Cond.methodLink RL 133 yX7_run ∈ uw_ := (uw_mem 1052 (by decide +kernel) (by decide +kernel))
def fL_step (s : st_) (nn : Nat) (ff : Nat → Int32) (i0 : Int32) (i1 : Int32) : Option (st_) :=
  gd_ (ib_ (i0 + (1 : Int32)) 2000000000) <|
  gd_ (ib_ i0 2000000000) <|
  if ((nI (cl_ nn ff (ix_ i0))) - (nI (cl_ nn ff (ix_ i0))) / (9 : Int32) * (9 : Int32)) = (0 : Int32) then (bn_ (gX7_setting s (0 : Int32)) fun r7 =>
  gd_ (nz_ r7) <|
  bn_ (gX7_request s ((nI (cl_ nn ff (ix_ (i0 + (1 : Int32))))) - (nI (cl_ nn ff (ix_ (i0 + (1 : Int32))))) / r7 * r7)) fun r12 =>
  some r12.1)
  else (if ((nI (cl_ nn ff (ix_ i0))) - (nI (cl_ nn ff (ix_ i0))) / (9 : Int32) * (9 : Int32)) = (1 : Int32) then (bn_ (gX7_setting s (0 : Int32)) fun r16 =>
  gd_ (nz_ r16) <|
  bn_ (gX7_request s ((nI (cl_ nn ff (ix_ (i0 + (1 : Int32))))) - (nI (cl_ nn ff (ix_ (i0 + (1 : Int32))))) / r16 * r16)) fun r21 =>
  some r21.1)
  else (if ((nI (cl_ nn ff (ix_ i0))) - (nI (cl_ nn ff (ix_ i0))) / (9 : Int32) * (9 : Int32)) = (2 : Int32) then (bn_ (gX7_setFoe s ((nI (cl_ nn ff (ix_ (i0 + (1 : Int32))))) - (nI (cl_ nn ff (ix_ (i0 + (1 : Int32))))) / (6 : Int32) * (6 : Int32))) fun r25 =>
  some r25.1)
  else (if ((nI (cl_ nn ff (ix_ i0))) - (nI (cl_ nn ff (ix_ i0))) / (9 : Int32) * (9 : Int32)) = (3 : Int32) then (gd_ (nz_ i1) <|
  bn_ (gX7_setMaster s ((nI (cl_ nn ff (ix_ (i0 + (1 : Int32))))) - (nI (cl_ nn ff (ix_ (i0 + (1 : Int32))))) / (3 : Int32) * (3 : Int32)) ((nI (cl_ nn ff (ix_ (i0 + (1 : Int32))))) - (nI (cl_ nn ff (ix_ (i0 + (1 : Int32))))) / i1 * i1)) fun r30 =>
  some r30.1)
  else (if ((nI (cl_ nn ff (ix_ i0))) - (nI (cl_ nn ff (ix_ i0))) / (9 : Int32) * (9 : Int32)) = (4 : Int32) then (bn_ (gX7_setEta s ((1 : Int32) + ((nI (cl_ nn ff (ix_ (i0 + (1 : Int32))))) - (nI (cl_ nn ff (ix_ (i0 + (1 : Int32))))) / (500 : Int32) * (500 : Int32)))) fun r34 =>
  some r34.1)
  else (if ((nI (cl_ nn ff (ix_ i0))) - (nI (cl_ nn ff (ix_ i0))) / (9 : Int32) * (9 : Int32)) = (5 : Int32) then (bn_ (gX7_setting s (0 : Int32)) fun r38 =>
  gd_ (nz_ r38) <|
  bn_ (gX7_addAsk s ((nI (cl_ nn ff (ix_ (i0 + (1 : Int32))))) - (nI (cl_ nn ff (ix_ (i0 + (1 : Int32))))) / r38 * r38)) fun r43 =>
  some r43.1)
  else (if ((nI (cl_ nn ff (ix_ i0))) - (nI (cl_ nn ff (ix_ i0))) / (9 : Int32) * (9 : Int32)) = (6 : Int32) then (bn_ (gX7_setBudget s (((nI (cl_ nn ff (ix_ (i0 + (1 : Int32))))) - (nI (cl_ nn ff (ix_ (i0 + (1 : Int32))))) / (9 : Int32) * (9 : Int32)) - (1 : Int32))) fun r47 =>
  some r47.1)
  else (bn_ (gX7_run s ((1 : Int32) + ((nI (cl_ nn ff (ix_ (i0 + (1 : Int32))))) - (nI (cl_ nn ff (ix_ (i0 + (1 : Int32))))) / (9 : Int32) * (9 : Int32)))) fun r51 =>
  some r51.1)))))))
set_option maxRecDepth 100000 in
theorem kL_step {E : ev_} {H : Heap} {a : Nat} {sc : Nat} {s : st_} {nn : Nat} {ff : Nat → Int32} {i0 : Int32} {i1 : Int32} {r : st_} (hm : fL_step s nn ff i0 i1 = some r) (h0 : has_ E H a ly_M s) (hsc : scr_ E sc nn ff) (hf : ev_fr E a) : sp_ E mL_step [.ref a, .ref sc, .int i0, .int i1] H (po1 (.inl (none)) (fun Hn => sm_ H Hn a 119 ∧ has_ E Hn a ly_M r)) := by
  refine sp_of (by decide +kernel) rfl rfl ?_
  generalize hQ : po1 _ _ = Q
  have hs : sm_ H H a 119 := sm_.rfl'
  unfold fL_step at hm
  refine aw_lv (lv' := [(0, .ref a), (1, .ref sc), (2, .int i0), (3, .int i1)]) [0, 1, 2, 3] rfl ?_
  refine aw_b (pc' := 4) (lv' := [(0, .ref a), (1, .ref sc), (2, .int i0), (3, .int i1)]) (st' := [.int (i0 + (1 : Int32)), .ref sc]) [(0, .aload_n 1, 1, .null), (1, .iload_n 2, 1, .null), (2, .iconst 1, 1, .int (1 : Int32)), (3, .iadd, 1, .null)] (by decide +kernel) rfl ?_
  obtain ⟨g1, hm⟩ := gd_x hm
  refine aw_cs (rest := []) (st1 := [.int (nI (cl_ nn ff (ix_ (i0 + (1 : Int32)))))]) (kL_cellI hsc g1) rfl rfl ck_mL_cell lkL_52 nk_mL_cell rfl rfl rfl (Nat.le_of_ble_eq_true rfl) (Nat.zero_le _) (Nat.zero_le _) (by decide +kernel) (fun H2 z3 => ?_)
  have h0 := h0.kept0 z3
  have hs := hs.step0 z3
  refine aw_b (pc' := 11) (lv' := [(4, .int (nI (cl_ nn ff (ix_ (i0 + (1 : Int32)))))), (0, .ref a), (1, .ref sc), (2, .int i0), (3, .int i1)]) (st' := [.int i0, .ref sc]) [(7, .istore 4, 2, .null), (9, .aload_n 1, 1, .null), (10, .iload_n 2, 1, .null)] (by decide +kernel) rfl ?_
  obtain ⟨g4, hm⟩ := gd_x hm
  refine aw_cs (rest := []) (st1 := [.int (nI (cl_ nn ff (ix_ i0)))]) (kL_cellI hsc g4) rfl rfl ck_mL_cell lkL_52 nk_mL_cell rfl rfl rfl (Nat.le_of_ble_eq_true rfl) (Nat.zero_le _) (Nat.zero_le _) (by decide +kernel) (fun H5 z6 => ?_)
  have h0 := h0.kept0 z6
  have hs := hs.step0 z6
  refine aw_b (pc' := 16) (lv' := [(4, .int (nI (cl_ nn ff (ix_ (i0 + (1 : Int32)))))), (0, .ref a), (1, .ref sc), (2, .int i0), (3, .int i1)]) (st' := [.int (9 : Int32), .int (nI (cl_ nn ff (ix_ i0)))]) [(14, .bipush 9, 2, .int (9 : Int32))] (by decide +kernel) rfl ?_
  refine aw_irem (by decide) (by decide +kernel) ?_
  refine aw_ts [((0 : Int32), 60), ((1 : Int32), 60), ((2 : Int32), 76), ((3 : Int32), 89), ((4 : Int32), 105), ((5 : Int32), 121), ((6 : Int32), 137)] 152 (by decide +kernel) ?_
  refine aw_tg (fun hc => ?_) (fun hc => ?_)
  · have hm := (if_pos hc).symm.trans hm
    refine aw_b (pc' := 65) (lv' := [(4, .int (nI (cl_ nn ff (ix_ (i0 + (1 : Int32)))))), (0, .ref a), (1, .ref sc), (2, .int i0), (3, .int i1)]) (st' := [.int (0 : Int32), .ref a, .int (nI (cl_ nn ff (ix_ (i0 + (1 : Int32))))), .ref a]) [(60, .aload_n 0, 1, .null), (61, .iload 4, 2, .null), (63, .aload_n 0, 1, .null), (64, .iconst 0, 1, .int (0 : Int32))] (by decide +kernel) rfl ?_
    obtain ⟨r7, e8, hm⟩ := bn_x hm
    refine aw_cv (rest := [.int (nI (cl_ nn ff (ix_ (i0 + (1 : Int32))))), .ref a]) (st1 := [.int r7, .int (nI (cl_ nn ff (ix_ (i0 + (1 : Int32))))), .ref a]) a 0 (kX7_setting e8 h0) rfl rfl ckX7_setting lkL_111 h0 eo_M_0 ⟨_, _, rfl⟩ nkX7_setting rfl rfl rfl (Nat.le_of_ble_eq_true rfl) (Nat.zero_le _) (Nat.zero_le _) (by decide +kernel) (fun H9 z10 => ?_)
    have h0 := h0.kept0 z10
    have hs := hs.step0 z10
    obtain ⟨g11, hm⟩ := gd_x hm
    refine aw_irem (nz_x g11) (by decide +kernel) ?_
    obtain ⟨r12, e13, hm⟩ := bn_x hm
    refine aw_cv (rest := []) (st1 := [.int r12.2]) a 0 (kX7_request e13 h0 hf) rfl rfl ckX7_request lkL_114 h0 eo_M_0 ⟨_, _, rfl⟩ nkX7_request rfl rfl rfl (Nat.le_of_ble_eq_true rfl) (Nat.zero_le _) (Nat.zero_le _) (by decide +kernel) (fun H14 z15 => ?_)
    obtain ⟨z15, hn⟩ := z15
    have h0 := hn
    have hs := hs.step z15 (by omega) (by omega)
    refine aw_b (pc' := 164) (lv' := [(4, .int (nI (cl_ nn ff (ix_ (i0 + (1 : Int32)))))), (0, .ref a), (1, .ref sc), (2, .int i0), (3, .int i1)]) (st' := []) [(72, .pop, 1, .null), (73, .goto 91, 3, .null)] (by decide +kernel) rfl ?_
    obtain rfl := Option.some.inj hm
    subst hQ
    exact aw_vret rfl (Nat.zero_le _) (Nat.zero_le _) (by decide +kernel) ⟨rfl, hs, h0⟩
  · have hm := (if_neg hc).symm.trans hm
    refine aw_tg (fun hc => ?_) (fun hc => ?_)
    · have hm := (if_pos hc).symm.trans hm
      refine aw_b (pc' := 65) (lv' := [(4, .int (nI (cl_ nn ff (ix_ (i0 + (1 : Int32)))))), (0, .ref a), (1, .ref sc), (2, .int i0), (3, .int i1)]) (st' := [.int (0 : Int32), .ref a, .int (nI (cl_ nn ff (ix_ (i0 + (1 : Int32))))), .ref a]) [(60, .aload_n 0, 1, .null), (61, .iload 4, 2, .null), (63, .aload_n 0, 1, .null), (64, .iconst 0, 1, .int (0 : Int32))] (by decide +kernel) rfl ?_
      obtain ⟨r16, e17, hm⟩ := bn_x hm
      refine aw_cv (rest := [.int (nI (cl_ nn ff (ix_ (i0 + (1 : Int32))))), .ref a]) (st1 := [.int r16, .int (nI (cl_ nn ff (ix_ (i0 + (1 : Int32))))), .ref a]) a 0 (kX7_setting e17 h0) rfl rfl ckX7_setting lkL_111 h0 eo_M_0 ⟨_, _, rfl⟩ nkX7_setting rfl rfl rfl (Nat.le_of_ble_eq_true rfl) (Nat.zero_le _) (Nat.zero_le _) (by decide +kernel) (fun H18 z19 => ?_)
      have h0 := h0.kept0 z19
      have hs := hs.step0 z19
      obtain ⟨g20, hm⟩ := gd_x hm
      refine aw_irem (nz_x g20) (by decide +kernel) ?_
      obtain ⟨r21, e22, hm⟩ := bn_x hm
      refine aw_cv (rest := []) (st1 := [.int r21.2]) a 0 (kX7_request e22 h0 hf) rfl rfl ckX7_request lkL_114 h0 eo_M_0 ⟨_, _, rfl⟩ nkX7_request rfl rfl rfl (Nat.le_of_ble_eq_true rfl) (Nat.zero_le _) (Nat.zero_le _) (by decide +kernel) (fun H23 z24 => ?_)
      obtain ⟨z24, hn⟩ := z24
      have h0 := hn
      have hs := hs.step z24 (by omega) (by omega)
      refine aw_b (pc' := 164) (lv' := [(4, .int (nI (cl_ nn ff (ix_ (i0 + (1 : Int32)))))), (0, .ref a), (1, .ref sc), (2, .int i0), (3, .int i1)]) (st' := []) [(72, .pop, 1, .null), (73, .goto 91, 3, .null)] (by decide +kernel) rfl ?_
      obtain rfl := Option.some.inj hm
      subst hQ
      exact aw_vret rfl (Nat.zero_le _) (Nat.zero_le _) (by decide +kernel) ⟨rfl, hs, h0⟩
    · have hm := (if_neg hc).symm.trans hm
      refine aw_tg (fun hc => ?_) (fun hc => ?_)
      · have hm := (if_pos hc).symm.trans hm
        refine aw_b (pc' := 81) (lv' := [(4, .int (nI (cl_ nn ff (ix_ (i0 + (1 : Int32)))))), (0, .ref a), (1, .ref sc), (2, .int i0), (3, .int i1)]) (st' := [.int (6 : Int32), .int (nI (cl_ nn ff (ix_ (i0 + (1 : Int32))))), .ref a]) [(76, .aload_n 0, 1, .null), (77, .iload 4, 2, .null), (79, .bipush 6, 2, .int (6 : Int32))] (by decide +kernel) rfl ?_
        refine aw_irem (by decide) (by decide +kernel) ?_
        obtain ⟨r25, e26, hm⟩ := bn_x hm
        refine aw_cv (rest := []) (st1 := [.int r25.2]) a 0 (kX7_setFoe e26 h0 hf) rfl rfl ckX7_setFoe lkL_117 h0 eo_M_0 ⟨_, _, rfl⟩ nkX7_setFoe rfl rfl rfl (Nat.le_of_ble_eq_true rfl) (Nat.zero_le _) (Nat.zero_le _) (by decide +kernel) (fun H27 z28 => ?_)
        obtain ⟨z28, hn⟩ := z28
        have h0 := hn
        have hs := hs.step z28 (by omega) (by omega)
        refine aw_b (pc' := 164) (lv' := [(4, .int (nI (cl_ nn ff (ix_ (i0 + (1 : Int32)))))), (0, .ref a), (1, .ref sc), (2, .int i0), (3, .int i1)]) (st' := []) [(85, .pop, 1, .null), (86, .goto 78, 3, .null)] (by decide +kernel) rfl ?_
        obtain rfl := Option.some.inj hm
        subst hQ
        exact aw_vret rfl (Nat.zero_le _) (Nat.zero_le _) (by decide +kernel) ⟨rfl, hs, h0⟩
      · have hm := (if_neg hc).symm.trans hm
        refine aw_tg (fun hc => ?_) (fun hc => ?_)
        · have hm := (if_pos hc).symm.trans hm
          refine aw_b (pc' := 93) (lv' := [(4, .int (nI (cl_ nn ff (ix_ (i0 + (1 : Int32)))))), (0, .ref a), (1, .ref sc), (2, .int i0), (3, .int i1)]) (st' := [.int (3 : Int32), .int (nI (cl_ nn ff (ix_ (i0 + (1 : Int32))))), .ref a]) [(89, .aload_n 0, 1, .null), (90, .iload 4, 2, .null), (92, .iconst 3, 1, .int (3 : Int32))] (by decide +kernel) rfl ?_
          refine aw_irem (by decide) (by decide +kernel) ?_
          refine aw_b (pc' := 97) (lv' := [(4, .int (nI (cl_ nn ff (ix_ (i0 + (1 : Int32)))))), (0, .ref a), (1, .ref sc), (2, .int i0), (3, .int i1)]) (st' := [.int i1, .int (nI (cl_ nn ff (ix_ (i0 + (1 : Int32))))), .int ((nI (cl_ nn ff (ix_ (i0 + (1 : Int32))))) - (nI (cl_ nn ff (ix_ (i0 + (1 : Int32))))) / (3 : Int32) * (3 : Int32)), .ref a]) [(94, .iload 4, 2, .null), (96, .iload_n 3, 1, .null)] (by decide +kernel) rfl ?_
          obtain ⟨g29, hm⟩ := gd_x hm
          refine aw_irem (nz_x g29) (by decide +kernel) ?_
          obtain ⟨r30, e31, hm⟩ := bn_x hm
          refine aw_cv (rest := []) (st1 := [.int r30.2]) a 0 (kX7_setMaster e31 h0 hf) rfl rfl ckX7_setMaster lkL_120 h0 eo_M_0 ⟨_, _, rfl⟩ nkX7_setMaster rfl rfl rfl (Nat.le_of_ble_eq_true rfl) (Nat.zero_le _) (Nat.zero_le _) (by decide +kernel) (fun H32 z33 => ?_)
          obtain ⟨z33, hn⟩ := z33
          have h0 := hn
          have hs := hs.step z33 (by omega) (by omega)
          refine aw_b (pc' := 164) (lv' := [(4, .int (nI (cl_ nn ff (ix_ (i0 + (1 : Int32)))))), (0, .ref a), (1, .ref sc), (2, .int i0), (3, .int i1)]) (st' := []) [(101, .pop, 1, .null), (102, .goto 62, 3, .null)] (by decide +kernel) rfl ?_
          obtain rfl := Option.some.inj hm
          subst hQ
          exact aw_vret rfl (Nat.zero_le _) (Nat.zero_le _) (by decide +kernel) ⟨rfl, hs, h0⟩
        · have hm := (if_neg hc).symm.trans hm
          refine aw_tg (fun hc => ?_) (fun hc => ?_)
          · have hm := (if_pos hc).symm.trans hm
            refine aw_b (pc' := 112) (lv' := [(4, .int (nI (cl_ nn ff (ix_ (i0 + (1 : Int32)))))), (0, .ref a), (1, .ref sc), (2, .int i0), (3, .int i1)]) (st' := [.int (500 : Int32), .int (nI (cl_ nn ff (ix_ (i0 + (1 : Int32))))), .int (1 : Int32), .ref a]) [(105, .aload_n 0, 1, .null), (106, .iconst 1, 1, .int (1 : Int32)), (107, .iload 4, 2, .null), (109, .sipush 500, 3, .int (500 : Int32))] (by decide +kernel) rfl ?_
            refine aw_irem (by decide) (by decide +kernel) ?_
            refine aw_b (pc' := 114) (lv' := [(4, .int (nI (cl_ nn ff (ix_ (i0 + (1 : Int32)))))), (0, .ref a), (1, .ref sc), (2, .int i0), (3, .int i1)]) (st' := [.int ((1 : Int32) + ((nI (cl_ nn ff (ix_ (i0 + (1 : Int32))))) - (nI (cl_ nn ff (ix_ (i0 + (1 : Int32))))) / (500 : Int32) * (500 : Int32))), .ref a]) [(113, .iadd, 1, .null)] (by decide +kernel) rfl ?_
            obtain ⟨r34, e35, hm⟩ := bn_x hm
            refine aw_cv (rest := []) (st1 := [.int r34.2]) a 0 (kX7_setEta e35 h0 hf) rfl rfl ckX7_setEta lkL_124 h0 eo_M_0 ⟨_, _, rfl⟩ nkX7_setEta rfl rfl rfl (Nat.le_of_ble_eq_true rfl) (Nat.zero_le _) (Nat.zero_le _) (by decide +kernel) (fun H36 z37 => ?_)
            obtain ⟨z37, hn⟩ := z37
            have h0 := hn
            have hs := hs.step z37 (by omega) (by omega)
            refine aw_b (pc' := 164) (lv' := [(4, .int (nI (cl_ nn ff (ix_ (i0 + (1 : Int32)))))), (0, .ref a), (1, .ref sc), (2, .int i0), (3, .int i1)]) (st' := []) [(117, .pop, 1, .null), (118, .goto 46, 3, .null)] (by decide +kernel) rfl ?_
            obtain rfl := Option.some.inj hm
            subst hQ
            exact aw_vret rfl (Nat.zero_le _) (Nat.zero_le _) (by decide +kernel) ⟨rfl, hs, h0⟩
          · have hm := (if_neg hc).symm.trans hm
            refine aw_tg (fun hc => ?_) (fun hc => ?_)
            · have hm := (if_pos hc).symm.trans hm
              refine aw_b (pc' := 126) (lv' := [(4, .int (nI (cl_ nn ff (ix_ (i0 + (1 : Int32)))))), (0, .ref a), (1, .ref sc), (2, .int i0), (3, .int i1)]) (st' := [.int (0 : Int32), .ref a, .int (nI (cl_ nn ff (ix_ (i0 + (1 : Int32))))), .ref a]) [(121, .aload_n 0, 1, .null), (122, .iload 4, 2, .null), (124, .aload_n 0, 1, .null), (125, .iconst 0, 1, .int (0 : Int32))] (by decide +kernel) rfl ?_
              obtain ⟨r38, e39, hm⟩ := bn_x hm
              refine aw_cv (rest := [.int (nI (cl_ nn ff (ix_ (i0 + (1 : Int32))))), .ref a]) (st1 := [.int r38, .int (nI (cl_ nn ff (ix_ (i0 + (1 : Int32))))), .ref a]) a 0 (kX7_setting e39 h0) rfl rfl ckX7_setting lkL_111 h0 eo_M_0 ⟨_, _, rfl⟩ nkX7_setting rfl rfl rfl (Nat.le_of_ble_eq_true rfl) (Nat.zero_le _) (Nat.zero_le _) (by decide +kernel) (fun H40 z41 => ?_)
              have h0 := h0.kept0 z41
              have hs := hs.step0 z41
              obtain ⟨g42, hm⟩ := gd_x hm
              refine aw_irem (nz_x g42) (by decide +kernel) ?_
              obtain ⟨r43, e44, hm⟩ := bn_x hm
              refine aw_cv (rest := []) (st1 := [.int r43.2]) a 0 (kX7_addAsk e44 h0 hf) rfl rfl ckX7_addAsk lkL_127 h0 eo_M_0 ⟨_, _, rfl⟩ nkX7_addAsk rfl rfl rfl (Nat.le_of_ble_eq_true rfl) (Nat.zero_le _) (Nat.zero_le _) (by decide +kernel) (fun H45 z46 => ?_)
              obtain ⟨z46, hn⟩ := z46
              have h0 := hn
              have hs := hs.step z46 (by omega) (by omega)
              refine aw_b (pc' := 164) (lv' := [(4, .int (nI (cl_ nn ff (ix_ (i0 + (1 : Int32)))))), (0, .ref a), (1, .ref sc), (2, .int i0), (3, .int i1)]) (st' := []) [(133, .pop, 1, .null), (134, .goto 30, 3, .null)] (by decide +kernel) rfl ?_
              obtain rfl := Option.some.inj hm
              subst hQ
              exact aw_vret rfl (Nat.zero_le _) (Nat.zero_le _) (by decide +kernel) ⟨rfl, hs, h0⟩
            · have hm := (if_neg hc).symm.trans hm
              refine aw_tg (fun hc => ?_) (fun hc => ?_)
              · have hm := (if_pos hc).symm.trans hm
                refine aw_b (pc' := 142) (lv' := [(4, .int (nI (cl_ nn ff (ix_ (i0 + (1 : Int32)))))), (0, .ref a), (1, .ref sc), (2, .int i0), (3, .int i1)]) (st' := [.int (9 : Int32), .int (nI (cl_ nn ff (ix_ (i0 + (1 : Int32))))), .ref a]) [(137, .aload_n 0, 1, .null), (138, .iload 4, 2, .null), (140, .bipush 9, 2, .int (9 : Int32))] (by decide +kernel) rfl ?_
                refine aw_irem (by decide) (by decide +kernel) ?_
                refine aw_b (pc' := 145) (lv' := [(4, .int (nI (cl_ nn ff (ix_ (i0 + (1 : Int32)))))), (0, .ref a), (1, .ref sc), (2, .int i0), (3, .int i1)]) (st' := [.int (((nI (cl_ nn ff (ix_ (i0 + (1 : Int32))))) - (nI (cl_ nn ff (ix_ (i0 + (1 : Int32))))) / (9 : Int32) * (9 : Int32)) - (1 : Int32)), .ref a]) [(143, .iconst 1, 1, .int (1 : Int32)), (144, .isub, 1, .null)] (by decide +kernel) rfl ?_
                obtain ⟨r47, e48, hm⟩ := bn_x hm
                refine aw_cv (rest := []) (st1 := [.int r47.2]) a 0 (kX7_setBudget e48 h0 hf) rfl rfl ckX7_setBudget lkL_130 h0 eo_M_0 ⟨_, _, rfl⟩ nkX7_setBudget rfl rfl rfl (Nat.le_of_ble_eq_true rfl) (Nat.zero_le _) (Nat.zero_le _) (by decide +kernel) (fun H49 z50 => ?_)
                obtain ⟨z50, hn⟩ := z50
                have h0 := hn
                have hs := hs.step z50 (by omega) (by omega)
                refine aw_b (pc' := 164) (lv' := [(4, .int (nI (cl_ nn ff (ix_ (i0 + (1 : Int32)))))), (0, .ref a), (1, .ref sc), (2, .int i0), (3, .int i1)]) (st' := []) [(148, .pop, 1, .null), (149, .goto 15, 3, .null)] (by decide +kernel) rfl ?_
                obtain rfl := Option.some.inj hm
                subst hQ
                exact aw_vret rfl (Nat.zero_le _) (Nat.zero_le _) (by decide +kernel) ⟨rfl, hs, h0⟩
              · have hm := (if_neg hc).symm.trans hm
                show aw E _ Q 152 _ _ _ _ _
                refine aw_b (pc' := 158) (lv' := [(4, .int (nI (cl_ nn ff (ix_ (i0 + (1 : Int32)))))), (0, .ref a), (1, .ref sc), (2, .int i0), (3, .int i1)]) (st' := [.int (9 : Int32), .int (nI (cl_ nn ff (ix_ (i0 + (1 : Int32))))), .int (1 : Int32), .ref a]) [(152, .aload_n 0, 1, .null), (153, .iconst 1, 1, .int (1 : Int32)), (154, .iload 4, 2, .null), (156, .bipush 9, 2, .int (9 : Int32))] (by decide +kernel) rfl ?_
                refine aw_irem (by decide) (by decide +kernel) ?_
                refine aw_b (pc' := 160) (lv' := [(4, .int (nI (cl_ nn ff (ix_ (i0 + (1 : Int32)))))), (0, .ref a), (1, .ref sc), (2, .int i0), (3, .int i1)]) (st' := [.int ((1 : Int32) + ((nI (cl_ nn ff (ix_ (i0 + (1 : Int32))))) - (nI (cl_ nn ff (ix_ (i0 + (1 : Int32))))) / (9 : Int32) * (9 : Int32))), .ref a]) [(159, .iadd, 1, .null)] (by decide +kernel) rfl ?_
                obtain ⟨r51, e52, hm⟩ := bn_x hm
                refine aw_cv (rest := []) (st1 := [.int r51.2]) a 0 (kX7_run e52 h0 hf) rfl rfl ckX7_run lkL_133 h0 eo_M_0 ⟨_, _, rfl⟩ nkX7_run rfl rfl rfl (Nat.le_of_ble_eq_true rfl) (Nat.zero_le _) (Nat.zero_le _) (by decide +kernel) (fun H53 z54 => ?_)
                obtain ⟨z54, hn⟩ := z54
                have h0 := hn
                have hs := hs.step z54 (by omega) (by omega)
                refine aw_b (pc' := 164) (lv' := [(4, .int (nI (cl_ nn ff (ix_ (i0 + (1 : Int32)))))), (0, .ref a), (1, .ref sc), (2, .int i0), (3, .int i1)]) (st' := []) [(163, .pop, 1, .null)] (by decide +kernel) rfl ?_
                obtain rfl := Option.some.inj hm
                subst hQ
                exact aw_vret rfl (Nat.zero_le _) (Nat.zero_le _) (by decide +kernel) ⟨rfl, hs, h0⟩
def mL_whole : mt_ := (yL_whole, cL_whole, 6, some .long, [], { frames := 3, locals := 65, cells := 0, slots := 0 })
theorem ckL_whole : cokS_ mL_whole := ⟨⟨(uw_mem 1359 (by decide +kernel) (by decide +kernel)), (uw_mem 28 (by decide +kernel) (by decide +kernel)), by decide +kernel, by decide +kernel⟩, (uw_mem 1358 (by decide +kernel) (by decide +kernel))⟩
theorem nkL_whole : nok_ mL_whole 2 := by decide +kernel
theorem lkL_136 : Cond.methodLink RL 136 yX7_rounds ∈ uw_ := (uw_mem 1210 (by decide +kernel) (by decide +kernel))
theorem kwL_139 : Cond.constantLong RL 139 (31 : Int64) ∈ uw_ := (uw_mem 1360 (by decide +kernel) (by decide +kernel))
theorem lkL_150 : Cond.methodLink RL 150 yX7_rival ∈ uw_ := (uw_mem 1361 (by decide +kernel) (by decide +kernel))
theorem kwL_153 : Cond.constantLong RL 153 (7 : Int64) ∈ uw_ := (uw_mem 1366 (by decide +kernel) (by decide +kernel))
theorem lkL_155 : Cond.methodLink RL 155 yX7_served ∈ uw_ := (uw_mem 1367 (by decide +kernel) (by decide +kernel))
theorem lkL_158 : Cond.methodLink RL 158 yX7_swapRegret ∈ uw_ := (uw_mem 1296 (by decide +kernel) (by decide +kernel))
theorem lkL_147 : Cond.methodLink RL 147 yX7_regret ∈ uw_ := (uw_mem 1271 (by decide +kernel) (by decide +kernel))
theorem lkL_144 : Cond.methodLink RL 144 yX7_rule ∈ uw_ := (uw_mem 1247 (by decide +kernel) (by decide +kernel))
theorem lkL_141 : Cond.methodLink RL 141 yX7_arm ∈ uw_ := (uw_mem 1232 (by decide +kernel) (by decide +kernel))
def fL_whole_x132_158 (s : st_) (v2_x132_158 : Int64) : Option (Int64) :=
  bn_ (gX7_rival s (2 : Int32)) fun r5 =>
  bn_ (gX7_served s (0 : Int32) (1 : Int32)) fun r9 =>
  bn_ (gX7_swapRegret s) fun r13 =>
  some (((((31 : Int64) * v2_x132_158) + (Int32.toInt64 r5)) + ((7 : Int64) * (Int32.toInt64 r9))) + (Int32.toInt64 r13))
def fL_whole_k132 (s : st_) (x : Int64) : Option (Int64) :=
  fL_whole_x132_158 s x
def fL_whole_b132 (s : st_) (v2_b132 : Int64) (v4_b132 : Int32) : Option ((Int64 × Int32) ⊕ (Int64)) :=
  if (4 : Int32) < v4_b132 then (some (.inr v2_b132))
  else (bn_ (gX7_regret s v4_b132) fun r17 =>
  some (.inl ((((31 : Int64) * v2_b132) + (Int32.toInt64 r17)), (v4_b132 + (1 : Int32)))))
def fL_whole_l132 (s : st_) : Nat → (Int64 × Int32) → Option (Int64) :=
  it_ (fun v => fL_whole_b132 s v.1 v.2)
def fL_whole_x86_129 (s : st_) (v2_x86_129 : Int64) : Option (Int64) :=
  bn_ (fL_whole_l132 s FU_ (v2_x86_129, (0 : Int32))) (fL_whole_k132 s)
def fL_whole_k86 (s : st_) (x : Int64) : Option (Int64) :=
  fL_whole_x86_129 s x
def fL_whole_x95_123 (v4_b86 : Int32) (v2_x95_123 : Int64) : Option ((Int64 × Int32) ⊕ (Int64)) :=
  some (.inl (v2_x95_123, (v4_b86 + (1 : Int32))))
def fL_whole_k95 (v4_b86 : Int32) (x : Int64) : Option ((Int64 × Int32) ⊕ (Int64)) :=
  fL_whole_x95_123 v4_b86 x
def fL_whole_b95 (s : st_) (v4_b86 : Int32) (v2_b95 : Int64) (v5_b95 : Int32) : Option ((Int64 × Int32) ⊕ (Int64)) :=
  if (5 : Int32) < v5_b95 then (some (.inr v2_b95))
  else (bn_ (gX7_rule s v4_b86 v5_b95) fun r21 =>
  some (.inl ((((31 : Int64) * v2_b95) + (Int32.toInt64 r21)), (v5_b95 + (1 : Int32)))))
def fL_whole_l95 (s : st_) (v4_b86 : Int32) : Nat → (Int64 × Int32) → Option (Int64) :=
  it_ (fun v => fL_whole_b95 s v4_b86 v.1 v.2)
def fL_whole_b86 (s : st_) (i0 : Int32) (v2_b86 : Int64) (v4_b86 : Int32) : Option ((Int64 × Int32) ⊕ (Int64)) :=
  if i0 ≤ v4_b86 then (some (.inr v2_b86))
  else (bn_ (fL_whole_l95 s v4_b86 FU_ (v2_b86, (2 : Int32))) (fL_whole_k95 v4_b86))
def fL_whole_l86 (s : st_) (i0 : Int32) : Nat → (Int64 × Int32) → Option (Int64) :=
  it_ (fun v => fL_whole_b86 s i0 v.1 v.2)
def fL_whole_x39_83 (s : st_) (i0 : Int32) (v2_x39_83 : Int64) : Option (Int64) :=
  bn_ (fL_whole_l86 s i0 FU_ (v2_x39_83, (0 : Int32))) (fL_whole_k86 s)
def fL_whole_k39 (s : st_) (i0 : Int32) (x : Int64) : Option (Int64) :=
  fL_whole_x39_83 s i0 x
def fL_whole_x48_77 (v4_b39 : Int32) (v2_x48_77 : Int64) : Option ((Int64 × Int32) ⊕ (Int64)) :=
  some (.inl (v2_x48_77, (v4_b39 + (1 : Int32))))
def fL_whole_k48 (v4_b39 : Int32) (x : Int64) : Option ((Int64 × Int32) ⊕ (Int64)) :=
  fL_whole_x48_77 v4_b39 x
def fL_whole_b48 (s : st_) (v4_b39 : Int32) (v2_b48 : Int64) (v5_b48 : Int32) : Option ((Int64 × Int32) ⊕ (Int64)) :=
  if (6 : Int32) < v5_b48 then (some (.inr v2_b48))
  else (bn_ (gX7_arm s v4_b39 v5_b48) fun r25 =>
  some (.inl ((((31 : Int64) * v2_b48) + (Int32.toInt64 r25)), (v5_b48 + (1 : Int32)))))
def fL_whole_l48 (s : st_) (v4_b39 : Int32) : Nat → (Int64 × Int32) → Option (Int64) :=
  it_ (fun v => fL_whole_b48 s v4_b39 v.1 v.2)
def fL_whole_b39 (s : st_) (i0 : Int32) (v2_b39 : Int64) (v4_b39 : Int32) : Option ((Int64 × Int32) ⊕ (Int64)) :=
  if i0 ≤ v4_b39 then (some (.inr v2_b39))
  else (bn_ (fL_whole_l48 s v4_b39 FU_ (v2_b39, (0 : Int32))) (fL_whole_k48 v4_b39))
def fL_whole_l39 (s : st_) (i0 : Int32) : Nat → (Int64 × Int32) → Option (Int64) :=
  it_ (fun v => fL_whole_b39 s i0 v.1 v.2)
def fL_whole_x9_36 (s : st_) (i0 : Int32) (v2_x9_36 : Int64) : Option (Int64) :=
  bn_ (fL_whole_l39 s i0 FU_ (v2_x9_36, (-1 : Int32))) (fL_whole_k39 s i0)
def fL_whole_k9 (s : st_) (i0 : Int32) (x : Int64) : Option (Int64) :=
  fL_whole_x9_36 s i0 x
def fL_whole_b9 (s : st_) (v2_b9 : Int64) (v4_b9 : Int32) : Option ((Int64 × Int32) ⊕ (Int64)) :=
  if (14 : Int32) < v4_b9 then (some (.inr v2_b9))
  else (bn_ (gX7_setting s v4_b9) fun r29 =>
  some (.inl ((((31 : Int64) * v2_b9) + (Int32.toInt64 r29)), (v4_b9 + (1 : Int32)))))
def fL_whole_l9 (s : st_) : Nat → (Int64 × Int32) → Option (Int64) :=
  it_ (fun v => fL_whole_b9 s v.1 v.2)
def fL_whole (s : st_) (i0 : Int32) : Option (Int64) :=
  bn_ (gX7_rounds s) fun r1 =>
  bn_ (fL_whole_l9 s FU_ ((Int32.toInt64 r1), (0 : Int32))) (fL_whole_k9 s i0)
set_option maxRecDepth 100000 in
theorem kL_whole {E : ev_} {H : Heap} {a : Nat} {s : st_} {i0 : Int32} {r : Int64} (hm : fL_whole s i0 = some r) (h0 : has_ E H a ly_M s) : sp_ E mL_whole [.ref a, .int i0] H (po1 (.inl (some (.long r))) (fun Hn => sm_ H Hn 0 0)) := by
  refine sp_of (by decide +kernel) rfl rfl ?_
  generalize hQ : po1 _ _ = Q
  have hs : sm_ H H 0 0 := sm_.rfl'
  unfold fL_whole at hm
  refine aw_lv (lv' := [(0, .ref a), (1, .int i0)]) [0, 1] rfl ?_
  refine aw_b (pc' := 1) (lv' := [(0, .ref a), (1, .int i0)]) (st' := [.ref a]) [(0, .aload_n 0, 1, .null)] (by decide +kernel) rfl ?_
  obtain ⟨r1, e2, hm⟩ := bn_x hm
  refine aw_cv (rest := []) (st1 := [.int r1]) a 0 (kX7_rounds e2 h0) rfl rfl ckX7_rounds lkL_136 h0 eo_M_0 ⟨_, _, rfl⟩ nkX7_rounds rfl rfl rfl (Nat.le_of_ble_eq_true rfl) (Nat.zero_le _) (Nat.zero_le _) (by decide +kernel) (fun H3 z4 => ?_)
  have h0 := h0.kept0 z4
  have hs := hs.step0 z4
  refine aw_b (pc' := 9) (lv' := [(4, .int (0 : Int32)), (2, .long (Int32.toInt64 r1)), (0, .ref a), (1, .int i0)]) (st' := []) [(4, .i2l, 1, .null), (5, .lstore_n 2, 1, .null), (6, .iconst 0, 1, .int (0 : Int32)), (7, .istore 4, 2, .null)] (by decide +kernel) rfl ?_
  obtain ⟨x9, hx9, hr9⟩ := bn_x hm
  have X9_36 : ∀ (v2_x9_36 : Int64) (H_x9_36 : Heap), has_ E H_x9_36 a ly_M s → sm_ H H_x9_36 0 0 → fL_whole_x9_36 s i0 v2_x9_36 = some r → aw E mL_whole Q 36 [(0, .ref a), (1, .int i0), (2, .long v2_x9_36)] [] H_x9_36 0 0 := by
    intro v2_x9_36 H_x9_36 h0 hs hm
    unfold fL_whole_x9_36 at hm
    refine aw_b (pc' := 39) (lv' := [(4, .int (-1 : Int32)), (0, .ref a), (1, .int i0), (2, .long v2_x9_36)]) (st' := []) [(36, .iconst (-1), 1, .int (-1 : Int32)), (37, .istore 4, 2, .null)] (by decide +kernel) rfl ?_
    obtain ⟨x39, hx39, hr39⟩ := bn_x hm
    have X39_83 : ∀ (v2_x39_83 : Int64) (H_x39_83 : Heap), has_ E H_x39_83 a ly_M s → sm_ H H_x39_83 0 0 → fL_whole_x39_83 s i0 v2_x39_83 = some r → aw E mL_whole Q 83 [(0, .ref a), (1, .int i0), (2, .long v2_x39_83)] [] H_x39_83 0 0 := by
      intro v2_x39_83 H_x39_83 h0 hs hm
      unfold fL_whole_x39_83 at hm
      refine aw_b (pc' := 86) (lv' := [(4, .int (0 : Int32)), (0, .ref a), (1, .int i0), (2, .long v2_x39_83)]) (st' := []) [(83, .iconst 0, 1, .int (0 : Int32)), (84, .istore 4, 2, .null)] (by decide +kernel) rfl ?_
      obtain ⟨x86, hx86, hr86⟩ := bn_x hm
      have X86_129 : ∀ (v2_x86_129 : Int64) (H_x86_129 : Heap), has_ E H_x86_129 a ly_M s → sm_ H H_x86_129 0 0 → fL_whole_x86_129 s v2_x86_129 = some r → aw E mL_whole Q 129 [(0, .ref a), (2, .long v2_x86_129)] [] H_x86_129 0 0 := by
        intro v2_x86_129 H_x86_129 h0 hs hm
        unfold fL_whole_x86_129 at hm
        refine aw_b (pc' := 132) (lv' := [(4, .int (0 : Int32)), (0, .ref a), (2, .long v2_x86_129)]) (st' := []) [(129, .iconst 0, 1, .int (0 : Int32)), (130, .istore 4, 2, .null)] (by decide +kernel) rfl ?_
        obtain ⟨x132, hx132, hr132⟩ := bn_x hm
        have X132_158 : ∀ (v2_x132_158 : Int64) (H_x132_158 : Heap), has_ E H_x132_158 a ly_M s → sm_ H H_x132_158 0 0 → fL_whole_x132_158 s v2_x132_158 = some r → aw E mL_whole Q 158 [(0, .ref a), (2, .long v2_x132_158)] [] H_x132_158 0 0 := by
          intro v2_x132_158 H_x132_158 h0 hs hm
          unfold fL_whole_x132_158 at hm
          refine aw_ldc2 (v := (31 : Int64)) kwL_139 (by decide +kernel) ?_
          refine aw_b (pc' := 165) (lv' := [(0, .ref a), (2, .long v2_x132_158)]) (st' := [.int (2 : Int32), .ref a, .long ((31 : Int64) * v2_x132_158)]) [(161, .lload_n 2, 1, .null), (162, .lmul, 1, .null), (163, .aload_n 0, 1, .null), (164, .iconst 2, 1, .int (2 : Int32))] (by decide +kernel) rfl ?_
          obtain ⟨r5, e6, hm⟩ := bn_x hm
          refine aw_cv (rest := [.long ((31 : Int64) * v2_x132_158)]) (st1 := [.int r5, .long ((31 : Int64) * v2_x132_158)]) a 0 (kX7_rival e6 h0) rfl rfl ckX7_rival lkL_150 h0 eo_M_0 ⟨_, _, rfl⟩ nkX7_rival rfl rfl rfl (Nat.le_of_ble_eq_true rfl) (Nat.zero_le _) (Nat.zero_le _) (by decide +kernel) (fun H7 z8 => ?_)
          have h0 := h0.kept0 z8
          have hs := hs.step0 z8
          refine aw_b (pc' := 170) (lv' := [(0, .ref a), (2, .long v2_x132_158)]) (st' := [.long (((31 : Int64) * v2_x132_158) + (Int32.toInt64 r5))]) [(168, .i2l, 1, .null), (169, .ladd, 1, .null)] (by decide +kernel) rfl ?_
          refine aw_ldc2 (v := (7 : Int64)) kwL_153 (by decide +kernel) ?_
          refine aw_b (pc' := 176) (lv' := [(0, .ref a), (2, .long v2_x132_158)]) (st' := [.int (1 : Int32), .int (0 : Int32), .ref a, .long (7 : Int64), .long (((31 : Int64) * v2_x132_158) + (Int32.toInt64 r5))]) [(173, .aload_n 0, 1, .null), (174, .iconst 0, 1, .int (0 : Int32)), (175, .iconst 1, 1, .int (1 : Int32))] (by decide +kernel) rfl ?_
          obtain ⟨r9, e10, hm⟩ := bn_x hm
          refine aw_cv (rest := [.long (7 : Int64), .long (((31 : Int64) * v2_x132_158) + (Int32.toInt64 r5))]) (st1 := [.int r9, .long (7 : Int64), .long (((31 : Int64) * v2_x132_158) + (Int32.toInt64 r5))]) a 0 (kX7_served e10 h0) rfl rfl ckX7_served lkL_155 h0 eo_M_0 ⟨_, _, rfl⟩ nkX7_served rfl rfl rfl (Nat.le_of_ble_eq_true rfl) (Nat.zero_le _) (Nat.zero_le _) (by decide +kernel) (fun H11 z12 => ?_)
          have h0 := h0.kept0 z12
          have hs := hs.step0 z12
          refine aw_b (pc' := 183) (lv' := [(0, .ref a), (2, .long v2_x132_158)]) (st' := [.ref a, .long ((((31 : Int64) * v2_x132_158) + (Int32.toInt64 r5)) + ((7 : Int64) * (Int32.toInt64 r9)))]) [(179, .i2l, 1, .null), (180, .lmul, 1, .null), (181, .ladd, 1, .null), (182, .aload_n 0, 1, .null)] (by decide +kernel) rfl ?_
          obtain ⟨r13, e14, hm⟩ := bn_x hm
          refine aw_cv (rest := [.long ((((31 : Int64) * v2_x132_158) + (Int32.toInt64 r5)) + ((7 : Int64) * (Int32.toInt64 r9)))]) (st1 := [.int r13, .long ((((31 : Int64) * v2_x132_158) + (Int32.toInt64 r5)) + ((7 : Int64) * (Int32.toInt64 r9)))]) a 0 (kX7_swapRegret e14 h0) rfl rfl ckX7_swapRegret lkL_158 h0 eo_M_0 ⟨_, _, rfl⟩ nkX7_swapRegret rfl rfl rfl (Nat.le_of_ble_eq_true rfl) (Nat.zero_le _) (Nat.zero_le _) (by decide +kernel) (fun H15 z16 => ?_)
          have h0 := h0.kept0 z16
          have hs := hs.step0 z16
          refine aw_b (pc' := 188) (lv' := [(0, .ref a), (2, .long v2_x132_158)]) (st' := [.long (((((31 : Int64) * v2_x132_158) + (Int32.toInt64 r5)) + ((7 : Int64) * (Int32.toInt64 r9))) + (Int32.toInt64 r13))]) [(186, .i2l, 1, .null), (187, .ladd, 1, .null)] (by decide +kernel) rfl ?_
          obtain rfl := Option.some.inj hm
          subst hQ
          exact aw_lret rfl (Nat.zero_le _) (Nat.zero_le _) (by decide +kernel) ⟨rfl, hs⟩
        have L132 : ∀ (fu : Nat) (v2_b132 : Int64) (v4_b132 : Int32) (H_b132 : Heap), has_ E H_b132 a ly_M s → sm_ H H_b132 0 0 → fL_whole_l132 s fu (v2_b132, v4_b132) = some x132 → aw E mL_whole Q 132 [(0, .ref a), (2, .long v2_b132), (4, .int v4_b132)] [] H_b132 0 0 := by
          intro fu
          induction fu with
          | zero =>
            intro v2_b132 v4_b132 H_b132 h0 hs hm
            exact (it_0 hm).elim
          | succ fu ih132 =>
            intro v2_b132 v4_b132 H_b132 h0 hs hm
            obtain ⟨y132, hm, hk132⟩ := it_s hm
            have hm : fL_whole_b132 s v2_b132 v4_b132 = some y132 := hm
            unfold fL_whole_b132 at hm
            refine aw_b (pc' := 135) (lv' := [(0, .ref a), (2, .long v2_b132), (4, .int v4_b132)]) (st' := [.int (4 : Int32), .int v4_b132]) [(132, .iload 4, 2, .null), (134, .iconst 4, 1, .int (4 : Int32))] (by decide +kernel) rfl ?_
            refine aw_ic_gt (off := 23) 158 (by decide) (by decide +kernel) (fun hc => ?_) (fun hc => ?_)
            · have hm := (if_pos hc).symm.trans hm
              cases hm
              refine aw_lv (lv' := [(0, .ref a), (2, .long v2_b132)]) [0, 1] rfl ?_
              exact X132_158 v2_b132 H_b132 h0 hs ((congrArg (fL_whole_k132 s) (show (v2_b132) = x132 from hk132)).trans hr132)
            · have hm := (if_neg hc).symm.trans hm
              refine aw_ldc2 (v := (31 : Int64)) kwL_139 (by decide +kernel) ?_
              refine aw_b (pc' := 146) (lv' := [(0, .ref a), (2, .long v2_b132), (4, .int v4_b132)]) (st' := [.int v4_b132, .ref a, .long ((31 : Int64) * v2_b132)]) [(141, .lload_n 2, 1, .null), (142, .lmul, 1, .null), (143, .aload_n 0, 1, .null), (144, .iload 4, 2, .null)] (by decide +kernel) rfl ?_
              obtain ⟨r17, e18, hm⟩ := bn_x hm
              refine aw_cv (rest := [.long ((31 : Int64) * v2_b132)]) (st1 := [.int r17, .long ((31 : Int64) * v2_b132)]) a 0 (kX7_regret e18 h0) rfl rfl ckX7_regret lkL_147 h0 eo_M_0 ⟨_, _, rfl⟩ nkX7_regret rfl rfl rfl (Nat.le_of_ble_eq_true rfl) (Nat.zero_le _) (Nat.zero_le _) (by decide +kernel) (fun H19 z20 => ?_)
              have h0 := h0.kept0 z20
              have hs := hs.step0 z20
              refine aw_b (pc' := 132) (lv' := [(4, .int (v4_b132 + (1 : Int32))), (2, .long (((31 : Int64) * v2_b132) + (Int32.toInt64 r17))), (0, .ref a)]) (st' := []) [(149, .i2l, 1, .null), (150, .ladd, 1, .null), (151, .lstore_n 2, 1, .null), (152, .iinc 4 1, 3, .int (1 : Int32)), (155, .goto (-23), 3, .null)] (by decide +kernel) rfl ?_
              cases hm
              refine aw_lv (lv' := [(0, .ref a), (2, .long (((31 : Int64) * v2_b132) + (Int32.toInt64 r17))), (4, .int (v4_b132 + (1 : Int32)))]) [2, 1, 0] rfl ?_
              exact ih132 (((31 : Int64) * v2_b132) + (Int32.toInt64 r17)) (v4_b132 + (1 : Int32)) H19 h0 hs hk132
        refine aw_lv (lv' := [(0, .ref a), (2, .long v2_x86_129), (4, .int (0 : Int32))]) [1, 2, 0] rfl ?_
        exact L132 FU_ v2_x86_129 (0 : Int32) H_x86_129 h0 hs hx132
      have L86 : ∀ (fu : Nat) (v2_b86 : Int64) (v4_b86 : Int32) (H_b86 : Heap), has_ E H_b86 a ly_M s → sm_ H H_b86 0 0 → fL_whole_l86 s i0 fu (v2_b86, v4_b86) = some x86 → aw E mL_whole Q 86 [(0, .ref a), (1, .int i0), (2, .long v2_b86), (4, .int v4_b86)] [] H_b86 0 0 := by
        intro fu
        induction fu with
        | zero =>
          intro v2_b86 v4_b86 H_b86 h0 hs hm
          exact (it_0 hm).elim
        | succ fu ih86 =>
          intro v2_b86 v4_b86 H_b86 h0 hs hm
          obtain ⟨y86, hm, hk86⟩ := it_s hm
          have hm : fL_whole_b86 s i0 v2_b86 v4_b86 = some y86 := hm
          unfold fL_whole_b86 at hm
          refine aw_b (pc' := 89) (lv' := [(0, .ref a), (1, .int i0), (2, .long v2_b86), (4, .int v4_b86)]) (st' := [.int i0, .int v4_b86]) [(86, .iload 4, 2, .null), (88, .iload_n 1, 1, .null)] (by decide +kernel) rfl ?_
          refine aw_ic_ge (off := 40) 129 (by decide) (by decide +kernel) (fun hc => ?_) (fun hc => ?_)
          · have hm := (if_pos hc).symm.trans hm
            cases hm
            refine aw_lv (lv' := [(0, .ref a), (2, .long v2_b86)]) [0, 2] rfl ?_
            exact X86_129 v2_b86 H_b86 h0 hs ((congrArg (fL_whole_k86 s) (show (v2_b86) = x86 from hk86)).trans hr86)
          · have hm := (if_neg hc).symm.trans hm
            refine aw_b (pc' := 95) (lv' := [(5, .int (2 : Int32)), (0, .ref a), (1, .int i0), (2, .long v2_b86), (4, .int v4_b86)]) (st' := []) [(92, .iconst 2, 1, .int (2 : Int32)), (93, .istore 5, 2, .null)] (by decide +kernel) rfl ?_
            obtain ⟨x95, hx95, hr95⟩ := bn_x hm
            have X95_123 : ∀ (v2_x95_123 : Int64) (H_x95_123 : Heap), has_ E H_x95_123 a ly_M s → sm_ H H_x95_123 0 0 → fL_whole_x95_123 v4_b86 v2_x95_123 = some y86 → aw E mL_whole Q 123 [(0, .ref a), (1, .int i0), (2, .long v2_x95_123), (4, .int v4_b86)] [] H_x95_123 0 0 := by
              intro v2_x95_123 H_x95_123 h0 hs hm
              unfold fL_whole_x95_123 at hm
              refine aw_b (pc' := 86) (lv' := [(4, .int (v4_b86 + (1 : Int32))), (0, .ref a), (1, .int i0), (2, .long v2_x95_123)]) (st' := []) [(123, .iinc 4 1, 3, .int (1 : Int32)), (126, .goto (-40), 3, .null)] (by decide +kernel) rfl ?_
              cases hm
              refine aw_lv (lv' := [(0, .ref a), (1, .int i0), (2, .long v2_x95_123), (4, .int (v4_b86 + (1 : Int32)))]) [1, 2, 3, 0] rfl ?_
              exact ih86 v2_x95_123 (v4_b86 + (1 : Int32)) H_x95_123 h0 hs hk86
            have L95 : ∀ (fu : Nat) (v2_b95 : Int64) (v5_b95 : Int32) (H_b95 : Heap), has_ E H_b95 a ly_M s → sm_ H H_b95 0 0 → fL_whole_l95 s v4_b86 fu (v2_b95, v5_b95) = some x95 → aw E mL_whole Q 95 [(0, .ref a), (1, .int i0), (2, .long v2_b95), (4, .int v4_b86), (5, .int v5_b95)] [] H_b95 0 0 := by
              intro fu
              induction fu with
              | zero =>
                intro v2_b95 v5_b95 H_b95 h0 hs hm
                exact (it_0 hm).elim
              | succ fu ih95 =>
                intro v2_b95 v5_b95 H_b95 h0 hs hm
                obtain ⟨y95, hm, hk95⟩ := it_s hm
                have hm : fL_whole_b95 s v4_b86 v2_b95 v5_b95 = some y95 := hm
                unfold fL_whole_b95 at hm
                refine aw_b (pc' := 98) (lv' := [(0, .ref a), (1, .int i0), (2, .long v2_b95), (4, .int v4_b86), (5, .int v5_b95)]) (st' := [.int (5 : Int32), .int v5_b95]) [(95, .iload 5, 2, .null), (97, .iconst 5, 1, .int (5 : Int32))] (by decide +kernel) rfl ?_
                refine aw_ic_gt (off := 25) 123 (by decide) (by decide +kernel) (fun hc => ?_) (fun hc => ?_)
                · have hm := (if_pos hc).symm.trans hm
                  cases hm
                  refine aw_lv (lv' := [(0, .ref a), (1, .int i0), (2, .long v2_b95), (4, .int v4_b86)]) [0, 1, 2, 3] rfl ?_
                  exact X95_123 v2_b95 H_b95 h0 hs ((congrArg (fL_whole_k95 v4_b86) (show (v2_b95) = x95 from hk95)).trans hr95)
                · have hm := (if_neg hc).symm.trans hm
                  refine aw_ldc2 (v := (31 : Int64)) kwL_139 (by decide +kernel) ?_
                  refine aw_b (pc' := 111) (lv' := [(0, .ref a), (1, .int i0), (2, .long v2_b95), (4, .int v4_b86), (5, .int v5_b95)]) (st' := [.int v5_b95, .int v4_b86, .ref a, .long ((31 : Int64) * v2_b95)]) [(104, .lload_n 2, 1, .null), (105, .lmul, 1, .null), (106, .aload_n 0, 1, .null), (107, .iload 4, 2, .null), (109, .iload 5, 2, .null)] (by decide +kernel) rfl ?_
                  obtain ⟨r21, e22, hm⟩ := bn_x hm
                  refine aw_cv (rest := [.long ((31 : Int64) * v2_b95)]) (st1 := [.int r21, .long ((31 : Int64) * v2_b95)]) a 0 (kX7_rule e22 h0) rfl rfl ckX7_rule lkL_144 h0 eo_M_0 ⟨_, _, rfl⟩ nkX7_rule rfl rfl rfl (Nat.le_of_ble_eq_true rfl) (Nat.zero_le _) (Nat.zero_le _) (by decide +kernel) (fun H23 z24 => ?_)
                  have h0 := h0.kept0 z24
                  have hs := hs.step0 z24
                  refine aw_b (pc' := 95) (lv' := [(5, .int (v5_b95 + (1 : Int32))), (2, .long (((31 : Int64) * v2_b95) + (Int32.toInt64 r21))), (0, .ref a), (1, .int i0), (4, .int v4_b86)]) (st' := []) [(114, .i2l, 1, .null), (115, .ladd, 1, .null), (116, .lstore_n 2, 1, .null), (117, .iinc 5 1, 3, .int (1 : Int32)), (120, .goto (-25), 3, .null)] (by decide +kernel) rfl ?_
                  cases hm
                  refine aw_lv (lv' := [(0, .ref a), (1, .int i0), (2, .long (((31 : Int64) * v2_b95) + (Int32.toInt64 r21))), (4, .int v4_b86), (5, .int (v5_b95 + (1 : Int32)))]) [2, 3, 1, 4, 0] rfl ?_
                  exact ih95 (((31 : Int64) * v2_b95) + (Int32.toInt64 r21)) (v5_b95 + (1 : Int32)) H23 h0 hs hk95
            refine aw_lv (lv' := [(0, .ref a), (1, .int i0), (2, .long v2_b86), (4, .int v4_b86), (5, .int (2 : Int32))]) [1, 2, 3, 4, 0] rfl ?_
            exact L95 FU_ v2_b86 (2 : Int32) H_b86 h0 hs hx95
      refine aw_lv (lv' := [(0, .ref a), (1, .int i0), (2, .long v2_x39_83), (4, .int (0 : Int32))]) [1, 2, 3, 0] rfl ?_
      exact L86 FU_ v2_x39_83 (0 : Int32) H_x39_83 h0 hs hx86
    have L39 : ∀ (fu : Nat) (v2_b39 : Int64) (v4_b39 : Int32) (H_b39 : Heap), has_ E H_b39 a ly_M s → sm_ H H_b39 0 0 → fL_whole_l39 s i0 fu (v2_b39, v4_b39) = some x39 → aw E mL_whole Q 39 [(0, .ref a), (1, .int i0), (2, .long v2_b39), (4, .int v4_b39)] [] H_b39 0 0 := by
      intro fu
      induction fu with
      | zero =>
        intro v2_b39 v4_b39 H_b39 h0 hs hm
        exact (it_0 hm).elim
      | succ fu ih39 =>
        intro v2_b39 v4_b39 H_b39 h0 hs hm
        obtain ⟨y39, hm, hk39⟩ := it_s hm
        have hm : fL_whole_b39 s i0 v2_b39 v4_b39 = some y39 := hm
        unfold fL_whole_b39 at hm
        refine aw_b (pc' := 42) (lv' := [(0, .ref a), (1, .int i0), (2, .long v2_b39), (4, .int v4_b39)]) (st' := [.int i0, .int v4_b39]) [(39, .iload 4, 2, .null), (41, .iload_n 1, 1, .null)] (by decide +kernel) rfl ?_
        refine aw_ic_ge (off := 41) 83 (by decide) (by decide +kernel) (fun hc => ?_) (fun hc => ?_)
        · have hm := (if_pos hc).symm.trans hm
          cases hm
          refine aw_lv (lv' := [(0, .ref a), (1, .int i0), (2, .long v2_b39)]) [0, 1, 2] rfl ?_
          exact X39_83 v2_b39 H_b39 h0 hs ((congrArg (fL_whole_k39 s i0) (show (v2_b39) = x39 from hk39)).trans hr39)
        · have hm := (if_neg hc).symm.trans hm
          refine aw_b (pc' := 48) (lv' := [(5, .int (0 : Int32)), (0, .ref a), (1, .int i0), (2, .long v2_b39), (4, .int v4_b39)]) (st' := []) [(45, .iconst 0, 1, .int (0 : Int32)), (46, .istore 5, 2, .null)] (by decide +kernel) rfl ?_
          obtain ⟨x48, hx48, hr48⟩ := bn_x hm
          have X48_77 : ∀ (v2_x48_77 : Int64) (H_x48_77 : Heap), has_ E H_x48_77 a ly_M s → sm_ H H_x48_77 0 0 → fL_whole_x48_77 v4_b39 v2_x48_77 = some y39 → aw E mL_whole Q 77 [(0, .ref a), (1, .int i0), (2, .long v2_x48_77), (4, .int v4_b39)] [] H_x48_77 0 0 := by
            intro v2_x48_77 H_x48_77 h0 hs hm
            unfold fL_whole_x48_77 at hm
            refine aw_b (pc' := 39) (lv' := [(4, .int (v4_b39 + (1 : Int32))), (0, .ref a), (1, .int i0), (2, .long v2_x48_77)]) (st' := []) [(77, .iinc 4 1, 3, .int (1 : Int32)), (80, .goto (-41), 3, .null)] (by decide +kernel) rfl ?_
            cases hm
            refine aw_lv (lv' := [(0, .ref a), (1, .int i0), (2, .long v2_x48_77), (4, .int (v4_b39 + (1 : Int32)))]) [1, 2, 3, 0] rfl ?_
            exact ih39 v2_x48_77 (v4_b39 + (1 : Int32)) H_x48_77 h0 hs hk39
          have L48 : ∀ (fu : Nat) (v2_b48 : Int64) (v5_b48 : Int32) (H_b48 : Heap), has_ E H_b48 a ly_M s → sm_ H H_b48 0 0 → fL_whole_l48 s v4_b39 fu (v2_b48, v5_b48) = some x48 → aw E mL_whole Q 48 [(0, .ref a), (1, .int i0), (2, .long v2_b48), (4, .int v4_b39), (5, .int v5_b48)] [] H_b48 0 0 := by
            intro fu
            induction fu with
            | zero =>
              intro v2_b48 v5_b48 H_b48 h0 hs hm
              exact (it_0 hm).elim
            | succ fu ih48 =>
              intro v2_b48 v5_b48 H_b48 h0 hs hm
              obtain ⟨y48, hm, hk48⟩ := it_s hm
              have hm : fL_whole_b48 s v4_b39 v2_b48 v5_b48 = some y48 := hm
              unfold fL_whole_b48 at hm
              refine aw_b (pc' := 52) (lv' := [(0, .ref a), (1, .int i0), (2, .long v2_b48), (4, .int v4_b39), (5, .int v5_b48)]) (st' := [.int (6 : Int32), .int v5_b48]) [(48, .iload 5, 2, .null), (50, .bipush 6, 2, .int (6 : Int32))] (by decide +kernel) rfl ?_
              refine aw_ic_gt (off := 25) 77 (by decide) (by decide +kernel) (fun hc => ?_) (fun hc => ?_)
              · have hm := (if_pos hc).symm.trans hm
                cases hm
                refine aw_lv (lv' := [(0, .ref a), (1, .int i0), (2, .long v2_b48), (4, .int v4_b39)]) [0, 1, 2, 3] rfl ?_
                exact X48_77 v2_b48 H_b48 h0 hs ((congrArg (fL_whole_k48 v4_b39) (show (v2_b48) = x48 from hk48)).trans hr48)
              · have hm := (if_neg hc).symm.trans hm
                refine aw_ldc2 (v := (31 : Int64)) kwL_139 (by decide +kernel) ?_
                refine aw_b (pc' := 65) (lv' := [(0, .ref a), (1, .int i0), (2, .long v2_b48), (4, .int v4_b39), (5, .int v5_b48)]) (st' := [.int v5_b48, .int v4_b39, .ref a, .long ((31 : Int64) * v2_b48)]) [(58, .lload_n 2, 1, .null), (59, .lmul, 1, .null), (60, .aload_n 0, 1, .null), (61, .iload 4, 2, .null), (63, .iload 5, 2, .null)] (by decide +kernel) rfl ?_
                obtain ⟨r25, e26, hm⟩ := bn_x hm
                refine aw_cv (rest := [.long ((31 : Int64) * v2_b48)]) (st1 := [.int r25, .long ((31 : Int64) * v2_b48)]) a 0 (kX7_arm e26 h0) rfl rfl ckX7_arm lkL_141 h0 eo_M_0 ⟨_, _, rfl⟩ nkX7_arm rfl rfl rfl (Nat.le_of_ble_eq_true rfl) (Nat.zero_le _) (Nat.zero_le _) (by decide +kernel) (fun H27 z28 => ?_)
                have h0 := h0.kept0 z28
                have hs := hs.step0 z28
                refine aw_b (pc' := 48) (lv' := [(5, .int (v5_b48 + (1 : Int32))), (2, .long (((31 : Int64) * v2_b48) + (Int32.toInt64 r25))), (0, .ref a), (1, .int i0), (4, .int v4_b39)]) (st' := []) [(68, .i2l, 1, .null), (69, .ladd, 1, .null), (70, .lstore_n 2, 1, .null), (71, .iinc 5 1, 3, .int (1 : Int32)), (74, .goto (-26), 3, .null)] (by decide +kernel) rfl ?_
                cases hm
                refine aw_lv (lv' := [(0, .ref a), (1, .int i0), (2, .long (((31 : Int64) * v2_b48) + (Int32.toInt64 r25))), (4, .int v4_b39), (5, .int (v5_b48 + (1 : Int32)))]) [2, 3, 1, 4, 0] rfl ?_
                exact ih48 (((31 : Int64) * v2_b48) + (Int32.toInt64 r25)) (v5_b48 + (1 : Int32)) H27 h0 hs hk48
          refine aw_lv (lv' := [(0, .ref a), (1, .int i0), (2, .long v2_b39), (4, .int v4_b39), (5, .int (0 : Int32))]) [1, 2, 3, 4, 0] rfl ?_
          exact L48 FU_ v2_b39 (0 : Int32) H_b39 h0 hs hx48
    refine aw_lv (lv' := [(0, .ref a), (1, .int i0), (2, .long v2_x9_36), (4, .int (-1 : Int32))]) [1, 2, 3, 0] rfl ?_
    exact L39 FU_ v2_x9_36 (-1 : Int32) H_x9_36 h0 hs hx39
  have L9 : ∀ (fu : Nat) (v2_b9 : Int64) (v4_b9 : Int32) (H_b9 : Heap), has_ E H_b9 a ly_M s → sm_ H H_b9 0 0 → fL_whole_l9 s fu (v2_b9, v4_b9) = some x9 → aw E mL_whole Q 9 [(0, .ref a), (1, .int i0), (2, .long v2_b9), (4, .int v4_b9)] [] H_b9 0 0 := by
    intro fu
    induction fu with
    | zero =>
      intro v2_b9 v4_b9 H_b9 h0 hs hm
      exact (it_0 hm).elim
    | succ fu ih9 =>
      intro v2_b9 v4_b9 H_b9 h0 hs hm
      obtain ⟨y9, hm, hk9⟩ := it_s hm
      have hm : fL_whole_b9 s v2_b9 v4_b9 = some y9 := hm
      unfold fL_whole_b9 at hm
      refine aw_b (pc' := 13) (lv' := [(0, .ref a), (1, .int i0), (2, .long v2_b9), (4, .int v4_b9)]) (st' := [.int (14 : Int32), .int v4_b9]) [(9, .iload 4, 2, .null), (11, .bipush 14, 2, .int (14 : Int32))] (by decide +kernel) rfl ?_
      refine aw_ic_gt (off := 23) 36 (by decide) (by decide +kernel) (fun hc => ?_) (fun hc => ?_)
      · have hm := (if_pos hc).symm.trans hm
        cases hm
        refine aw_lv (lv' := [(0, .ref a), (1, .int i0), (2, .long v2_b9)]) [0, 1, 2] rfl ?_
        exact X9_36 v2_b9 H_b9 h0 hs ((congrArg (fL_whole_k9 s i0) (show (v2_b9) = x9 from hk9)).trans hr9)
      · have hm := (if_neg hc).symm.trans hm
        refine aw_ldc2 (v := (31 : Int64)) kwL_139 (by decide +kernel) ?_
        refine aw_b (pc' := 24) (lv' := [(0, .ref a), (1, .int i0), (2, .long v2_b9), (4, .int v4_b9)]) (st' := [.int v4_b9, .ref a, .long ((31 : Int64) * v2_b9)]) [(19, .lload_n 2, 1, .null), (20, .lmul, 1, .null), (21, .aload_n 0, 1, .null), (22, .iload 4, 2, .null)] (by decide +kernel) rfl ?_
        obtain ⟨r29, e30, hm⟩ := bn_x hm
        refine aw_cv (rest := [.long ((31 : Int64) * v2_b9)]) (st1 := [.int r29, .long ((31 : Int64) * v2_b9)]) a 0 (kX7_setting e30 h0) rfl rfl ckX7_setting lkL_111 h0 eo_M_0 ⟨_, _, rfl⟩ nkX7_setting rfl rfl rfl (Nat.le_of_ble_eq_true rfl) (Nat.zero_le _) (Nat.zero_le _) (by decide +kernel) (fun H31 z32 => ?_)
        have h0 := h0.kept0 z32
        have hs := hs.step0 z32
        refine aw_b (pc' := 9) (lv' := [(4, .int (v4_b9 + (1 : Int32))), (2, .long (((31 : Int64) * v2_b9) + (Int32.toInt64 r29))), (0, .ref a), (1, .int i0)]) (st' := []) [(27, .i2l, 1, .null), (28, .ladd, 1, .null), (29, .lstore_n 2, 1, .null), (30, .iinc 4 1, 3, .int (1 : Int32)), (33, .goto (-24), 3, .null)] (by decide +kernel) rfl ?_
        cases hm
        refine aw_lv (lv' := [(0, .ref a), (1, .int i0), (2, .long (((31 : Int64) * v2_b9) + (Int32.toInt64 r29))), (4, .int (v4_b9 + (1 : Int32)))]) [2, 3, 1, 0] rfl ?_
        exact ih9 (((31 : Int64) * v2_b9) + (Int32.toInt64 r29)) (v4_b9 + (1 : Int32)) H31 h0 hs hk9
  refine aw_lv (lv' := [(0, .ref a), (1, .int i0), (2, .long (Int32.toInt64 r1)), (4, .int (0 : Int32))]) [2, 3, 1, 0] rfl ?_
  exact L9 FU_ (Int32.toInt64 r1) (0 : Int32) H3 h0 hs hx9
