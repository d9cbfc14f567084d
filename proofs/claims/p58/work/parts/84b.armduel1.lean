/-! mirrors of methods, and that the methods do as they say: printed by wip/whole/gen_parts.py out of the listing -/
def mX7_append : mt_ := (yX7_append, cX7_append, 6, some .int, [], { frames := 0, locals := 0, cells := 0, slots := 0 })
theorem ckX7_append : cokV_ mX7_append := ⟨⟨(uw_mem 621 (by decide +kernel) (by decide +kernel)), (uw_mem 29 (by decide +kernel) (by decide +kernel)), by decide +kernel, by decide +kernel⟩, (uw_mem 619 (by decide +kernel) (by decide +kernel)), (uw_mem 620 (by decide +kernel) (by decide +kernel))⟩
theorem nkX7_append : nok_ mX7_append 1 := by decide +kernel
theorem fgX7_13 : fok_ RX7 13 7 1 := ⟨_, _, _, rfl, by decide, (uw_mem 466 (by decide +kernel) (by decide +kernel)), wkX7⟩
theorem eo_M_0 : eo_ ly_M 0 7 fsX7 := rfl
theorem fgX7_9 : fok_ RX7 9 7 0 := ⟨_, _, _, rfl, by decide, (uw_mem 465 (by decide +kernel) (by decide +kernel)), wkX7⟩
theorem fpX7_13 : fpk_ RX7 13 7 1 .int := ⟨_, _, _, tyX7, rfl, by decide, (uw_mem 466 (by decide +kernel) (by decide +kernel)), wkX7, tyX7_ok, nmX7, rfl, by decide +kernel⟩
theorem fsq_7_1 : fsp_ fsX7 1 := ⟨fun _ _ => rfl, fun _ _ _ => rfl⟩
theorem kwX7_68 : Cond.constantLong RX7 68 (255 : Int64) ∈ uw_ := (uw_mem 622 (by decide +kernel) (by decide +kernel))
def gX7_append_x52_109 (s_x52_109 : st_) : Option (st_ × Int32) :=
  some (s_x52_109, (s_x52_109 0 1))
def gX7_append_k52 (x : st_) : Option (st_ × Int32) :=
  gX7_append_x52_109 x
def gX7_append_j103 (v4_b52 : Int32) (s_j103 : st_) : Option ((Int32 × st_) ⊕ (st_)) :=
  some (.inl ((v4_b52 + (-8 : Int32)), s_j103))
def gX7_append_b52 (i0 : Int64) (v4_b52 : Int32) (s_b52 : st_) : Option ((Int32 × st_) ⊕ (st_)) :=
  if v4_b52 < (0 : Int32) then (some (.inr s_b52))
  else (if (Int8.toInt32 (Int32.toInt8 (Int64.toInt32 (((Int64.toUInt64 i0) >>> ((Int64.toUInt64 (Int32.toInt64 v4_b52)) &&& Int64.toUInt64 63)).toInt64)))) = (0 : Int32) then (gX7_append_j103 v4_b52 s_b52)
  else (if (500 : Int32) ≤ (s_b52 0 1) then (gX7_append_j103 v4_b52 s_b52)
  else (gd_ (ib_ (s_b52 0 1) 500) <|
  bd_ (pt_ s_b52 1 (ix_ (s_b52 0 1)) (nb_ (Int8.toInt32 (Int32.toInt8 (Int64.toInt32 (((Int64.toUInt64 i0) >>> ((Int64.toUInt64 (Int32.toInt64 v4_b52)) &&& Int64.toUInt64 63)).toInt64)))))) fun s2 =>
  bd_ (pt_ s2 0 1 ((s2 0 1) + (1 : Int32))) fun s6 =>
  gX7_append_j103 v4_b52 s6)))
def gX7_append_l52 (i0 : Int64) : Nat → (Int32 × st_) → Option (st_) :=
  it_ (fun v => gX7_append_b52 i0 v.1 v.2)
def gX7_append_x6_33 (s : st_) (i0 : Int64) (v3_x6_33 : Int32) : Option (st_ × Int32) :=
  if ((s 0 1) + v3_x6_33) ≤ (500 : Int32) then (bn_ (gX7_append_l52 i0 FU_ ((56 : Int32), s)) (gX7_append_k52))
  else (some (s, (-2 : Int32)))
def gX7_append_k6 (s : st_) (i0 : Int64) (x : Int32) : Option (st_ × Int32) :=
  gX7_append_x6_33 s i0 x
def gX7_append_j27 (v4_b6 : Int32) (v3_j27 : Int32) : Option ((Int32 × Int32) ⊕ (Int32)) :=
  some (.inl (v3_j27, (v4_b6 + (-8 : Int32))))
def gX7_append_b6 (i0 : Int64) (v3_b6 : Int32) (v4_b6 : Int32) : Option ((Int32 × Int32) ⊕ (Int32)) :=
  if v4_b6 < (0 : Int32) then (some (.inr v3_b6))
  else (if (lg_cmp ((((Int64.toUInt64 i0) >>> ((Int64.toUInt64 (Int32.toInt64 v4_b6)) &&& Int64.toUInt64 63)).toInt64) &&& (255 : Int64)) (0 : Int64)) = (0 : Int32) then (gX7_append_j27 v4_b6 v3_b6)
  else (gX7_append_j27 v4_b6 (v3_b6 + (1 : Int32))))
def gX7_append_l6 (i0 : Int64) : Nat → (Int32 × Int32) → Option (Int32) :=
  it_ (fun v => gX7_append_b6 i0 v.1 v.2)
def gX7_append (s : st_) (i0 : Int64) : Option (st_ × Int32) :=
  bn_ (gX7_append_l6 i0 FU_ ((0 : Int32), (56 : Int32))) (gX7_append_k6 s i0)
theorem kX7_append {E : ev_} {H : Heap} {a : Nat} {s : st_} {i0 : Int64} {r : st_ × Int32} (hm : gX7_append s i0 = some r) (h0 : has_ E H a ly_M s) (hf : ev_fr E a) : sp_ E mX7_append [.ref a, .long i0] H (po1 (.inl (some (.int r.2))) (fun Hn => sm_ H Hn a 119 ∧ has_ E Hn a ly_M r.1)) := by
  refine sp_of (by decide +kernel) rfl rfl ?_
  generalize hQ : po1 _ _ = Q
  have hs : sm_ H H a 119 := sm_.rfl'
  unfold gX7_append at hm
  refine aw_lv (lv' := [(0, .ref a), (1, .long i0)]) [0, 1] rfl ?_
  refine aw_b (pc' := 6) (lv' := [(4, .int (56 : Int32)), (3, .int (0 : Int32)), (0, .ref a), (1, .long i0)]) (st' := []) [(0, .iconst 0, 1, .int (0 : Int32)), (1, .istore_n 3, 1, .null), (2, .bipush 56, 2, .int (56 : Int32)), (4, .istore 4, 2, .null)] (by decide +kernel) rfl ?_
  obtain ⟨x6, hx6, hr6⟩ := bn_x hm
  have X6_33 : ∀ (v3_x6_33 : Int32) (H_x6_33 : Heap), has_ E H_x6_33 a ly_M s → sm_ H H_x6_33 a 119 → gX7_append_x6_33 s i0 v3_x6_33 = some r → aw E mX7_append Q 33 [(0, .ref a), (1, .long i0), (3, .int v3_x6_33)] [] H_x6_33 0 0 := by
    intro v3_x6_33 H_x6_33 h0 hs hm
    unfold gX7_append_x6_33 at hm
    refine aw_b (pc' := 34) (lv' := [(0, .ref a), (1, .long i0), (3, .int v3_x6_33)]) (st' := [.ref a]) [(33, .aload_n 0, 1, .null)] (by decide +kernel) rfl ?_
    refine aw_gl (v := .int (s 0 1)) a 0 h0 eo_M_0 fgX7_13 rfl (by decide +kernel) ?_
    refine aw_b (pc' := 42) (lv' := [(0, .ref a), (1, .long i0), (3, .int v3_x6_33)]) (st' := [.int (500 : Int32), .int ((s 0 1) + v3_x6_33)]) [(37, .iload_n 3, 1, .null), (38, .iadd, 1, .null), (39, .sipush 500, 3, .int (500 : Int32))] (by decide +kernel) rfl ?_
    refine aw_ic_le (off := 6) 48 (by decide) (by decide +kernel) (fun hc => ?_) (fun hc => ?_)
    · have hm := (if_pos hc).symm.trans hm
      refine aw_b (pc' := 52) (lv' := [(4, .int (56 : Int32)), (0, .ref a), (1, .long i0), (3, .int v3_x6_33)]) (st' := []) [(48, .bipush 56, 2, .int (56 : Int32)), (50, .istore 4, 2, .null)] (by decide +kernel) rfl ?_
      obtain ⟨x52, hx52, hr52⟩ := bn_x hm
      have X52_109 : ∀ (s_x52_109 : st_) (H_x52_109 : Heap), has_ E H_x52_109 a ly_M s_x52_109 → sm_ H H_x52_109 a 119 → gX7_append_x52_109 s_x52_109 = some r → aw E mX7_append Q 109 [(0, .ref a)] [] H_x52_109 0 0 := by
        intro s_x52_109 H_x52_109 h0 hs hm
        unfold gX7_append_x52_109 at hm
        refine aw_b (pc' := 110) (lv' := [(0, .ref a)]) (st' := [.ref a]) [(109, .aload_n 0, 1, .null)] (by decide +kernel) rfl ?_
        refine aw_gl (v := .int (s_x52_109 0 1)) a 0 h0 eo_M_0 fgX7_13 rfl (by decide +kernel) ?_
        obtain rfl := Option.some.inj hm
        subst hQ
        exact aw_iret rfl (Nat.zero_le _) (Nat.zero_le _) (by decide +kernel) ⟨rfl, hs, h0⟩
      have L52 : ∀ (fu : Nat) (v4_b52 : Int32) (s_b52 : st_) (H_b52 : Heap), has_ E H_b52 a ly_M s_b52 → sm_ H H_b52 a 119 → gX7_append_l52 i0 fu (v4_b52, s_b52) = some x52 → aw E mX7_append Q 52 [(0, .ref a), (1, .long i0), (4, .int v4_b52)] [] H_b52 0 0 := by
        intro fu
        induction fu with
        | zero =>
          intro v4_b52 s_b52 H_b52 h0 hs hm
          exact (it_0 hm).elim
        | succ fu ih52 =>
          intro v4_b52 s_b52 H_b52 h0 hs hm
          obtain ⟨y52, hm, hk52⟩ := it_s hm
          have hm : gX7_append_b52 i0 v4_b52 s_b52 = some y52 := hm
          unfold gX7_append_b52 at hm
          refine aw_b (pc' := 54) (lv' := [(0, .ref a), (1, .long i0), (4, .int v4_b52)]) (st' := [.int v4_b52]) [(52, .iload 4, 2, .null)] (by decide +kernel) rfl ?_
          refine aw_if_lt (off := 55) 109 (by decide) (by decide +kernel) (fun hc => ?_) (fun hc => ?_)
          · have hm := (if_pos hc).symm.trans hm
            cases hm
            refine aw_lv (lv' := [(0, .ref a)]) [0] rfl ?_
            exact X52_109 s_b52 H_b52 h0 hs ((congrArg gX7_append_k52 (show (s_b52) = x52 from hk52)).trans hr52)
          · have hm := (if_neg hc).symm.trans hm
            refine aw_b (pc' := 67) (lv' := [(5, .int (Int8.toInt32 (Int32.toInt8 (Int64.toInt32 (((Int64.toUInt64 i0) >>> ((Int64.toUInt64 (Int32.toInt64 v4_b52)) &&& Int64.toUInt64 63)).toInt64))))), (0, .ref a), (1, .long i0), (4, .int v4_b52)]) (st' := [.int (Int8.toInt32 (Int32.toInt8 (Int64.toInt32 (((Int64.toUInt64 i0) >>> ((Int64.toUInt64 (Int32.toInt64 v4_b52)) &&& Int64.toUInt64 63)).toInt64))))]) [(57, .lload_n 1, 1, .null), (58, .iload 4, 2, .null), (60, .lushr, 1, .null), (61, .l2i, 1, .null), (62, .i2b, 1, .null), (63, .istore 5, 2, .null), (65, .iload 5, 2, .null)] (by decide +kernel) rfl ?_
            have J103 : ∀ (s_j103 : st_) (H_j103 : Heap), has_ E H_j103 a ly_M s_j103 → sm_ H H_j103 a 119 → gX7_append_j103 v4_b52 s_j103 = some y52 → aw E mX7_append Q 103 [(0, .ref a), (1, .long i0), (4, .int v4_b52)] [] H_j103 0 0 := by
              intro s_j103 H_j103 h0 hs hm
              unfold gX7_append_j103 at hm
              refine aw_b (pc' := 52) (lv' := [(4, .int (v4_b52 + (-8 : Int32))), (0, .ref a), (1, .long i0)]) (st' := []) [(103, .iinc 4 (-8), 3, .int (-8 : Int32)), (106, .goto (-54), 3, .null)] (by decide +kernel) rfl ?_
              cases hm
              refine aw_lv (lv' := [(0, .ref a), (1, .long i0), (4, .int (v4_b52 + (-8 : Int32)))]) [1, 2, 0] rfl ?_
              exact ih52 (v4_b52 + (-8 : Int32)) s_j103 H_j103 h0 hs hk52
            refine aw_if_eq (off := 36) 103 (by decide) (by decide +kernel) (fun hc => ?_) (fun hc => ?_)
            · have hm := (if_pos hc).symm.trans hm
              refine aw_lv (lv' := [(0, .ref a), (1, .long i0), (4, .int v4_b52)]) [1, 2, 3] rfl ?_
              exact J103 s_b52 H_b52 h0 hs hm
            · have hm := (if_neg hc).symm.trans hm
              refine aw_b (pc' := 71) (lv' := [(5, .int (Int8.toInt32 (Int32.toInt8 (Int64.toInt32 (((Int64.toUInt64 i0) >>> ((Int64.toUInt64 (Int32.toInt64 v4_b52)) &&& Int64.toUInt64 63)).toInt64))))), (0, .ref a), (1, .long i0), (4, .int v4_b52)]) (st' := [.ref a]) [(70, .aload_n 0, 1, .null)] (by decide +kernel) rfl ?_
              refine aw_gl (v := .int (s_b52 0 1)) a 0 h0 eo_M_0 fgX7_13 rfl (by decide +kernel) ?_
              refine aw_b (pc' := 75) (lv' := [(5, .int (Int8.toInt32 (Int32.toInt8 (Int64.toInt32 (((Int64.toUInt64 i0) >>> ((Int64.toUInt64 (Int32.toInt64 v4_b52)) &&& Int64.toUInt64 63)).toInt64))))), (0, .ref a), (1, .long i0), (4, .int v4_b52)]) (st' := [.ref a, .int (s_b52 0 1)]) [(74, .aload_n 0, 1, .null)] (by decide +kernel) rfl ?_
              refine aw_gl (v := .ref (a + 1)) a 0 h0 eo_M_0 fgX7_9 rfl (by decide +kernel) ?_
              refine aw_all (ci := 1) (N := 500) (v := (500 : Int32)) a 1 h0 rfl (x := fun _ _ c => .inl c) (fun _ _ => rfl) rfl (by decide +kernel) (by decide +kernel) ?_
              refine aw_ic_ge (off := 24) 103 (by decide) (by decide +kernel) (fun hc => ?_) (fun hc => ?_)
              · have hm := (if_pos hc).symm.trans hm
                refine aw_lv (lv' := [(0, .ref a), (1, .long i0), (4, .int v4_b52)]) [1, 2, 3] rfl ?_
                exact J103 s_b52 H_b52 h0 hs hm
              · have hm := (if_neg hc).symm.trans hm
                refine aw_b (pc' := 83) (lv' := [(5, .int (Int8.toInt32 (Int32.toInt8 (Int64.toInt32 (((Int64.toUInt64 i0) >>> ((Int64.toUInt64 (Int32.toInt64 v4_b52)) &&& Int64.toUInt64 63)).toInt64))))), (0, .ref a), (1, .long i0), (4, .int v4_b52)]) (st' := [.ref a]) [(82, .aload_n 0, 1, .null)] (by decide +kernel) rfl ?_
                refine aw_gl (v := .ref (a + 1)) a 0 h0 eo_M_0 fgX7_9 rfl (by decide +kernel) ?_
                refine aw_b (pc' := 87) (lv' := [(5, .int (Int8.toInt32 (Int32.toInt8 (Int64.toInt32 (((Int64.toUInt64 i0) >>> ((Int64.toUInt64 (Int32.toInt64 v4_b52)) &&& Int64.toUInt64 63)).toInt64))))), (0, .ref a), (1, .long i0), (4, .int v4_b52)]) (st' := [.ref a, .ref (a + 1)]) [(86, .aload_n 0, 1, .null)] (by decide +kernel) rfl ?_
                refine aw_gl (v := .int (s_b52 0 1)) a 0 h0 eo_M_0 fgX7_13 rfl (by decide +kernel) ?_
                refine aw_b (pc' := 92) (lv' := [(5, .int (Int8.toInt32 (Int32.toInt8 (Int64.toInt32 (((Int64.toUInt64 i0) >>> ((Int64.toUInt64 (Int32.toInt64 v4_b52)) &&& Int64.toUInt64 63)).toInt64))))), (0, .ref a), (1, .long i0), (4, .int v4_b52)]) (st' := [.int (Int8.toInt32 (Int32.toInt8 (Int64.toInt32 (((Int64.toUInt64 i0) >>> ((Int64.toUInt64 (Int32.toInt64 v4_b52)) &&& Int64.toUInt64 63)).toInt64)))), .int (s_b52 0 1), .ref (a + 1)]) [(90, .iload 5, 2, .null)] (by decide +kernel) rfl ?_
                obtain ⟨g1, hm⟩ := gd_x hm
                obtain ⟨s2, e3, hm⟩ := bd_x hm
                refine aw_bsl a 1 h0 rfl hf g1 e3 (by decide +kernel) (fun H4 h0 z5 => ?_)
                have hs := hs.step z5 (by omega) (by omega)
                refine aw_b (pc' := 95) (lv' := [(5, .int (Int8.toInt32 (Int32.toInt8 (Int64.toInt32 (((Int64.toUInt64 i0) >>> ((Int64.toUInt64 (Int32.toInt64 v4_b52)) &&& Int64.toUInt64 63)).toInt64))))), (0, .ref a), (1, .long i0), (4, .int v4_b52)]) (st' := [.ref a, .ref a]) [(93, .aload_n 0, 1, .null), (94, .dup, 1, .null)] (by decide +kernel) rfl ?_
                refine aw_gl (v := .int (s2 0 1)) a 0 h0 eo_M_0 fgX7_13 rfl (by decide +kernel) ?_
                refine aw_b (pc' := 100) (lv' := [(5, .int (Int8.toInt32 (Int32.toInt8 (Int64.toInt32 (((Int64.toUInt64 i0) >>> ((Int64.toUInt64 (Int32.toInt64 v4_b52)) &&& Int64.toUInt64 63)).toInt64))))), (0, .ref a), (1, .long i0), (4, .int v4_b52)]) (st' := [.int ((s2 0 1) + (1 : Int32)), .ref a]) [(98, .iconst 1, 1, .int (1 : Int32)), (99, .iadd, 1, .null)] (by decide +kernel) rfl ?_
                obtain ⟨s6, e7, hm⟩ := bd_x hm
                refine aw_pl a 0 h0 eo_M_0 fsq_7_1 fpX7_13 hf rfl rfl e7 (by decide +kernel) (fun H8 h0 z9 => ?_)
                have hs := hs.step z9 (by omega) (by omega)
                refine aw_lv (lv' := [(0, .ref a), (1, .long i0), (4, .int v4_b52)]) [1, 2, 3] rfl ?_
                exact J103 s6 H8 h0 hs hm
      refine aw_lv (lv' := [(0, .ref a), (1, .long i0), (4, .int (56 : Int32))]) [1, 2, 0] rfl ?_
      exact L52 FU_ (56 : Int32) s H_x6_33 h0 hs hx52
    · have hm := (if_neg hc).symm.trans hm
      refine aw_b (pc' := 47) (lv' := [(0, .ref a), (1, .long i0), (3, .int v3_x6_33)]) (st' := [.int (-2 : Int32)]) [(45, .bipush (-2), 2, .int (-2 : Int32))] (by decide +kernel) rfl ?_
      obtain rfl := Option.some.inj hm
      subst hQ
      exact aw_iret rfl (Nat.zero_le _) (Nat.zero_le _) (by decide +kernel) ⟨rfl, hs, h0⟩
  have L6 : ∀ (fu : Nat) (v3_b6 : Int32) (v4_b6 : Int32) (H_b6 : Heap), has_ E H_b6 a ly_M s → sm_ H H_b6 a 119 → gX7_append_l6 i0 fu (v3_b6, v4_b6) = some x6 → aw E mX7_append Q 6 [(0, .ref a), (1, .long i0), (3, .int v3_b6), (4, .int v4_b6)] [] H_b6 0 0 := by
    intro fu
    induction fu with
    | zero =>
      intro v3_b6 v4_b6 H_b6 h0 hs hm
      exact (it_0 hm).elim
    | succ fu ih6 =>
      intro v3_b6 v4_b6 H_b6 h0 hs hm
      obtain ⟨y6, hm, hk6⟩ := it_s hm
      have hm : gX7_append_b6 i0 v3_b6 v4_b6 = some y6 := hm
      unfold gX7_append_b6 at hm
      refine aw_b (pc' := 8) (lv' := [(0, .ref a), (1, .long i0), (3, .int v3_b6), (4, .int v4_b6)]) (st' := [.int v4_b6]) [(6, .iload 4, 2, .null)] (by decide +kernel) rfl ?_
      refine aw_if_lt (off := 25) 33 (by decide) (by decide +kernel) (fun hc => ?_) (fun hc => ?_)
      · have hm := (if_pos hc).symm.trans hm
        cases hm
        refine aw_lv (lv' := [(0, .ref a), (1, .long i0), (3, .int v3_b6)]) [0, 1, 2] rfl ?_
        exact X6_33 v3_b6 H_b6 h0 hs ((congrArg (gX7_append_k6 s i0) (show (v3_b6) = x6 from hk6)).trans hr6)
      · have hm := (if_neg hc).symm.trans hm
        refine aw_b (pc' := 15) (lv' := [(0, .ref a), (1, .long i0), (3, .int v3_b6), (4, .int v4_b6)]) (st' := [.long (((Int64.toUInt64 i0) >>> ((Int64.toUInt64 (Int32.toInt64 v4_b6)) &&& Int64.toUInt64 63)).toInt64)]) [(11, .lload_n 1, 1, .null), (12, .iload 4, 2, .null), (14, .lushr, 1, .null)] (by decide +kernel) rfl ?_
        refine aw_ldc2 (v := (255 : Int64)) kwX7_68 (by decide +kernel) ?_
        refine aw_b (pc' := 21) (lv' := [(0, .ref a), (1, .long i0), (3, .int v3_b6), (4, .int v4_b6)]) (st' := [.int (lg_cmp ((((Int64.toUInt64 i0) >>> ((Int64.toUInt64 (Int32.toInt64 v4_b6)) &&& Int64.toUInt64 63)).toInt64) &&& (255 : Int64)) (0 : Int64))]) [(18, .land, 1, .null), (19, .lconst 0, 1, .long (0 : Int64)), (20, .lcmp, 1, .null)] (by decide +kernel) rfl ?_
        have J27 : ∀ (v3_j27 : Int32) (H_j27 : Heap), has_ E H_j27 a ly_M s → sm_ H H_j27 a 119 → gX7_append_j27 v4_b6 v3_j27 = some y6 → aw E mX7_append Q 27 [(0, .ref a), (1, .long i0), (3, .int v3_j27), (4, .int v4_b6)] [] H_j27 0 0 := by
          intro v3_j27 H_j27 h0 hs hm
          unfold gX7_append_j27 at hm
          refine aw_b (pc' := 6) (lv' := [(4, .int (v4_b6 + (-8 : Int32))), (0, .ref a), (1, .long i0), (3, .int v3_j27)]) (st' := []) [(27, .iinc 4 (-8), 3, .int (-8 : Int32)), (30, .goto (-24), 3, .null)] (by decide +kernel) rfl ?_
          cases hm
          refine aw_lv (lv' := [(0, .ref a), (1, .long i0), (3, .int v3_j27), (4, .int (v4_b6 + (-8 : Int32)))]) [1, 2, 3, 0] rfl ?_
          exact ih6 v3_j27 (v4_b6 + (-8 : Int32)) H_j27 h0 hs hk6
        refine aw_if_eq (off := 6) 27 (by decide) (by decide +kernel) (fun hc => ?_) (fun hc => ?_)
        · have hm := (if_pos hc).symm.trans hm
          exact J27 v3_b6 H_b6 h0 hs hm
        · have hm := (if_neg hc).symm.trans hm
          refine aw_b (pc' := 27) (lv' := [(3, .int (v3_b6 + (1 : Int32))), (0, .ref a), (1, .long i0), (4, .int v4_b6)]) (st' := []) [(24, .iinc 3 1, 3, .int (1 : Int32))] (by decide +kernel) rfl ?_
          refine aw_lv (lv' := [(0, .ref a), (1, .long i0), (3, .int (v3_b6 + (1 : Int32))), (4, .int v4_b6)]) [1, 2, 0, 3] rfl ?_
          exact J27 (v3_b6 + (1 : Int32)) H_b6 h0 hs hm
  refine aw_lv (lv' := [(0, .ref a), (1, .long i0), (3, .int (0 : Int32)), (4, .int (56 : Int32))]) [2, 3, 1, 0] rfl ?_
  exact L6 FU_ (0 : Int32) (56 : Int32) H h0 hs hx6
def mX7_load : mt_ := (yX7_load, cX7_load, 1, some .int, [], { frames := 12, locals := 296, cells := 0, slots := 0 })
theorem ckX7_load : cokV_ mX7_load := ⟨⟨(uw_mem 626 (by decide +kernel) (by decide +kernel)), (uw_mem 29 (by decide +kernel) (by decide +kernel)), by decide +kernel, by decide +kernel⟩, (uw_mem 624 (by decide +kernel) (by decide +kernel)), (uw_mem 625 (by decide +kernel) (by decide +kernel))⟩
theorem nkX7_load : nok_ mX7_load 0 := by decide +kernel
theorem fgX7_23 : fok_ RX7 23 7 3 := ⟨_, _, _, rfl, by decide, (uw_mem 468 (by decide +kernel) (by decide +kernel)), wkX7⟩
theorem lkX7_70 : Cond.methodLink RX7 70 yX3_readText ∈ uw_ := (uw_mem 627 (by decide +kernel) (by decide +kernel))
theorem su_M_1_B : sub_ ly_M 1 ly_B := sub_of rfl
theorem eo_M_2 : eo_ ly_M 2 3 fsX3 := rfl
theorem fgX7_74 : fok_ RX7 74 3 5 := ⟨_, _, _, rfl, by decide, (uw_mem 183 (by decide +kernel) (by decide +kernel)), wkX3⟩
theorem fpX7_17 : fpk_ RX7 17 7 2 .int := ⟨_, _, _, tyX7, rfl, by decide, (uw_mem 467 (by decide +kernel) (by decide +kernel)), wkX7, tyX7_ok, nmX7, rfl, by decide +kernel⟩
theorem fsq_7_2 : fsp_ fsX7 2 := ⟨fun _ _ => rfl, fun _ _ _ => rfl⟩
theorem fgX7_30 : fok_ RX7 30 7 4 := ⟨_, _, _, rfl, by decide, (uw_mem 469 (by decide +kernel) (by decide +kernel)), wkX7⟩
theorem fgX7_52 : fok_ RX7 52 3 0 := ⟨_, _, _, rfl, by decide, (uw_mem 177 (by decide +kernel) (by decide +kernel)), wkX3⟩
theorem lkX7_64 : Cond.methodLink RX7 64 yX2_begin ∈ uw_ := (uw_mem 437 (by decide +kernel) (by decide +kernel))
theorem su_M_8_G : sub_ ly_M 8 ly_G := sub_of rfl
theorem su_M_3_S : sub_ ly_M 3 ly_S := sub_of rfl
theorem eo_M_8 : eo_ ly_M 8 2 fsX2 := rfl
theorem fgX7_80 : fok_ RX7 80 2 0 := ⟨_, _, _, rfl, by decide, (uw_mem 398 (by decide +kernel) (by decide +kernel)), wkX2⟩
theorem fgX7_83 : fok_ RX7 83 1 0 := ⟨_, _, _, rfl, by decide, (uw_mem 280 (by decide +kernel) (by decide +kernel)), wkX1⟩
theorem eo_M_9 : eo_ ly_M 9 1 fsX1 := rfl
theorem fgX7_86 : fok_ RX7 86 5 4 := ⟨_, _, _, rfl, by decide, (uw_mem 90 (by decide +kernel) (by decide +kernel)), wkX5⟩
theorem eo_M_10 : eo_ ly_M 10 5 fsX5 := rfl
theorem fgX7_77 : fok_ RX7 77 3 6 := ⟨_, _, _, rfl, by decide, (uw_mem 185 (by decide +kernel) (by decide +kernel)), wkX3⟩
def gX7_load (s : st_) : Option (st_ × Int32) :=
  bn_ (fX3_readText (sb_ s 1) (s 0 1)) fun r1 =>
  bd_ (mg_ s 1 7 r1) fun s5 =>
  bd_ (pt_ s5 0 1 (0 : Int32)) fun s7 =>
  bd_ (pt_ s7 0 2 (s7 2 5)) fun s11 =>
  if (s11 2 5) = (0 : Int32) then (bn_ (fX2_begin (sb_ s11 8) (sb_ s11 3)) fun r15 =>
  bd_ (mg_ s11 8 75 r15) fun s19 =>
  some (s19, (s19 10 4)))
  else (some (s11, ((-100 : Int32) - (s11 2 6))))
theorem kX7_load {E : ev_} {H : Heap} {a : Nat} {s : st_} {r : st_ × Int32} (hm : gX7_load s = some r) (h0 : has_ E H a ly_M s) (hf : ev_fr E a) : sp_ E mX7_load [.ref a] H (po1 (.inl (some (.int r.2))) (fun Hn => sm_ H Hn a 119 ∧ has_ E Hn a ly_M r.1)) := by
  refine sp_of (by decide +kernel) rfl rfl ?_
  generalize hQ : po1 _ _ = Q
  have hs : sm_ H H a 119 := sm_.rfl'
  unfold gX7_load at hm
  refine aw_lv (lv' := [(0, .ref a)]) [0] rfl ?_
  refine aw_b (pc' := 1) (lv' := [(0, .ref a)]) (st' := [.ref a]) [(0, .aload_n 0, 1, .null)] (by decide +kernel) rfl ?_
  refine aw_gl (v := .ref (a + 2)) a 0 h0 eo_M_0 fgX7_23 rfl (by decide +kernel) ?_
  refine aw_b (pc' := 5) (lv' := [(0, .ref a)]) (st' := [.ref a, .ref (a + 2)]) [(4, .aload_n 0, 1, .null)] (by decide +kernel) rfl ?_
  refine aw_gl (v := .ref (a + 1)) a 0 h0 eo_M_0 fgX7_9 rfl (by decide +kernel) ?_
  refine aw_b (pc' := 9) (lv' := [(0, .ref a)]) (st' := [.ref a, .ref (a + 1), .ref (a + 2)]) [(8, .aload_n 0, 1, .null)] (by decide +kernel) rfl ?_
  refine aw_gl (v := .int (s 0 1)) a 0 h0 eo_M_0 fgX7_13 rfl (by decide +kernel) ?_
  obtain ⟨r1, e2, hm⟩ := bn_x hm
  refine aw_cv (rest := []) (st1 := []) a 2 (kX3_readText e2 (h0.sub su_M_1_B) (Nat.le_trans hf (Nat.le_add_right _ _))) rfl rfl ckX3_readText lkX7_70 h0 eo_M_2 ⟨_, _, rfl⟩ nkX3_readText rfl rfl rfl (Nat.le_of_ble_eq_true rfl) (Nat.zero_le _) (Nat.zero_le _) (by decide +kernel) (fun H3 z4 => ?_)
  obtain ⟨z4, hn⟩ := z4
  obtain ⟨s5, e6, hm⟩ := bd_x hm
  have h0 := h0.mg su_M_1_B hn z4 rfl e6
  have hs := hs.step z4 (by omega) (by omega)
  refine aw_b (pc' := 17) (lv' := [(0, .ref a)]) (st' := [.int (0 : Int32), .ref a]) [(15, .aload_n 0, 1, .null), (16, .iconst 0, 1, .int (0 : Int32))] (by decide +kernel) rfl ?_
  obtain ⟨s7, e8, hm⟩ := bd_x hm
  refine aw_pl a 0 h0 eo_M_0 fsq_7_1 fpX7_13 hf rfl rfl e8 (by decide +kernel) (fun H9 h0 z10 => ?_)
  have hs := hs.step z10 (by omega) (by omega)
  refine aw_b (pc' := 22) (lv' := [(0, .ref a)]) (st' := [.ref a, .ref a]) [(20, .aload_n 0, 1, .null), (21, .aload_n 0, 1, .null)] (by decide +kernel) rfl ?_
  refine aw_gl (v := .ref (a + 2)) a 0 h0 eo_M_0 fgX7_23 rfl (by decide +kernel) ?_
  refine aw_gl (v := .int (s7 2 5)) a 2 h0 eo_M_2 fgX7_74 rfl (by decide +kernel) ?_
  obtain ⟨s11, e12, hm⟩ := bd_x hm
  refine aw_pl a 0 h0 eo_M_0 fsq_7_2 fpX7_17 hf rfl rfl e12 (by decide +kernel) (fun H13 h0 z14 => ?_)
  have hs := hs.step z14 (by omega) (by omega)
  refine aw_b (pc' := 32) (lv' := [(0, .ref a)]) (st' := [.ref a]) [(31, .aload_n 0, 1, .null)] (by decide +kernel) rfl ?_
  refine aw_gl (v := .ref (a + 2)) a 0 h0 eo_M_0 fgX7_23 rfl (by decide +kernel) ?_
  refine aw_gl (v := .int (s11 2 5)) a 2 h0 eo_M_2 fgX7_74 rfl (by decide +kernel) ?_
  refine aw_if_eq (off := 14) 52 (by decide) (by decide +kernel) (fun hc => ?_) (fun hc => ?_)
  · have hm := (if_pos hc).symm.trans hm
    refine aw_b (pc' := 53) (lv' := [(0, .ref a)]) (st' := [.ref a]) [(52, .aload_n 0, 1, .null)] (by decide +kernel) rfl ?_
    refine aw_gl (v := .ref (a + 8)) a 0 h0 eo_M_0 fgX7_30 rfl (by decide +kernel) ?_
    refine aw_b (pc' := 57) (lv' := [(0, .ref a)]) (st' := [.ref a, .ref (a + 8)]) [(56, .aload_n 0, 1, .null)] (by decide +kernel) rfl ?_
    refine aw_gl (v := .ref (a + 2)) a 0 h0 eo_M_0 fgX7_23 rfl (by decide +kernel) ?_
    refine aw_gl (v := .ref (a + 3)) a 2 h0 eo_M_2 fgX7_52 rfl (by decide +kernel) ?_
    obtain ⟨r15, e16, hm⟩ := bn_x hm
    refine aw_cv (rest := []) (st1 := []) a 8 (kX2_begin e16 (h0.sub su_M_8_G) (h0.sub su_M_3_S) (Nat.le_trans hf (Nat.le_add_right _ _)) (by omega)) rfl rfl ckX2_begin lkX7_64 h0 eo_M_8 ⟨_, _, rfl⟩ nkX2_begin rfl rfl rfl (Nat.le_of_ble_eq_true rfl) (Nat.zero_le _) (Nat.zero_le _) (by decide +kernel) (fun H17 z18 => ?_)
    obtain ⟨z18, hn⟩ := z18
    obtain ⟨s19, e20, hm⟩ := bd_x hm
    have h0 := h0.mg su_M_8_G hn z18 rfl e20
    have hs := hs.step z18 (by omega) (by omega)
    refine aw_b (pc' := 67) (lv' := [(0, .ref a)]) (st' := [.ref a]) [(66, .aload_n 0, 1, .null)] (by decide +kernel) rfl ?_
    refine aw_gl (v := .ref (a + 8)) a 0 h0 eo_M_0 fgX7_30 rfl (by decide +kernel) ?_
    refine aw_gl (v := .ref (a + 9)) a 8 h0 eo_M_8 fgX7_80 rfl (by decide +kernel) ?_
    refine aw_gl (v := .ref (a + 10)) a 9 h0 eo_M_9 fgX7_83 rfl (by decide +kernel) ?_
    refine aw_gl (v := .int (s19 10 4)) a 10 h0 eo_M_10 fgX7_86 rfl (by decide +kernel) ?_
    obtain rfl := Option.some.inj hm
    subst hQ
    exact aw_iret rfl (Nat.zero_le _) (Nat.zero_le _) (by decide +kernel) ⟨rfl, hs, h0⟩
  · have hm := (if_neg hc).symm.trans hm
    refine aw_b (pc' := 44) (lv' := [(0, .ref a)]) (st' := [.ref a, .int (-100 : Int32)]) [(41, .bipush (-100), 2, .int (-100 : Int32)), (43, .aload_n 0, 1, .null)] (by decide +kernel) rfl ?_
    refine aw_gl (v := .ref (a + 2)) a 0 h0 eo_M_0 fgX7_23 rfl (by decide +kernel) ?_
    refine aw_gl (v := .int (s11 2 6)) a 2 h0 eo_M_2 fgX7_77 rfl (by decide +kernel) ?_
    refine aw_b (pc' := 51) (lv' := [(0, .ref a)]) (st' := [.int ((-100 : Int32) - (s11 2 6))]) [(50, .isub, 1, .null)] (by decide +kernel) rfl ?_
    obtain rfl := Option.some.inj hm
    subst hQ
    exact aw_iret rfl (Nat.zero_le _) (Nat.zero_le _) (by decide +kernel) ⟨rfl, hs, h0⟩
def mX7_setting : mt_ := (yX7_setting, cX7_setting, 4, some .int, [], { frames := 0, locals := 0, cells := 0, slots := 0 })
theorem ckX7_setting : cokV_ mX7_setting := ⟨⟨(uw_mem 493 (by decide +kernel) (by decide +kernel)), (uw_mem 29 (by decide +kernel) (by decide +kernel)), by decide +kernel, by decide +kernel⟩, (uw_mem 491 (by decide +kernel) (by decide +kernel)), (uw_mem 492 (by decide +kernel) (by decide +kernel))⟩
theorem nkX7_setting : nok_ mX7_setting 1 := by decide +kernel
theorem fgX7_89 : fok_ RX7 89 5 0 := ⟨_, _, _, rfl, by decide, (uw_mem 75 (by decide +kernel) (by decide +kernel)), wkX5⟩
theorem fgX7_92 : fok_ RX7 92 5 1 := ⟨_, _, _, rfl, by decide, (uw_mem 81 (by decide +kernel) (by decide +kernel)), wkX5⟩
theorem fgX7_95 : fok_ RX7 95 5 2 := ⟨_, _, _, rfl, by decide, (uw_mem 84 (by decide +kernel) (by decide +kernel)), wkX5⟩
theorem fgX7_98 : fok_ RX7 98 5 3 := ⟨_, _, _, rfl, by decide, (uw_mem 87 (by decide +kernel) (by decide +kernel)), wkX5⟩
theorem fgX7_101 : fok_ RX7 101 5 7 := ⟨_, _, _, rfl, by decide, (uw_mem 96 (by decide +kernel) (by decide +kernel)), wkX5⟩
theorem fgX7_104 : fok_ RX7 104 5 8 := ⟨_, _, _, rfl, by decide, (uw_mem 99 (by decide +kernel) (by decide +kernel)), wkX5⟩
theorem fgX7_107 : fok_ RX7 107 5 9 := ⟨_, _, _, rfl, by decide, (uw_mem 103 (by decide +kernel) (by decide +kernel)), wkX5⟩
theorem fgX7_110 : fok_ RX7 110 1 7 := ⟨_, _, _, rfl, by decide, (uw_mem 296 (by decide +kernel) (by decide +kernel)), wkX1⟩
theorem fgX7_113 : fok_ RX7 113 5 11 := ⟨_, _, _, rfl, by decide, (uw_mem 109 (by decide +kernel) (by decide +kernel)), wkX5⟩
theorem fgX7_116 : fok_ RX7 116 5 12 := ⟨_, _, _, rfl, by decide, (uw_mem 113 (by decide +kernel) (by decide +kernel)), wkX5⟩
theorem fgX7_119 : fok_ RX7 119 5 17 := ⟨_, _, _, rfl, by decide, (uw_mem 129 (by decide +kernel) (by decide +kernel)), wkX5⟩
theorem fgX7_122 : fok_ RX7 122 5 18 := ⟨_, _, _, rfl, by decide, (uw_mem 133 (by decide +kernel) (by decide +kernel)), wkX5⟩
theorem fgX7_125 : fok_ RX7 125 5 16 := ⟨_, _, _, rfl, by decide, (uw_mem 126 (by decide +kernel) (by decide +kernel)), wkX5⟩
theorem fgX7_128 : fok_ RX7 128 1 11 := ⟨_, _, _, rfl, by decide, (uw_mem 302 (by decide +kernel) (by decide +kernel)), wkX1⟩
def gX7_setting (s : st_) (i0 : Int32) : Option (Int32) :=
  if i0 = (0 : Int32) then (some (s 10 0))
  else (if i0 = (1 : Int32) then (some (s 10 1))
  else (if i0 = (2 : Int32) then (some (s 10 2))
  else (if i0 = (3 : Int32) then (some (s 10 3))
  else (if i0 = (4 : Int32) then (some (s 10 4))
  else (if i0 = (5 : Int32) then (some (s 10 7))
  else (if i0 = (6 : Int32) then (some (s 10 8))
  else (if i0 = (7 : Int32) then (some (s 10 9))
  else (if i0 = (8 : Int32) then (some (s 9 7))
  else (if i0 = (9 : Int32) then (some (s 10 11))
  else (if i0 = (10 : Int32) then (some (s 10 12))
  else (if i0 = (11 : Int32) then (some (s 10 17))
  else (if i0 = (12 : Int32) then (some (s 10 18))
  else (if i0 = (13 : Int32) then (some (s 10 16))
  else (if i0 = (14 : Int32) then (some (s 9 11))
  else (none)))))))))))))))
theorem kX7_setting {E : ev_} {H : Heap} {a : Nat} {s : st_} {i0 : Int32} {r : Int32} (hm : gX7_setting s i0 = some r) (h0 : has_ E H a ly_M s) : sp_ E mX7_setting [.ref a, .int i0] H (po1 (.inl (some (.int r))) (fun Hn => sm_ H Hn 0 0)) := by
  refine sp_of (by decide +kernel) rfl rfl ?_
  generalize hQ : po1 _ _ = Q
  have hs : sm_ H H 0 0 := sm_.rfl'
  unfold gX7_setting at hm
  refine aw_lv (lv' := [(0, .ref a), (1, .int i0)]) [0, 1] rfl ?_
  refine aw_b (pc' := 1) (lv' := [(0, .ref a), (1, .int i0)]) (st' := [.ref a]) [(0, .aload_n 0, 1, .null)] (by decide +kernel) rfl ?_
  refine aw_gl (v := .ref (a + 8)) a 0 h0 eo_M_0 fgX7_30 rfl (by decide +kernel) ?_
  refine aw_gl (v := .ref (a + 9)) a 8 h0 eo_M_8 fgX7_80 rfl (by decide +kernel) ?_
  refine aw_b (pc' := 9) (lv' := [(2, .ref (a + 9)), (0, .ref a), (1, .int i0)]) (st' := [.ref (a + 9)]) [(7, .astore_n 2, 1, .null), (8, .aload_n 2, 1, .null)] (by decide +kernel) rfl ?_
  refine aw_gl (v := .ref (a + 10)) a 9 h0 eo_M_9 fgX7_83 rfl (by decide +kernel) ?_
  refine aw_b (pc' := 14) (lv' := [(3, .ref (a + 10)), (2, .ref (a + 9)), (0, .ref a), (1, .int i0)]) (st' := [.int i0]) [(12, .astore_n 3, 1, .null), (13, .iload_n 1, 1, .null)] (by decide +kernel) rfl ?_
  refine aw_ts [((0 : Int32), 88), ((1 : Int32), 93), ((2 : Int32), 98), ((3 : Int32), 103), ((4 : Int32), 108), ((5 : Int32), 113), ((6 : Int32), 118), ((7 : Int32), 123), ((8 : Int32), 128), ((9 : Int32), 133), ((10 : Int32), 138), ((11 : Int32), 143), ((12 : Int32), 148), ((13 : Int32), 153), ((14 : Int32), 158)] 163 (by decide +kernel) ?_
  refine aw_tg (fun hc => ?_) (fun hc => ?_)
  · have hm := (if_pos hc).symm.trans hm
    refine aw_b (pc' := 89) (lv' := [(3, .ref (a + 10)), (2, .ref (a + 9)), (0, .ref a), (1, .int i0)]) (st' := [.ref (a + 10)]) [(88, .aload_n 3, 1, .null)] (by decide +kernel) rfl ?_
    refine aw_gl (v := .int (s 10 0)) a 10 h0 eo_M_10 fgX7_89 rfl (by decide +kernel) ?_
    obtain rfl := Option.some.inj hm
    subst hQ
    exact aw_iret rfl (Nat.zero_le _) (Nat.zero_le _) (by decide +kernel) ⟨rfl, hs⟩
  · have hm := (if_neg hc).symm.trans hm
    refine aw_tg (fun hc => ?_) (fun hc => ?_)
    · have hm := (if_pos hc).symm.trans hm
      refine aw_b (pc' := 94) (lv' := [(3, .ref (a + 10)), (2, .ref (a + 9)), (0, .ref a), (1, .int i0)]) (st' := [.ref (a + 10)]) [(93, .aload_n 3, 1, .null)] (by decide +kernel) rfl ?_
      refine aw_gl (v := .int (s 10 1)) a 10 h0 eo_M_10 fgX7_92 rfl (by decide +kernel) ?_
      obtain rfl := Option.some.inj hm
      subst hQ
      exact aw_iret rfl (Nat.zero_le _) (Nat.zero_le _) (by decide +kernel) ⟨rfl, hs⟩
    · have hm := (if_neg hc).symm.trans hm
      refine aw_tg (fun hc => ?_) (fun hc => ?_)
      · have hm := (if_pos hc).symm.trans hm
        refine aw_b (pc' := 99) (lv' := [(3, .ref (a + 10)), (2, .ref (a + 9)), (0, .ref a), (1, .int i0)]) (st' := [.ref (a + 10)]) [(98, .aload_n 3, 1, .null)] (by decide +kernel) rfl ?_
        refine aw_gl (v := .int (s 10 2)) a 10 h0 eo_M_10 fgX7_95 rfl (by decide +kernel) ?_
        obtain rfl := Option.some.inj hm
        subst hQ
        exact aw_iret rfl (Nat.zero_le _) (Nat.zero_le _) (by decide +kernel) ⟨rfl, hs⟩
      · have hm := (if_neg hc).symm.trans hm
        refine aw_tg (fun hc => ?_) (fun hc => ?_)
        · have hm := (if_pos hc).symm.trans hm
          refine aw_b (pc' := 104) (lv' := [(3, .ref (a + 10)), (2, .ref (a + 9)), (0, .ref a), (1, .int i0)]) (st' := [.ref (a + 10)]) [(103, .aload_n 3, 1, .null)] (by decide +kernel) rfl ?_
          refine aw_gl (v := .int (s 10 3)) a 10 h0 eo_M_10 fgX7_98 rfl (by decide +kernel) ?_
          obtain rfl := Option.some.inj hm
          subst hQ
          exact aw_iret rfl (Nat.zero_le _) (Nat.zero_le _) (by decide +kernel) ⟨rfl, hs⟩
        · have hm := (if_neg hc).symm.trans hm
          refine aw_tg (fun hc => ?_) (fun hc => ?_)
          · have hm := (if_pos hc).symm.trans hm
            refine aw_b (pc' := 109) (lv' := [(3, .ref (a + 10)), (2, .ref (a + 9)), (0, .ref a), (1, .int i0)]) (st' := [.ref (a + 10)]) [(108, .aload_n 3, 1, .null)] (by decide +kernel) rfl ?_
            refine aw_gl (v := .int (s 10 4)) a 10 h0 eo_M_10 fgX7_86 rfl (by decide +kernel) ?_
            obtain rfl := Option.some.inj hm
            subst hQ
            exact aw_iret rfl (Nat.zero_le _) (Nat.zero_le _) (by decide +kernel) ⟨rfl, hs⟩
          · have hm := (if_neg hc).symm.trans hm
            refine aw_tg (fun hc => ?_) (fun hc => ?_)
            · have hm := (if_pos hc).symm.trans hm
              refine aw_b (pc' := 114) (lv' := [(3, .ref (a + 10)), (2, .ref (a + 9)), (0, .ref a), (1, .int i0)]) (st' := [.ref (a + 10)]) [(113, .aload_n 3, 1, .null)] (by decide +kernel) rfl ?_
              refine aw_gl (v := .int (s 10 7)) a 10 h0 eo_M_10 fgX7_101 rfl (by decide +kernel) ?_
              obtain rfl := Option.some.inj hm
              subst hQ
              exact aw_iret rfl (Nat.zero_le _) (Nat.zero_le _) (by decide +kernel) ⟨rfl, hs⟩
            · have hm := (if_neg hc).symm.trans hm
              refine aw_tg (fun hc => ?_) (fun hc => ?_)
              · have hm := (if_pos hc).symm.trans hm
                refine aw_b (pc' := 119) (lv' := [(3, .ref (a + 10)), (2, .ref (a + 9)), (0, .ref a), (1, .int i0)]) (st' := [.ref (a + 10)]) [(118, .aload_n 3, 1, .null)] (by decide +kernel) rfl ?_
                refine aw_gl (v := .int (s 10 8)) a 10 h0 eo_M_10 fgX7_104 rfl (by decide +kernel) ?_
                obtain rfl := Option.some.inj hm
                subst hQ
                exact aw_iret rfl (Nat.zero_le _) (Nat.zero_le _) (by decide +kernel) ⟨rfl, hs⟩
              · have hm := (if_neg hc).symm.trans hm
                refine aw_tg (fun hc => ?_) (fun hc => ?_)
                · have hm := (if_pos hc).symm.trans hm
                  refine aw_b (pc' := 124) (lv' := [(3, .ref (a + 10)), (2, .ref (a + 9)), (0, .ref a), (1, .int i0)]) (st' := [.ref (a + 10)]) [(123, .aload_n 3, 1, .null)] (by decide +kernel) rfl ?_
                  refine aw_gl (v := .int (s 10 9)) a 10 h0 eo_M_10 fgX7_107 rfl (by decide +kernel) ?_
                  obtain rfl := Option.some.inj hm
                  subst hQ
                  exact aw_iret rfl (Nat.zero_le _) (Nat.zero_le _) (by decide +kernel) ⟨rfl, hs⟩
                · have hm := (if_neg hc).symm.trans hm
                  refine aw_tg (fun hc => ?_) (fun hc => ?_)
                  · have hm := (if_pos hc).symm.trans hm
                    refine aw_b (pc' := 129) (lv' := [(3, .ref (a + 10)), (2, .ref (a + 9)), (0, .ref a), (1, .int i0)]) (st' := [.ref (a + 9)]) [(128, .aload_n 2, 1, .null)] (by decide +kernel) rfl ?_
                    refine aw_gl (v := .int (s 9 7)) a 9 h0 eo_M_9 fgX7_110 rfl (by decide +kernel) ?_
                    obtain rfl := Option.some.inj hm
                    subst hQ
                    exact aw_iret rfl (Nat.zero_le _) (Nat.zero_le _) (by decide +kernel) ⟨rfl, hs⟩
                  · have hm := (if_neg hc).symm.trans hm
                    refine aw_tg (fun hc => ?_) (fun hc => ?_)
                    · have hm := (if_pos hc).symm.trans hm
                      refine aw_b (pc' := 134) (lv' := [(3, .ref (a + 10)), (2, .ref (a + 9)), (0, .ref a), (1, .int i0)]) (st' := [.ref (a + 10)]) [(133, .aload_n 3, 1, .null)] (by decide +kernel) rfl ?_
                      refine aw_gl (v := .int (s 10 11)) a 10 h0 eo_M_10 fgX7_113 rfl (by decide +kernel) ?_
                      obtain rfl := Option.some.inj hm
                      subst hQ
                      exact aw_iret rfl (Nat.zero_le _) (Nat.zero_le _) (by decide +kernel) ⟨rfl, hs⟩
                    · have hm := (if_neg hc).symm.trans hm
                      refine aw_tg (fun hc => ?_) (fun hc => ?_)
                      · have hm := (if_pos hc).symm.trans hm
                        refine aw_b (pc' := 139) (lv' := [(3, .ref (a + 10)), (2, .ref (a + 9)), (0, .ref a), (1, .int i0)]) (st' := [.ref (a + 10)]) [(138, .aload_n 3, 1, .null)] (by decide +kernel) rfl ?_
                        refine aw_gl (v := .int (s 10 12)) a 10 h0 eo_M_10 fgX7_116 rfl (by decide +kernel) ?_
                        obtain rfl := Option.some.inj hm
                        subst hQ
                        exact aw_iret rfl (Nat.zero_le _) (Nat.zero_le _) (by decide +kernel) ⟨rfl, hs⟩
                      · have hm := (if_neg hc).symm.trans hm
                        refine aw_tg (fun hc => ?_) (fun hc => ?_)
                        · have hm := (if_pos hc).symm.trans hm
                          refine aw_b (pc' := 144) (lv' := [(3, .ref (a + 10)), (2, .ref (a + 9)), (0, .ref a), (1, .int i0)]) (st' := [.ref (a + 10)]) [(143, .aload_n 3, 1, .null)] (by decide +kernel) rfl ?_
                          refine aw_gl (v := .int (s 10 17)) a 10 h0 eo_M_10 fgX7_119 rfl (by decide +kernel) ?_
                          obtain rfl := Option.some.inj hm
                          subst hQ
                          exact aw_iret rfl (Nat.zero_le _) (Nat.zero_le _) (by decide +kernel) ⟨rfl, hs⟩
                        · have hm := (if_neg hc).symm.trans hm
                          refine aw_tg (fun hc => ?_) (fun hc => ?_)
                          · have hm := (if_pos hc).symm.trans hm
                            refine aw_b (pc' := 149) (lv' := [(3, .ref (a + 10)), (2, .ref (a + 9)), (0, .ref a), (1, .int i0)]) (st' := [.ref (a + 10)]) [(148, .aload_n 3, 1, .null)] (by decide +kernel) rfl ?_
                            refine aw_gl (v := .int (s 10 18)) a 10 h0 eo_M_10 fgX7_122 rfl (by decide +kernel) ?_
                            obtain rfl := Option.some.inj hm
                            subst hQ
                            exact aw_iret rfl (Nat.zero_le _) (Nat.zero_le _) (by decide +kernel) ⟨rfl, hs⟩
                          · have hm := (if_neg hc).symm.trans hm
                            refine aw_tg (fun hc => ?_) (fun hc => ?_)
                            · have hm := (if_pos hc).symm.trans hm
                              refine aw_b (pc' := 154) (lv' := [(3, .ref (a + 10)), (2, .ref (a + 9)), (0, .ref a), (1, .int i0)]) (st' := [.ref (a + 10)]) [(153, .aload_n 3, 1, .null)] (by decide +kernel) rfl ?_
                              refine aw_gl (v := .int (s 10 16)) a 10 h0 eo_M_10 fgX7_125 rfl (by decide +kernel) ?_
                              obtain rfl := Option.some.inj hm
                              subst hQ
                              exact aw_iret rfl (Nat.zero_le _) (Nat.zero_le _) (by decide +kernel) ⟨rfl, hs⟩
                            · have hm := (if_neg hc).symm.trans hm
                              refine aw_tg (fun hc => ?_) (fun hc => ?_)
                              · have hm := (if_pos hc).symm.trans hm
                                refine aw_b (pc' := 159) (lv' := [(3, .ref (a + 10)), (2, .ref (a + 9)), (0, .ref a), (1, .int i0)]) (st' := [.ref (a + 9)]) [(158, .aload_n 2, 1, .null)] (by decide +kernel) rfl ?_
                                refine aw_gl (v := .int (s 9 11)) a 9 h0 eo_M_9 fgX7_128 rfl (by decide +kernel) ?_
                                obtain rfl := Option.some.inj hm
                                subst hQ
                                exact aw_iret rfl (Nat.zero_le _) (Nat.zero_le _) (by decide +kernel) ⟨rfl, hs⟩
                              · have hm := (if_neg hc).symm.trans hm
                                show aw E _ Q 163 _ _ _ _ _
                                cases hm
def mX7_requireRule : mt_ := (yX7_requireRule, cX7_requireRule, 2, none, [], { frames := 1, locals := 21, cells := 0, slots := 0 })
theorem ckX7_requireRule : cokV_ mX7_requireRule := ⟨⟨(uw_mem 1013 (by decide +kernel) (by decide +kernel)), (uw_mem 29 (by decide +kernel) (by decide +kernel)), by decide +kernel, by decide +kernel⟩, (uw_mem 1012 (by decide +kernel) (by decide +kernel)), (uw_mem 15 (by decide +kernel) (by decide +kernel))⟩
theorem nkX7_requireRule : nok_ mX7_requireRule 1 := by decide +kernel
theorem lkX7_381 : Cond.methodLink RX7 381 yX5_hasRule ∈ uw_ := (uw_mem 1014 (by decide +kernel) (by decide +kernel))
theorem su_M_10_S : sub_ ly_M 10 ly_S := sub_of rfl
def gX7_requireRule (s : st_) (i0 : Int32) : Option (Unit) :=
  bn_ (fX5_hasRule (sb_ s 10) i0) fun r1 =>
  if r1 = (0 : Int32) then (none)
  else (some ())
theorem kX7_requireRule {E : ev_} {H : Heap} {a : Nat} {s : st_} {i0 : Int32} {r : Unit} (hm : gX7_requireRule s i0 = some r) (h0 : has_ E H a ly_M s) : sp_ E mX7_requireRule [.ref a, .int i0] H (po1 (.inl (none)) (fun Hn => sm_ H Hn 0 0)) := by
  refine sp_of (by decide +kernel) rfl rfl ?_
  generalize hQ : po1 _ _ = Q
  have hs : sm_ H H 0 0 := sm_.rfl'
  unfold gX7_requireRule at hm
  refine aw_lv (lv' := [(0, .ref a), (1, .int i0)]) [0, 1] rfl ?_
  refine aw_b (pc' := 1) (lv' := [(0, .ref a), (1, .int i0)]) (st' := [.ref a]) [(0, .aload_n 0, 1, .null)] (by decide +kernel) rfl ?_
  refine aw_gl (v := .ref (a + 8)) a 0 h0 eo_M_0 fgX7_30 rfl (by decide +kernel) ?_
  refine aw_gl (v := .ref (a + 9)) a 8 h0 eo_M_8 fgX7_80 rfl (by decide +kernel) ?_
  refine aw_gl (v := .ref (a + 10)) a 9 h0 eo_M_9 fgX7_83 rfl (by decide +kernel) ?_
  refine aw_b (pc' := 11) (lv' := [(0, .ref a), (1, .int i0)]) (st' := [.int i0, .ref (a + 10)]) [(10, .iload_n 1, 1, .null)] (by decide +kernel) rfl ?_
  obtain ⟨r1, e2, hm⟩ := bn_x hm
  refine aw_cv (rest := []) (st1 := [.int r1]) a 10 (kX5_hasRule e2 (h0.sub su_M_10_S)) rfl rfl ckX5_hasRule lkX7_381 h0 eo_M_10 ⟨_, _, rfl⟩ nkX5_hasRule rfl rfl rfl (Nat.le_of_ble_eq_true rfl) (Nat.zero_le _) (Nat.zero_le _) (by decide +kernel) (fun H3 z4 => ?_)
  have h0 := h0.kept0 z4
  have hs := hs.step0 z4
  refine aw_if_ne (off := 14) 28 (by decide) (by decide +kernel) (fun hc => ?_) (fun hc => ?_)
  · have hm := (if_neg hc).symm.trans hm
    obtain rfl := Option.some.inj hm
    subst hQ
    exact aw_vret rfl (Nat.zero_le _) (Nat.zero_le _) (by decide +kernel) ⟨rfl, hs⟩
  · have hm := (if_pos hc).symm.trans hm
    cases hm
def mX7_rule : mt_ := (yX7_rule, cX7_rule, 3, some .int, [], { frames := 2, locals := 42, cells := 0, slots := 0 })
theorem ckX7_rule : cokV_ mX7_rule := ⟨⟨(uw_mem 1250 (by decide +kernel) (by decide +kernel)), (uw_mem 29 (by decide +kernel) (by decide +kernel)), by decide +kernel, by decide +kernel⟩, (uw_mem 1248 (by decide +kernel) (by decide +kernel)), (uw_mem 1249 (by decide +kernel) (by decide +kernel))⟩
theorem nkX7_rule : nok_ mX7_rule 2 := by decide +kernel
theorem lkX7_138 : Cond.methodLink RX7 138 yX7_requireRule ∈ uw_ := (uw_mem 1010 (by decide +kernel) (by decide +kernel))
theorem lkX7_142 : Cond.methodLink RX7 142 yX5_kindOf ∈ uw_ := (uw_mem 1251 (by decide +kernel) (by decide +kernel))
theorem lkX7_146 : Cond.methodLink RX7 146 yX5_widthOf ∈ uw_ := (uw_mem 1252 (by decide +kernel) (by decide +kernel))
theorem fgX7_149 : fok_ RX7 149 1 4 := ⟨_, _, _, rfl, by decide, (uw_mem 291 (by decide +kernel) (by decide +kernel)), wkX1⟩
theorem fgX7_153 : fok_ RX7 153 2 1 := ⟨_, _, _, rfl, by decide, (uw_mem 400 (by decide +kernel) (by decide +kernel)), wkX2⟩
theorem fgX7_157 : fok_ RX7 157 4 4 := ⟨_, _, _, rfl, by decide, (uw_mem 351 (by decide +kernel) (by decide +kernel)), wkX4⟩
theorem eo_M_42 : eo_ ly_M 42 4 fsX4 := rfl
theorem fgX7_162 : fok_ RX7 162 1 3 := ⟨_, _, _, rfl, by decide, (uw_mem 289 (by decide +kernel) (by decide +kernel)), wkX1⟩
theorem ra_M_20 : ral_ ly_M 20 5 6 3 24 := ⟨_, rfl, fun a k h => (if_pos h).trans (congrArg some (by omega))⟩
theorem fgX7_166 : fok_ RX7 166 0 5 := ⟨_, _, _, rfl, by decide, (uw_mem 238 (by decide +kernel) (by decide +kernel)), wkX0⟩
theorem eow_M_24 : ∀ k, k < 6 → eo_ ly_M (3 * k + 24) 0 fsX0 := by
  intro k hk
  match k, hk with
  | 0, _ => rfl
  | 1, _ => rfl
  | 2, _ => rfl
  | 3, _ => rfl
  | 4, _ => rfl
  | 5, _ => rfl
theorem fgX7_171 : fok_ RX7 171 4 5 := ⟨_, _, _, rfl, by decide, (uw_mem 353 (by decide +kernel) (by decide +kernel)), wkX4⟩
def gX7_rule (s : st_) (i0 : Int32) (i1 : Int32) : Option (Int32) :=
  bn_ (gX7_requireRule s i0) fun r1 =>
  if i1 = (0 : Int32) then (bn_ (fX5_kindOf (sb_ s 10) i0) fun r5 =>
  some r5)
  else (if i1 = (1 : Int32) then (bn_ (fX5_widthOf (sb_ s 10) i0) fun r9 =>
  some r9)
  else (if i1 = (2 : Int32) then (gd_ (ib_ i0 6) <|
  some (s 21 (ix_ i0)))
  else (if i1 = (3 : Int32) then (gd_ (ib_ i0 6) <|
  some (s 52 (ix_ i0)))
  else (if i1 = (4 : Int32) then (gd_ (ib_ i0 6) <|
  some (s (3 * ix_ i0 + 24) 5))
  else (if i1 = (5 : Int32) then (gd_ (ib_ i0 6) <|
  some (s 53 (ix_ i0)))
  else (none))))))
theorem kX7_rule {E : ev_} {H : Heap} {a : Nat} {s : st_} {i0 : Int32} {i1 : Int32} {r : Int32} (hm : gX7_rule s i0 i1 = some r) (h0 : has_ E H a ly_M s) : sp_ E mX7_rule [.ref a, .int i0, .int i1] H (po1 (.inl (some (.int r))) (fun Hn => sm_ H Hn 0 0)) := by
  refine sp_of (by decide +kernel) rfl rfl ?_
  generalize hQ : po1 _ _ = Q
  have hs : sm_ H H 0 0 := sm_.rfl'
  unfold gX7_rule at hm
  refine aw_lv (lv' := [(0, .ref a), (1, .int i0), (2, .int i1)]) [0, 1, 2] rfl ?_
  refine aw_b (pc' := 2) (lv' := [(0, .ref a), (1, .int i0), (2, .int i1)]) (st' := [.int i0, .ref a]) [(0, .aload_n 0, 1, .null), (1, .iload_n 1, 1, .null)] (by decide +kernel) rfl ?_
  obtain ⟨r1, e2, hm⟩ := bn_x hm
  refine aw_cv (rest := []) (st1 := []) a 0 (kX7_requireRule e2 h0) rfl rfl ckX7_requireRule lkX7_138 h0 eo_M_0 ⟨_, _, rfl⟩ nkX7_requireRule rfl rfl rfl (Nat.le_of_ble_eq_true rfl) (Nat.zero_le _) (Nat.zero_le _) (by decide +kernel) (fun H3 z4 => ?_)
  have h0 := h0.kept0 z4
  have hs := hs.step0 z4
  refine aw_b (pc' := 6) (lv' := [(0, .ref a), (1, .int i0), (2, .int i1)]) (st' := [.int i1]) [(5, .iload_n 2, 1, .null)] (by decide +kernel) rfl ?_
  refine aw_ts [((0 : Int32), 44), ((1 : Int32), 59), ((2 : Int32), 74), ((3 : Int32), 87), ((4 : Int32), 100), ((5 : Int32), 116)] 129 (by decide +kernel) ?_
  refine aw_tg (fun hc => ?_) (fun hc => ?_)
  · have hm := (if_pos hc).symm.trans hm
    refine aw_b (pc' := 45) (lv' := [(0, .ref a), (1, .int i0), (2, .int i1)]) (st' := [.ref a]) [(44, .aload_n 0, 1, .null)] (by decide +kernel) rfl ?_
    refine aw_gl (v := .ref (a + 8)) a 0 h0 eo_M_0 fgX7_30 rfl (by decide +kernel) ?_
    refine aw_gl (v := .ref (a + 9)) a 8 h0 eo_M_8 fgX7_80 rfl (by decide +kernel) ?_
    refine aw_gl (v := .ref (a + 10)) a 9 h0 eo_M_9 fgX7_83 rfl (by decide +kernel) ?_
    refine aw_b (pc' := 55) (lv' := [(0, .ref a), (1, .int i0), (2, .int i1)]) (st' := [.int i0, .ref (a + 10)]) [(54, .iload_n 1, 1, .null)] (by decide +kernel) rfl ?_
    obtain ⟨r5, e6, hm⟩ := bn_x hm
    refine aw_cv (rest := []) (st1 := [.int r5]) a 10 (kX5_kindOf e6 (h0.sub su_M_10_S)) rfl rfl ckX5_kindOf lkX7_142 h0 eo_M_10 ⟨_, _, rfl⟩ nkX5_kindOf rfl rfl rfl (Nat.le_of_ble_eq_true rfl) (Nat.zero_le _) (Nat.zero_le _) (by decide +kernel) (fun H7 z8 => ?_)
    have h0 := h0.kept0 z8
    have hs := hs.step0 z8
    obtain rfl := Option.some.inj hm
    subst hQ
    exact aw_iret rfl (Nat.zero_le _) (Nat.zero_le _) (by decide +kernel) ⟨rfl, hs⟩
  · have hm := (if_neg hc).symm.trans hm
    refine aw_tg (fun hc => ?_) (fun hc => ?_)
    · have hm := (if_pos hc).symm.trans hm
      refine aw_b (pc' := 60) (lv' := [(0, .ref a), (1, .int i0), (2, .int i1)]) (st' := [.ref a]) [(59, .aload_n 0, 1, .null)] (by decide +kernel) rfl ?_
      refine aw_gl (v := .ref (a + 8)) a 0 h0 eo_M_0 fgX7_30 rfl (by decide +kernel) ?_
      refine aw_gl (v := .ref (a + 9)) a 8 h0 eo_M_8 fgX7_80 rfl (by decide +kernel) ?_
      refine aw_gl (v := .ref (a + 10)) a 9 h0 eo_M_9 fgX7_83 rfl (by decide +kernel) ?_
      refine aw_b (pc' := 70) (lv' := [(0, .ref a), (1, .int i0), (2, .int i1)]) (st' := [.int i0, .ref (a + 10)]) [(69, .iload_n 1, 1, .null)] (by decide +kernel) rfl ?_
      obtain ⟨r9, e10, hm⟩ := bn_x hm
      refine aw_cv (rest := []) (st1 := [.int r9]) a 10 (kX5_widthOf e10 (h0.sub su_M_10_S)) rfl rfl ckX5_widthOf lkX7_146 h0 eo_M_10 ⟨_, _, rfl⟩ nkX5_widthOf rfl rfl rfl (Nat.le_of_ble_eq_true rfl) (Nat.zero_le _) (Nat.zero_le _) (by decide +kernel) (fun H11 z12 => ?_)
      have h0 := h0.kept0 z12
      have hs := hs.step0 z12
      obtain rfl := Option.some.inj hm
      subst hQ
      exact aw_iret rfl (Nat.zero_le _) (Nat.zero_le _) (by decide +kernel) ⟨rfl, hs⟩
    · have hm := (if_neg hc).symm.trans hm
      refine aw_tg (fun hc => ?_) (fun hc => ?_)
      · have hm := (if_pos hc).symm.trans hm
        refine aw_b (pc' := 75) (lv' := [(0, .ref a), (1, .int i0), (2, .int i1)]) (st' := [.ref a]) [(74, .aload_n 0, 1, .null)] (by decide +kernel) rfl ?_
        refine aw_gl (v := .ref (a + 8)) a 0 h0 eo_M_0 fgX7_30 rfl (by decide +kernel) ?_
        refine aw_gl (v := .ref (a + 9)) a 8 h0 eo_M_8 fgX7_80 rfl (by decide +kernel) ?_
        refine aw_gl (v := .ref (a + 21)) a 9 h0 eo_M_9 fgX7_149 rfl (by decide +kernel) ?_
        refine aw_b (pc' := 85) (lv' := [(0, .ref a), (1, .int i0), (2, .int i1)]) (st' := [.int i0, .ref (a + 21)]) [(84, .iload_n 1, 1, .null)] (by decide +kernel) rfl ?_
        obtain ⟨g13, hm⟩ := gd_x hm
        refine aw_ial a 21 h0 rfl g13 (by decide +kernel) ?_
        obtain rfl := Option.some.inj hm
        subst hQ
        exact aw_iret rfl (Nat.zero_le _) (Nat.zero_le _) (by decide +kernel) ⟨rfl, hs⟩
      · have hm := (if_neg hc).symm.trans hm
        refine aw_tg (fun hc => ?_) (fun hc => ?_)
        · have hm := (if_pos hc).symm.trans hm
          refine aw_b (pc' := 88) (lv' := [(0, .ref a), (1, .int i0), (2, .int i1)]) (st' := [.ref a]) [(87, .aload_n 0, 1, .null)] (by decide +kernel) rfl ?_
          refine aw_gl (v := .ref (a + 8)) a 0 h0 eo_M_0 fgX7_30 rfl (by decide +kernel) ?_
          refine aw_gl (v := .ref (a + 42)) a 8 h0 eo_M_8 fgX7_153 rfl (by decide +kernel) ?_
          refine aw_gl (v := .ref (a + 52)) a 42 h0 eo_M_42 fgX7_157 rfl (by decide +kernel) ?_
          refine aw_b (pc' := 98) (lv' := [(0, .ref a), (1, .int i0), (2, .int i1)]) (st' := [.int i0, .ref (a + 52)]) [(97, .iload_n 1, 1, .null)] (by decide +kernel) rfl ?_
          obtain ⟨g14, hm⟩ := gd_x hm
          refine aw_ial a 52 h0 rfl g14 (by decide +kernel) ?_
          obtain rfl := Option.some.inj hm
          subst hQ
          exact aw_iret rfl (Nat.zero_le _) (Nat.zero_le _) (by decide +kernel) ⟨rfl, hs⟩
        · have hm := (if_neg hc).symm.trans hm
          refine aw_tg (fun hc => ?_) (fun hc => ?_)
          · have hm := (if_pos hc).symm.trans hm
            refine aw_b (pc' := 101) (lv' := [(0, .ref a), (1, .int i0), (2, .int i1)]) (st' := [.ref a]) [(100, .aload_n 0, 1, .null)] (by decide +kernel) rfl ?_
            refine aw_gl (v := .ref (a + 8)) a 0 h0 eo_M_0 fgX7_30 rfl (by decide +kernel) ?_
            refine aw_gl (v := .ref (a + 9)) a 8 h0 eo_M_8 fgX7_80 rfl (by decide +kernel) ?_
            refine aw_gl (v := .ref (a + 20)) a 9 h0 eo_M_9 fgX7_162 rfl (by decide +kernel) ?_
            refine aw_b (pc' := 111) (lv' := [(0, .ref a), (1, .int i0), (2, .int i1)]) (st' := [.int i0, .ref (a + 20)]) [(110, .iload_n 1, 1, .null)] (by decide +kernel) rfl ?_
            obtain ⟨g15, hm⟩ := gd_x hm
            refine aw_rall a 20 h0 ra_M_20 g15 (by decide +kernel) ?_
            refine aw_gl (v := .int (s (3 * ix_ i0 + 24) 5)) a (3 * ix_ i0 + 24) h0 (eow_M_24 _ (ib_lt g15)) fgX7_166 rfl (by decide +kernel) ?_
            obtain rfl := Option.some.inj hm
            subst hQ
            exact aw_iret rfl (Nat.zero_le _) (Nat.zero_le _) (by decide +kernel) ⟨rfl, hs⟩
          · have hm := (if_neg hc).symm.trans hm
            refine aw_tg (fun hc => ?_) (fun hc => ?_)
            · have hm := (if_pos hc).symm.trans hm
              refine aw_b (pc' := 117) (lv' := [(0, .ref a), (1, .int i0), (2, .int i1)]) (st' := [.ref a]) [(116, .aload_n 0, 1, .null)] (by decide +kernel) rfl ?_
              refine aw_gl (v := .ref (a + 8)) a 0 h0 eo_M_0 fgX7_30 rfl (by decide +kernel) ?_
              refine aw_gl (v := .ref (a + 42)) a 8 h0 eo_M_8 fgX7_153 rfl (by decide +kernel) ?_
              refine aw_gl (v := .ref (a + 53)) a 42 h0 eo_M_42 fgX7_171 rfl (by decide +kernel) ?_
              refine aw_b (pc' := 127) (lv' := [(0, .ref a), (1, .int i0), (2, .int i1)]) (st' := [.int i0, .ref (a + 53)]) [(126, .iload_n 1, 1, .null)] (by decide +kernel) rfl ?_
              obtain ⟨g16, hm⟩ := gd_x hm
              refine aw_ial a 53 h0 rfl g16 (by decide +kernel) ?_
              obtain rfl := Option.some.inj hm
              subst hQ
              exact aw_iret rfl (Nat.zero_le _) (Nat.zero_le _) (by decide +kernel) ⟨rfl, hs⟩
            · have hm := (if_neg hc).symm.trans hm
              show aw E _ Q 129 _ _ _ _ _
              cases hm
def mX7_requireWithin : mt_ := (yX7_requireWithin, cX7_requireWithin, 3, none, [], { frames := 0, locals := 0, cells := 0, slots := 0 })
theorem ckX7_requireWithin : cokS_ mX7_requireWithin := ⟨⟨(uw_mem 984 (by decide +kernel) (by decide +kernel)), (uw_mem 29 (by decide +kernel) (by decide +kernel)), by decide +kernel, by decide +kernel⟩, (uw_mem 983 (by decide +kernel) (by decide +kernel))⟩
theorem nkX7_requireWithin : nok_ mX7_requireWithin 3 := by decide +kernel
def gX7_requireWithin_j10 : Option (Unit) :=
  none
def gX7_requireWithin (i0 : Int32) (i1 : Int32) (i2 : Int32) : Option (Unit) :=
  if i0 < i1 then (gX7_requireWithin_j10)
  else (if i0 ≤ i2 then (some ())
  else (gX7_requireWithin_j10))
theorem kX7_requireWithin {E : ev_} {H : Heap} {i0 : Int32} {i1 : Int32} {i2 : Int32} {r : Unit} (hm : gX7_requireWithin i0 i1 i2 = some r) : sp_ E mX7_requireWithin [.int i0, .int i1, .int i2] H (po1 (.inl (none)) (fun Hn => sm_ H Hn 0 0)) := by
  refine sp_of (by decide +kernel) rfl rfl ?_
  generalize hQ : po1 _ _ = Q
  have hs : sm_ H H 0 0 := sm_.rfl'
  unfold gX7_requireWithin at hm
  refine aw_lv (lv' := [(0, .int i0), (1, .int i1), (2, .int i2)]) [0, 1, 2] rfl ?_
  refine aw_b (pc' := 2) (lv' := [(0, .int i0), (1, .int i1), (2, .int i2)]) (st' := [.int i1, .int i0]) [(0, .iload_n 0, 1, .null), (1, .iload_n 1, 1, .null)] (by decide +kernel) rfl ?_
  have J10 : ∀ (H_j10 : Heap), sm_ H H_j10 0 0 → gX7_requireWithin_j10 = some r → aw E mX7_requireWithin Q 10 [] [] H_j10 0 0 := by
    intro H_j10 hs hm
    unfold gX7_requireWithin_j10 at hm
    cases hm
  refine aw_ic_lt (off := 8) 10 (by decide) (by decide +kernel) (fun hc => ?_) (fun hc => ?_)
  · have hm := (if_pos hc).symm.trans hm
    refine aw_lv (lv' := []) [] rfl ?_
    exact J10 H hs hm
  · have hm := (if_neg hc).symm.trans hm
    refine aw_b (pc' := 7) (lv' := [(0, .int i0), (1, .int i1), (2, .int i2)]) (st' := [.int i2, .int i0]) [(5, .iload_n 0, 1, .null), (6, .iload_n 2, 1, .null)] (by decide +kernel) rfl ?_
    refine aw_ic_le (off := 14) 21 (by decide) (by decide +kernel) (fun hc => ?_) (fun hc => ?_)
    · have hm := (if_pos hc).symm.trans hm
      obtain rfl := Option.some.inj hm
      subst hQ
      exact aw_vret rfl (Nat.zero_le _) (Nat.zero_le _) (by decide +kernel) ⟨rfl, hs⟩
    · have hm := (if_neg hc).symm.trans hm
      refine aw_lv (lv' := []) [] rfl ?_
      exact J10 H hs hm
def mX7_requireCylinder : mt_ := (yX7_requireCylinder, cX7_requireCylinder, 2, none, [], { frames := 1, locals := 22, cells := 0, slots := 0 })
theorem ckX7_requireCylinder : cokV_ mX7_requireCylinder := ⟨⟨(uw_mem 981 (by decide +kernel) (by decide +kernel)), (uw_mem 29 (by decide +kernel) (by decide +kernel)), by decide +kernel, by decide +kernel⟩, (uw_mem 980 (by decide +kernel) (by decide +kernel)), (uw_mem 14 (by decide +kernel) (by decide +kernel))⟩
theorem nkX7_requireCylinder : nok_ mX7_requireCylinder 1 := by decide +kernel
theorem lkX7_196 : Cond.methodLink RX7 196 yX7_requireWithin ∈ uw_ := (uw_mem 982 (by decide +kernel) (by decide +kernel))
def gX7_requireCylinder (s : st_) (i0 : Int32) : Option (Unit) :=
  bn_ (gX7_requireWithin i0 (0 : Int32) ((s 10 0) - (1 : Int32))) fun r1 =>
  some ()
theorem kX7_requireCylinder {E : ev_} {H : Heap} {a : Nat} {s : st_} {i0 : Int32} {r : Unit} (hm : gX7_requireCylinder s i0 = some r) (h0 : has_ E H a ly_M s) : sp_ E mX7_requireCylinder [.ref a, .int i0] H (po1 (.inl (none)) (fun Hn => sm_ H Hn 0 0)) := by
  refine sp_of (by decide +kernel) rfl rfl ?_
  generalize hQ : po1 _ _ = Q
  have hs : sm_ H H 0 0 := sm_.rfl'
  unfold gX7_requireCylinder at hm
  refine aw_lv (lv' := [(0, .ref a), (1, .int i0)]) [0, 1] rfl ?_
  refine aw_b (pc' := 3) (lv' := [(0, .ref a), (1, .int i0)]) (st' := [.ref a, .int (0 : Int32), .int i0]) [(0, .iload_n 1, 1, .null), (1, .iconst 0, 1, .int (0 : Int32)), (2, .aload_n 0, 1, .null)] (by decide +kernel) rfl ?_
  refine aw_gl (v := .ref (a + 8)) a 0 h0 eo_M_0 fgX7_30 rfl (by decide +kernel) ?_
  refine aw_gl (v := .ref (a + 9)) a 8 h0 eo_M_8 fgX7_80 rfl (by decide +kernel) ?_
  refine aw_gl (v := .ref (a + 10)) a 9 h0 eo_M_9 fgX7_83 rfl (by decide +kernel) ?_
  refine aw_gl (v := .int (s 10 0)) a 10 h0 eo_M_10 fgX7_89 rfl (by decide +kernel) ?_
  refine aw_b (pc' := 17) (lv' := [(0, .ref a), (1, .int i0)]) (st' := [.int ((s 10 0) - (1 : Int32)), .int (0 : Int32), .int i0]) [(15, .iconst 1, 1, .int (1 : Int32)), (16, .isub, 1, .null)] (by decide +kernel) rfl ?_
  obtain ⟨r1, e2, hm⟩ := bn_x hm
  refine aw_cs (rest := []) (st1 := []) (kX7_requireWithin e2) rfl rfl ckX7_requireWithin lkX7_196 nkX7_requireWithin rfl rfl rfl (Nat.le_of_ble_eq_true rfl) (Nat.zero_le _) (Nat.zero_le _) (by decide +kernel) (fun H3 z4 => ?_)
  have h0 := h0.kept0 z4
  have hs := hs.step0 z4
  obtain rfl := Option.some.inj hm
  subst hQ
  exact aw_vret rfl (Nat.zero_le _) (Nat.zero_le _) (by decide +kernel) ⟨rfl, hs⟩
def mX7_request : mt_ := (yX7_request, cX7_request, 2, some .int, [], { frames := 2, locals := 44, cells := 0, slots := 0 })
theorem ckX7_request : cokV_ mX7_request := ⟨⟨(uw_mem 977 (by decide +kernel) (by decide +kernel)), (uw_mem 29 (by decide +kernel) (by decide +kernel)), by decide +kernel, by decide +kernel⟩, (uw_mem 975 (by decide +kernel) (by decide +kernel)), (uw_mem 976 (by decide +kernel) (by decide +kernel))⟩
theorem nkX7_request : nok_ mX7_request 1 := by decide +kernel
theorem lkX7_179 : Cond.methodLink RX7 179 yX7_requireCylinder ∈ uw_ := (uw_mem 978 (by decide +kernel) (by decide +kernel))
theorem lkX7_182 : Cond.methodLink RX7 182 yX1_isFull ∈ uw_ := (uw_mem 986 (by decide +kernel) (by decide +kernel))
theorem su_M_9_D : sub_ ly_M 9 ly_D := sub_of rfl
theorem lkX7_186 : Cond.methodLink RX7 186 yX1_addForAll ∈ uw_ := (uw_mem 990 (by decide +kernel) (by decide +kernel))
theorem fgX7_189 : fok_ RX7 189 1 1 := ⟨_, _, _, rfl, by decide, (uw_mem 284 (by decide +kernel) (by decide +kernel)), wkX1⟩
theorem fgX7_193 : fok_ RX7 193 0 2 := ⟨_, _, _, rfl, by decide, (uw_mem 230 (by decide +kernel) (by decide +kernel)), wkX0⟩
theorem eo_M_14 : eo_ ly_M 14 0 fsX0 := rfl
def gX7_request (s : st_) (i0 : Int32) : Option (st_ × Int32) :=
  bn_ (gX7_requireCylinder s i0) fun r1 =>
  bn_ (fX1_isFull (sb_ s 9)) fun r5 =>
  if r5 = (0 : Int32) then (bn_ (fX1_addForAll (sb_ s 9) i0) fun r9 =>
  bd_ (mg_ s 9 33 r9) fun s13 =>
  some (s13, (s13 14 2)))
  else (some (s, (-2 : Int32)))
theorem kX7_request {E : ev_} {H : Heap} {a : Nat} {s : st_} {i0 : Int32} {r : st_ × Int32} (hm : gX7_request s i0 = some r) (h0 : has_ E H a ly_M s) (hf : ev_fr E a) : sp_ E mX7_request [.ref a, .int i0] H (po1 (.inl (some (.int r.2))) (fun Hn => sm_ H Hn a 119 ∧ has_ E Hn a ly_M r.1)) := by
  refine sp_of (by decide +kernel) rfl rfl ?_
  generalize hQ : po1 _ _ = Q
  have hs : sm_ H H a 119 := sm_.rfl'
  unfold gX7_request at hm
  refine aw_lv (lv' := [(0, .ref a), (1, .int i0)]) [0, 1] rfl ?_
  refine aw_b (pc' := 2) (lv' := [(0, .ref a), (1, .int i0)]) (st' := [.int i0, .ref a]) [(0, .aload_n 0, 1, .null), (1, .iload_n 1, 1, .null)] (by decide +kernel) rfl ?_
  obtain ⟨r1, e2, hm⟩ := bn_x hm
  refine aw_cv (rest := []) (st1 := []) a 0 (kX7_requireCylinder e2 h0) rfl rfl ckX7_requireCylinder lkX7_179 h0 eo_M_0 ⟨_, _, rfl⟩ nkX7_requireCylinder rfl rfl rfl (Nat.le_of_ble_eq_true rfl) (Nat.zero_le _) (Nat.zero_le _) (by decide +kernel) (fun H3 z4 => ?_)
  have h0 := h0.kept0 z4
  have hs := hs.step0 z4
  refine aw_b (pc' := 6) (lv' := [(0, .ref a), (1, .int i0)]) (st' := [.ref a]) [(5, .aload_n 0, 1, .null)] (by decide +kernel) rfl ?_
  refine aw_gl (v := .ref (a + 8)) a 0 h0 eo_M_0 fgX7_30 rfl (by decide +kernel) ?_
  refine aw_gl (v := .ref (a + 9)) a 8 h0 eo_M_8 fgX7_80 rfl (by decide +kernel) ?_
  obtain ⟨r5, e6, hm⟩ := bn_x hm
  refine aw_cv (rest := []) (st1 := [.int r5]) a 9 (kX1_isFull e6 (h0.sub su_M_9_D)) rfl rfl ckX1_isFull lkX7_182 h0 eo_M_9 ⟨_, _, rfl⟩ nkX1_isFull rfl rfl rfl (Nat.le_of_ble_eq_true rfl) (Nat.zero_le _) (Nat.zero_le _) (by decide +kernel) (fun H7 z8 => ?_)
  have h0 := h0.kept0 z8
  have hs := hs.step0 z8
  refine aw_if_eq (off := 6) 21 (by decide) (by decide +kernel) (fun hc => ?_) (fun hc => ?_)
  · have hm := (if_pos hc).symm.trans hm
    refine aw_b (pc' := 22) (lv' := [(0, .ref a), (1, .int i0)]) (st' := [.ref a]) [(21, .aload_n 0, 1, .null)] (by decide +kernel) rfl ?_
    refine aw_gl (v := .ref (a + 8)) a 0 h0 eo_M_0 fgX7_30 rfl (by decide +kernel) ?_
    refine aw_gl (v := .ref (a + 9)) a 8 h0 eo_M_8 fgX7_80 rfl (by decide +kernel) ?_
    refine aw_b (pc' := 29) (lv' := [(0, .ref a), (1, .int i0)]) (st' := [.int i0, .ref (a + 9)]) [(28, .iload_n 1, 1, .null)] (by decide +kernel) rfl ?_
    obtain ⟨r9, e10, hm⟩ := bn_x hm
    refine aw_cv (rest := []) (st1 := []) a 9 (kX1_addForAll e10 (h0.sub su_M_9_D) (Nat.le_trans hf (Nat.le_add_right _ _))) rfl rfl ckX1_addForAll lkX7_186 h0 eo_M_9 ⟨_, _, rfl⟩ nkX1_addForAll rfl rfl rfl (Nat.le_of_ble_eq_true rfl) (Nat.zero_le _) (Nat.zero_le _) (by decide +kernel) (fun H11 z12 => ?_)
    obtain ⟨z12, hn⟩ := z12
    obtain ⟨s13, e14, hm⟩ := bd_x hm
    have h0 := h0.mg su_M_9_D hn z12 rfl e14
    have hs := hs.step z12 (by omega) (by omega)
    refine aw_b (pc' := 33) (lv' := [(0, .ref a), (1, .int i0)]) (st' := [.ref a]) [(32, .aload_n 0, 1, .null)] (by decide +kernel) rfl ?_
    refine aw_gl (v := .ref (a + 8)) a 0 h0 eo_M_0 fgX7_30 rfl (by decide +kernel) ?_
    refine aw_gl (v := .ref (a + 9)) a 8 h0 eo_M_8 fgX7_80 rfl (by decide +kernel) ?_
    refine aw_gl (v := .ref (a + 14)) a 9 h0 eo_M_9 fgX7_189 rfl (by decide +kernel) ?_
    refine aw_gl (v := .int (s13 14 2)) a 14 h0 eo_M_14 fgX7_193 rfl (by decide +kernel) ?_
    obtain rfl := Option.some.inj hm
    subst hQ
    exact aw_iret rfl (Nat.zero_le _) (Nat.zero_le _) (by decide +kernel) ⟨rfl, hs, h0⟩
  · have hm := (if_neg hc).symm.trans hm
    refine aw_b (pc' := 20) (lv' := [(0, .ref a), (1, .int i0)]) (st' := [.int (-2 : Int32)]) [(18, .bipush (-2), 2, .int (-2 : Int32))] (by decide +kernel) rfl ?_
    obtain rfl := Option.some.inj hm
    subst hQ
    exact aw_iret rfl (Nat.zero_le _) (Nat.zero_le _) (by decide +kernel) ⟨rfl, hs, h0⟩
def mX7_setFoe : mt_ := (yX7_setFoe, cX7_setFoe, 3, some .int, [], { frames := 1, locals := 22, cells := 0, slots := 0 })
theorem ckX7_setFoe : cokV_ mX7_setFoe := ⟨⟨(uw_mem 1005 (by decide +kernel) (by decide +kernel)), (uw_mem 29 (by decide +kernel) (by decide +kernel)), by decide +kernel, by decide +kernel⟩, (uw_mem 1003 (by decide +kernel) (by decide +kernel)), (uw_mem 1004 (by decide +kernel) (by decide +kernel))⟩
theorem nkX7_setFoe : nok_ mX7_setFoe 1 := by decide +kernel
theorem fpX7_113 : fpk_ RX7 113 5 11 .int := ⟨_, _, _, tyX5, rfl, by decide, (uw_mem 109 (by decide +kernel) (by decide +kernel)), wkX5, tyX5_ok, nmX5, rfl, by decide +kernel⟩
def gX7_setFoe (s : st_) (i0 : Int32) : Option (st_ × Int32) :=
  bn_ (gX7_requireWithin i0 (0 : Int32) (5 : Int32)) fun r1 =>
  bd_ (pt_ s 10 11 i0) fun s5 =>
  some (s5, (s 10 11))
theorem kX7_setFoe {E : ev_} {H : Heap} {a : Nat} {s : st_} {i0 : Int32} {r : st_ × Int32} (hm : gX7_setFoe s i0 = some r) (h0 : has_ E H a ly_M s) (hf : ev_fr E a) : sp_ E mX7_setFoe [.ref a, .int i0] H (po1 (.inl (some (.int r.2))) (fun Hn => sm_ H Hn a 119 ∧ has_ E Hn a ly_M r.1)) := by
  refine sp_of (by decide +kernel) rfl rfl ?_
  generalize hQ : po1 _ _ = Q
  have hs : sm_ H H a 119 := sm_.rfl'
  unfold gX7_setFoe at hm
  refine aw_lv (lv' := [(0, .ref a), (1, .int i0)]) [0, 1] rfl ?_
  refine aw_b (pc' := 3) (lv' := [(0, .ref a), (1, .int i0)]) (st' := [.int (5 : Int32), .int (0 : Int32), .int i0]) [(0, .iload_n 1, 1, .null), (1, .iconst 0, 1, .int (0 : Int32)), (2, .iconst 5, 1, .int (5 : Int32))] (by decide +kernel) rfl ?_
  obtain ⟨r1, e2, hm⟩ := bn_x hm
  refine aw_cs (rest := []) (st1 := []) (kX7_requireWithin e2) rfl rfl ckX7_requireWithin lkX7_196 nkX7_requireWithin rfl rfl rfl (Nat.le_of_ble_eq_true rfl) (Nat.zero_le _) (Nat.zero_le _) (by decide +kernel) (fun H3 z4 => ?_)
  have h0 := h0.kept0 z4
  have hs := hs.step0 z4
  refine aw_b (pc' := 7) (lv' := [(0, .ref a), (1, .int i0)]) (st' := [.ref a]) [(6, .aload_n 0, 1, .null)] (by decide +kernel) rfl ?_
  refine aw_gl (v := .ref (a + 8)) a 0 h0 eo_M_0 fgX7_30 rfl (by decide +kernel) ?_
  refine aw_gl (v := .ref (a + 9)) a 8 h0 eo_M_8 fgX7_80 rfl (by decide +kernel) ?_
  refine aw_gl (v := .ref (a + 10)) a 9 h0 eo_M_9 fgX7_83 rfl (by decide +kernel) ?_
  refine aw_gl (v := .int (s 10 11)) a 10 h0 eo_M_10 fgX7_113 rfl (by decide +kernel) ?_
  refine aw_b (pc' := 21) (lv' := [(2, .int (s 10 11)), (0, .ref a), (1, .int i0)]) (st' := [.ref a]) [(19, .istore_n 2, 1, .null), (20, .aload_n 0, 1, .null)] (by decide +kernel) rfl ?_
  refine aw_gl (v := .ref (a + 8)) a 0 h0 eo_M_0 fgX7_30 rfl (by decide +kernel) ?_
  refine aw_gl (v := .ref (a + 9)) a 8 h0 eo_M_8 fgX7_80 rfl (by decide +kernel) ?_
  refine aw_gl (v := .ref (a + 10)) a 9 h0 eo_M_9 fgX7_83 rfl (by decide +kernel) ?_
  refine aw_b (pc' := 31) (lv' := [(2, .int (s 10 11)), (0, .ref a), (1, .int i0)]) (st' := [.int i0, .ref (a + 10)]) [(30, .iload_n 1, 1, .null)] (by decide +kernel) rfl ?_
  obtain ⟨s5, e6, hm⟩ := bd_x hm
  refine aw_pl a 10 h0 eo_M_10 fsq_5_11 fpX7_113 hf rfl rfl e6 (by decide +kernel) (fun H7 h0 z8 => ?_)
  have hs := hs.step z8 (by omega) (by omega)
  refine aw_b (pc' := 35) (lv' := [(2, .int (s 10 11)), (0, .ref a), (1, .int i0)]) (st' := [.int (s 10 11)]) [(34, .iload_n 2, 1, .null)] (by decide +kernel) rfl ?_
  obtain rfl := Option.some.inj hm
  subst hQ
  exact aw_iret rfl (Nat.zero_le _) (Nat.zero_le _) (by decide +kernel) ⟨rfl, hs, h0⟩
def mX7_setMaster : mt_ := (yX7_setMaster, cX7_setMaster, 4, some .int, [], { frames := 2, locals := 42, cells := 0, slots := 0 })
theorem ckX7_setMaster : cokV_ mX7_setMaster := ⟨⟨(uw_mem 1009 (by decide +kernel) (by decide +kernel)), (uw_mem 29 (by decide +kernel) (by decide +kernel)), by decide +kernel, by decide +kernel⟩, (uw_mem 1007 (by decide +kernel) (by decide +kernel)), (uw_mem 1008 (by decide +kernel) (by decide +kernel))⟩
theorem nkX7_setMaster : nok_ mX7_setMaster 2 := by decide +kernel
theorem lkX7_200 : Cond.methodLink RX7 200 yX5_takeMaster ∈ uw_ := (uw_mem 1034 (by decide +kernel) (by decide +kernel))
def gX7_setMaster_j16 (s : st_) (i0 : Int32) (i1 : Int32) : Option (st_ × Int32) :=
  bn_ (fX5_takeMaster (sb_ s 10) i0 i1) fun r5 =>
  bd_ (mg_ s 10 4 r5) fun s9 =>
  some (s9, (s 10 7))
def gX7_setMaster (s : st_) (i0 : Int32) (i1 : Int32) : Option (st_ × Int32) :=
  bn_ (gX7_requireWithin i0 (0 : Int32) (2 : Int32)) fun r1 =>
  if i0 = (2 : Int32) then (bn_ (gX7_requireRule s i1) fun r11 =>
  gX7_setMaster_j16 s i0 i1)
  else (gX7_setMaster_j16 s i0 i1)
theorem kX7_setMaster {E : ev_} {H : Heap} {a : Nat} {s : st_} {i0 : Int32} {i1 : Int32} {r : st_ × Int32} (hm : gX7_setMaster s i0 i1 = some r) (h0 : has_ E H a ly_M s) (hf : ev_fr E a) : sp_ E mX7_setMaster [.ref a, .int i0, .int i1] H (po1 (.inl (some (.int r.2))) (fun Hn => sm_ H Hn a 119 ∧ has_ E Hn a ly_M r.1)) := by
  refine sp_of (by decide +kernel) rfl rfl ?_
  generalize hQ : po1 _ _ = Q
  have hs : sm_ H H a 119 := sm_.rfl'
  unfold gX7_setMaster at hm
  refine aw_lv (lv' := [(0, .ref a), (1, .int i0), (2, .int i1)]) [0, 1, 2] rfl ?_
  refine aw_b (pc' := 3) (lv' := [(0, .ref a), (1, .int i0), (2, .int i1)]) (st' := [.int (2 : Int32), .int (0 : Int32), .int i0]) [(0, .iload_n 1, 1, .null), (1, .iconst 0, 1, .int (0 : Int32)), (2, .iconst 2, 1, .int (2 : Int32))] (by decide +kernel) rfl ?_
  obtain ⟨r1, e2, hm⟩ := bn_x hm
  refine aw_cs (rest := []) (st1 := []) (kX7_requireWithin e2) rfl rfl ckX7_requireWithin lkX7_196 nkX7_requireWithin rfl rfl rfl (Nat.le_of_ble_eq_true rfl) (Nat.zero_le _) (Nat.zero_le _) (by decide +kernel) (fun H3 z4 => ?_)
  have h0 := h0.kept0 z4
  have hs := hs.step0 z4
  refine aw_b (pc' := 8) (lv' := [(0, .ref a), (1, .int i0), (2, .int i1)]) (st' := [.int (2 : Int32), .int i0]) [(6, .iload_n 1, 1, .null), (7, .iconst 2, 1, .int (2 : Int32))] (by decide +kernel) rfl ?_
  have J16 : ∀ (H_j16 : Heap), has_ E H_j16 a ly_M s → sm_ H H_j16 a 119 → gX7_setMaster_j16 s i0 i1 = some r → aw E mX7_setMaster Q 16 [(0, .ref a), (1, .int i0), (2, .int i1)] [] H_j16 0 0 := by
    intro H_j16 h0 hs hm
    unfold gX7_setMaster_j16 at hm
    refine aw_b (pc' := 17) (lv' := [(0, .ref a), (1, .int i0), (2, .int i1)]) (st' := [.ref a]) [(16, .aload_n 0, 1, .null)] (by decide +kernel) rfl ?_
    refine aw_gl (v := .ref (a + 8)) a 0 h0 eo_M_0 fgX7_30 rfl (by decide +kernel) ?_
    refine aw_gl (v := .ref (a + 9)) a 8 h0 eo_M_8 fgX7_80 rfl (by decide +kernel) ?_
    refine aw_gl (v := .ref (a + 10)) a 9 h0 eo_M_9 fgX7_83 rfl (by decide +kernel) ?_
    refine aw_gl (v := .int (s 10 7)) a 10 h0 eo_M_10 fgX7_101 rfl (by decide +kernel) ?_
    refine aw_b (pc' := 31) (lv' := [(3, .int (s 10 7)), (0, .ref a), (1, .int i0), (2, .int i1)]) (st' := [.ref a]) [(29, .istore_n 3, 1, .null), (30, .aload_n 0, 1, .null)] (by decide +kernel) rfl ?_
    refine aw_gl (v := .ref (a + 8)) a 0 h0 eo_M_0 fgX7_30 rfl (by decide +kernel) ?_
    refine aw_gl (v := .ref (a + 9)) a 8 h0 eo_M_8 fgX7_80 rfl (by decide +kernel) ?_
    refine aw_gl (v := .ref (a + 10)) a 9 h0 eo_M_9 fgX7_83 rfl (by decide +kernel) ?_
    refine aw_b (pc' := 42) (lv' := [(3, .int (s 10 7)), (0, .ref a), (1, .int i0), (2, .int i1)]) (st' := [.int i1, .int i0, .ref (a + 10)]) [(40, .iload_n 1, 1, .null), (41, .iload_n 2, 1, .null)] (by decide +kernel) rfl ?_
    obtain ⟨r5, e6, hm⟩ := bn_x hm
    refine aw_cv (rest := []) (st1 := []) a 10 (kX5_takeMaster e6 (h0.sub su_M_10_S) (Nat.le_trans hf (Nat.le_add_right _ _))) rfl rfl ckX5_takeMaster lkX7_200 h0 eo_M_10 ⟨_, _, rfl⟩ nkX5_takeMaster rfl rfl rfl (Nat.le_of_ble_eq_true rfl) (Nat.zero_le _) (Nat.zero_le _) (by decide +kernel) (fun H7 z8 => ?_)
    obtain ⟨z8, hn⟩ := z8
    obtain ⟨s9, e10, hm⟩ := bd_x hm
    have h0 := h0.mg su_M_10_S hn z8 rfl e10
    have hs := hs.step z8 (by omega) (by omega)
    refine aw_b (pc' := 46) (lv' := [(3, .int (s 10 7)), (0, .ref a), (1, .int i0), (2, .int i1)]) (st' := [.int (s 10 7)]) [(45, .iload_n 3, 1, .null)] (by decide +kernel) rfl ?_
    obtain rfl := Option.some.inj hm
    subst hQ
    exact aw_iret rfl (Nat.zero_le _) (Nat.zero_le _) (by decide +kernel) ⟨rfl, hs, h0⟩
  refine aw_ic_ne (off := 8) 16 (by decide) (by decide +kernel) (fun hc => ?_) (fun hc => ?_)
  · have hm := (if_neg hc).symm.trans hm
    exact J16 H3 h0 hs hm
  · have hm := (if_pos hc).symm.trans hm
    refine aw_b (pc' := 13) (lv' := [(0, .ref a), (1, .int i0), (2, .int i1)]) (st' := [.int i1, .ref a]) [(11, .aload_n 0, 1, .null), (12, .iload_n 2, 1, .null)] (by decide +kernel) rfl ?_
    obtain ⟨r11, e12, hm⟩ := bn_x hm
    refine aw_cv (rest := []) (st1 := []) a 0 (kX7_requireRule e12 h0) rfl rfl ckX7_requireRule lkX7_138 h0 eo_M_0 ⟨_, _, rfl⟩ nkX7_requireRule rfl rfl rfl (Nat.le_of_ble_eq_true rfl) (Nat.zero_le _) (Nat.zero_le _) (by decide +kernel) (fun H13 z14 => ?_)
    have h0 := h0.kept0 z14
    have hs := hs.step0 z14
    exact J16 H13 h0 hs hm
def mX7_setEta : mt_ := (yX7_setEta, cX7_setEta, 3, some .int, [], { frames := 1, locals := 22, cells := 0, slots := 0 })
theorem ckX7_setEta : cokV_ mX7_setEta := ⟨⟨(uw_mem 1038 (by decide +kernel) (by decide +kernel)), (uw_mem 29 (by decide +kernel) (by decide +kernel)), by decide +kernel, by decide +kernel⟩, (uw_mem 1036 (by decide +kernel) (by decide +kernel)), (uw_mem 1037 (by decide +kernel) (by decide +kernel))⟩
theorem nkX7_setEta : nok_ mX7_setEta 1 := by decide +kernel
theorem fpX7_107 : fpk_ RX7 107 5 9 .int := ⟨_, _, _, tyX5, rfl, by decide, (uw_mem 103 (by decide +kernel) (by decide +kernel)), wkX5, tyX5_ok, nmX5, rfl, by decide +kernel⟩
def gX7_setEta (s : st_) (i0 : Int32) : Option (st_ × Int32) :=
  bn_ (gX7_requireWithin i0 (1 : Int32) (500 : Int32)) fun r1 =>
  bd_ (pt_ s 10 9 i0) fun s5 =>
  some (s5, (s 10 9))
theorem kX7_setEta {E : ev_} {H : Heap} {a : Nat} {s : st_} {i0 : Int32} {r : st_ × Int32} (hm : gX7_setEta s i0 = some r) (h0 : has_ E H a ly_M s) (hf : ev_fr E a) : sp_ E mX7_setEta [.ref a, .int i0] H (po1 (.inl (some (.int r.2))) (fun Hn => sm_ H Hn a 119 ∧ has_ E Hn a ly_M r.1)) := by
  refine sp_of (by decide +kernel) rfl rfl ?_
  generalize hQ : po1 _ _ = Q
  have hs : sm_ H H a 119 := sm_.rfl'
  unfold gX7_setEta at hm
  refine aw_lv (lv' := [(0, .ref a), (1, .int i0)]) [0, 1] rfl ?_
  refine aw_b (pc' := 5) (lv' := [(0, .ref a), (1, .int i0)]) (st' := [.int (500 : Int32), .int (1 : Int32), .int i0]) [(0, .iload_n 1, 1, .null), (1, .iconst 1, 1, .int (1 : Int32)), (2, .sipush 500, 3, .int (500 : Int32))] (by decide +kernel) rfl ?_
  obtain ⟨r1, e2, hm⟩ := bn_x hm
  refine aw_cs (rest := []) (st1 := []) (kX7_requireWithin e2) rfl rfl ckX7_requireWithin lkX7_196 nkX7_requireWithin rfl rfl rfl (Nat.le_of_ble_eq_true rfl) (Nat.zero_le _) (Nat.zero_le _) (by decide +kernel) (fun H3 z4 => ?_)
  have h0 := h0.kept0 z4
  have hs := hs.step0 z4
  refine aw_b (pc' := 9) (lv' := [(0, .ref a), (1, .int i0)]) (st' := [.ref a]) [(8, .aload_n 0, 1, .null)] (by decide +kernel) rfl ?_
  refine aw_gl (v := .ref (a + 8)) a 0 h0 eo_M_0 fgX7_30 rfl (by decide +kernel) ?_
  refine aw_gl (v := .ref (a + 9)) a 8 h0 eo_M_8 fgX7_80 rfl (by decide +kernel) ?_
  refine aw_gl (v := .ref (a + 10)) a 9 h0 eo_M_9 fgX7_83 rfl (by decide +kernel) ?_
  refine aw_gl (v := .int (s 10 9)) a 10 h0 eo_M_10 fgX7_107 rfl (by decide +kernel) ?_
  refine aw_b (pc' := 23) (lv' := [(2, .int (s 10 9)), (0, .ref a), (1, .int i0)]) (st' := [.ref a]) [(21, .istore_n 2, 1, .null), (22, .aload_n 0, 1, .null)] (by decide +kernel) rfl ?_
  refine aw_gl (v := .ref (a + 8)) a 0 h0 eo_M_0 fgX7_30 rfl (by decide +kernel) ?_
  refine aw_gl (v := .ref (a + 9)) a 8 h0 eo_M_8 fgX7_80 rfl (by decide +kernel) ?_
  refine aw_gl (v := .ref (a + 10)) a 9 h0 eo_M_9 fgX7_83 rfl (by decide +kernel) ?_
  refine aw_b (pc' := 33) (lv' := [(2, .int (s 10 9)), (0, .ref a), (1, .int i0)]) (st' := [.int i0, .ref (a + 10)]) [(32, .iload_n 1, 1, .null)] (by decide +kernel) rfl ?_
  obtain ⟨s5, e6, hm⟩ := bd_x hm
  refine aw_pl a 10 h0 eo_M_10 fsq_5_9 fpX7_107 hf rfl rfl e6 (by decide +kernel) (fun H7 h0 z8 => ?_)
  have hs := hs.step z8 (by omega) (by omega)
  refine aw_b (pc' := 37) (lv' := [(2, .int (s 10 9)), (0, .ref a), (1, .int i0)]) (st' := [.int (s 10 9)]) [(36, .iload_n 2, 1, .null)] (by decide +kernel) rfl ?_
  obtain rfl := Option.some.inj hm
  subst hQ
  exact aw_iret rfl (Nat.zero_le _) (Nat.zero_le _) (by decide +kernel) ⟨rfl, hs, h0⟩
def mX7_setBudget : mt_ := (yX7_setBudget, cX7_setBudget, 3, some .int, [], { frames := 1, locals := 22, cells := 0, slots := 0 })
theorem ckX7_setBudget : cokV_ mX7_setBudget := ⟨⟨(uw_mem 1047 (by decide +kernel) (by decide +kernel)), (uw_mem 29 (by decide +kernel) (by decide +kernel)), by decide +kernel, by decide +kernel⟩, (uw_mem 1045 (by decide +kernel) (by decide +kernel)), (uw_mem 1046 (by decide +kernel) (by decide +kernel))⟩
theorem nkX7_setBudget : nok_ mX7_setBudget 1 := by decide +kernel
theorem lkX7_204 : Cond.methodLink RX7 204 yX1_takeBudget ∈ uw_ := (uw_mem 1048 (by decide +kernel) (by decide +kernel))
def gX7_setBudget (s : st_) (i0 : Int32) : Option (st_ × Int32) :=
  bn_ (gX7_requireWithin i0 (-1 : Int32) (999 : Int32)) fun r1 =>
  bn_ (fX1_takeBudget (sb_ s 9) i0) fun r5 =>
  bd_ (mg_ s 9 33 r5) fun s9 =>
  some (s9, (s 10 16))
theorem kX7_setBudget {E : ev_} {H : Heap} {a : Nat} {s : st_} {i0 : Int32} {r : st_ × Int32} (hm : gX7_setBudget s i0 = some r) (h0 : has_ E H a ly_M s) (hf : ev_fr E a) : sp_ E mX7_setBudget [.ref a, .int i0] H (po1 (.inl (some (.int r.2))) (fun Hn => sm_ H Hn a 119 ∧ has_ E Hn a ly_M r.1)) := by
  refine sp_of (by decide +kernel) rfl rfl ?_
  generalize hQ : po1 _ _ = Q
  have hs : sm_ H H a 119 := sm_.rfl'
  unfold gX7_setBudget at hm
  refine aw_lv (lv' := [(0, .ref a), (1, .int i0)]) [0, 1] rfl ?_
  refine aw_b (pc' := 5) (lv' := [(0, .ref a), (1, .int i0)]) (st' := [.int (999 : Int32), .int (-1 : Int32), .int i0]) [(0, .iload_n 1, 1, .null), (1, .iconst (-1), 1, .int (-1 : Int32)), (2, .sipush 999, 3, .int (999 : Int32))] (by decide +kernel) rfl ?_
  obtain ⟨r1, e2, hm⟩ := bn_x hm
  refine aw_cs (rest := []) (st1 := []) (kX7_requireWithin e2) rfl rfl ckX7_requireWithin lkX7_196 nkX7_requireWithin rfl rfl rfl (Nat.le_of_ble_eq_true rfl) (Nat.zero_le _) (Nat.zero_le _) (by decide +kernel) (fun H3 z4 => ?_)
  have h0 := h0.kept0 z4
  have hs := hs.step0 z4
  refine aw_b (pc' := 9) (lv' := [(0, .ref a), (1, .int i0)]) (st' := [.ref a]) [(8, .aload_n 0, 1, .null)] (by decide +kernel) rfl ?_
  refine aw_gl (v := .ref (a + 8)) a 0 h0 eo_M_0 fgX7_30 rfl (by decide +kernel) ?_
  refine aw_gl (v := .ref (a + 9)) a 8 h0 eo_M_8 fgX7_80 rfl (by decide +kernel) ?_
  refine aw_gl (v := .ref (a + 10)) a 9 h0 eo_M_9 fgX7_83 rfl (by decide +kernel) ?_
  refine aw_gl (v := .int (s 10 16)) a 10 h0 eo_M_10 fgX7_125 rfl (by decide +kernel) ?_
  refine aw_b (pc' := 23) (lv' := [(2, .int (s 10 16)), (0, .ref a), (1, .int i0)]) (st' := [.ref a]) [(21, .istore_n 2, 1, .null), (22, .aload_n 0, 1, .null)] (by decide +kernel) rfl ?_
  refine aw_gl (v := .ref (a + 8)) a 0 h0 eo_M_0 fgX7_30 rfl (by decide +kernel) ?_
  refine aw_gl (v := .ref (a + 9)) a 8 h0 eo_M_8 fgX7_80 rfl (by decide +kernel) ?_
  refine aw_b (pc' := 30) (lv' := [(2, .int (s 10 16)), (0, .ref a), (1, .int i0)]) (st' := [.int i0, .ref (a + 9)]) [(29, .iload_n 1, 1, .null)] (by decide +kernel) rfl ?_
  obtain ⟨r5, e6, hm⟩ := bn_x hm
  refine aw_cv (rest := []) (st1 := []) a 9 (kX1_takeBudget e6 (h0.sub su_M_9_D) (Nat.le_trans hf (Nat.le_add_right _ _))) rfl rfl ckX1_takeBudget lkX7_204 h0 eo_M_9 ⟨_, _, rfl⟩ nkX1_takeBudget rfl rfl rfl (Nat.le_of_ble_eq_true rfl) (Nat.zero_le _) (Nat.zero_le _) (by decide +kernel) (fun H7 z8 => ?_)
  obtain ⟨z8, hn⟩ := z8
  obtain ⟨s9, e10, hm⟩ := bd_x hm
  have h0 := h0.mg su_M_9_D hn z8 rfl e10
  have hs := hs.step z8 (by omega) (by omega)
  refine aw_b (pc' := 34) (lv' := [(2, .int (s 10 16)), (0, .ref a), (1, .int i0)]) (st' := [.int (s 10 16)]) [(33, .iload_n 2, 1, .null)] (by decide +kernel) rfl ?_
  obtain rfl := Option.some.inj hm
  subst hQ
  exact aw_iret rfl (Nat.zero_le _) (Nat.zero_le _) (by decide +kernel) ⟨rfl, hs, h0⟩
def mX7_addAsk : mt_ := (yX7_addAsk, cX7_addAsk, 3, some .int, [], { frames := 2, locals := 43, cells := 0, slots := 0 })
theorem ckX7_addAsk : cokV_ mX7_addAsk := ⟨⟨(uw_mem 1042 (by decide +kernel) (by decide +kernel)), (uw_mem 29 (by decide +kernel) (by decide +kernel)), by decide +kernel, by decide +kernel⟩, (uw_mem 1040 (by decide +kernel) (by decide +kernel)), (uw_mem 1041 (by decide +kernel) (by decide +kernel))⟩
theorem nkX7_addAsk : nok_ mX7_addAsk 1 := by decide +kernel
theorem lkX7_208 : Cond.methodLink RX7 208 yX5_putAsk ∈ uw_ := (uw_mem 1043 (by decide +kernel) (by decide +kernel))
def gX7_addAsk (s : st_) (i0 : Int32) : Option (st_ × Int32) :=
  bn_ (gX7_requireCylinder s i0) fun r1 =>
  if (s 10 12) < (16 : Int32) then (bn_ (fX5_putAsk (sb_ s 10) i0) fun r5 =>
  bd_ (mg_ s 10 4 r5) fun s9 =>
  some (s9, ((s9 10 12) - (1 : Int32))))
  else (some (s, (-2 : Int32)))
theorem kX7_addAsk {E : ev_} {H : Heap} {a : Nat} {s : st_} {i0 : Int32} {r : st_ × Int32} (hm : gX7_addAsk s i0 = some r) (h0 : has_ E H a ly_M s) (hf : ev_fr E a) : sp_ E mX7_addAsk [.ref a, .int i0] H (po1 (.inl (some (.int r.2))) (fun Hn => sm_ H Hn a 119 ∧ has_ E Hn a ly_M r.1)) := by
  refine sp_of (by decide +kernel) rfl rfl ?_
  generalize hQ : po1 _ _ = Q
  have hs : sm_ H H a 119 := sm_.rfl'
  unfold gX7_addAsk at hm
  refine aw_lv (lv' := [(0, .ref a), (1, .int i0)]) [0, 1] rfl ?_
  refine aw_b (pc' := 2) (lv' := [(0, .ref a), (1, .int i0)]) (st' := [.int i0, .ref a]) [(0, .aload_n 0, 1, .null), (1, .iload_n 1, 1, .null)] (by decide +kernel) rfl ?_
  obtain ⟨r1, e2, hm⟩ := bn_x hm
  refine aw_cv (rest := []) (st1 := []) a 0 (kX7_requireCylinder e2 h0) rfl rfl ckX7_requireCylinder lkX7_179 h0 eo_M_0 ⟨_, _, rfl⟩ nkX7_requireCylinder rfl rfl rfl (Nat.le_of_ble_eq_true rfl) (Nat.zero_le _) (Nat.zero_le _) (by decide +kernel) (fun H3 z4 => ?_)
  have h0 := h0.kept0 z4
  have hs := hs.step0 z4
  refine aw_b (pc' := 6) (lv' := [(0, .ref a), (1, .int i0)]) (st' := [.ref a]) [(5, .aload_n 0, 1, .null)] (by decide +kernel) rfl ?_
  refine aw_gl (v := .ref (a + 8)) a 0 h0 eo_M_0 fgX7_30 rfl (by decide +kernel) ?_
  refine aw_gl (v := .ref (a + 9)) a 8 h0 eo_M_8 fgX7_80 rfl (by decide +kernel) ?_
  refine aw_gl (v := .ref (a + 10)) a 9 h0 eo_M_9 fgX7_83 rfl (by decide +kernel) ?_
  refine aw_b (pc' := 17) (lv' := [(2, .ref (a + 10)), (0, .ref a), (1, .int i0)]) (st' := [.ref (a + 10)]) [(15, .astore_n 2, 1, .null), (16, .aload_n 2, 1, .null)] (by decide +kernel) rfl ?_
  refine aw_gl (v := .int (s 10 12)) a 10 h0 eo_M_10 fgX7_116 rfl (by decide +kernel) ?_
  refine aw_b (pc' := 22) (lv' := [(2, .ref (a + 10)), (0, .ref a), (1, .int i0)]) (st' := [.int (16 : Int32), .int (s 10 12)]) [(20, .bipush 16, 2, .int (16 : Int32))] (by decide +kernel) rfl ?_
  refine aw_ic_lt (off := 6) 28 (by decide) (by decide +kernel) (fun hc => ?_) (fun hc => ?_)
  · have hm := (if_pos hc).symm.trans hm
    refine aw_b (pc' := 30) (lv' := [(2, .ref (a + 10)), (0, .ref a), (1, .int i0)]) (st' := [.int i0, .ref (a + 10)]) [(28, .aload_n 2, 1, .null), (29, .iload_n 1, 1, .null)] (by decide +kernel) rfl ?_
    obtain ⟨r5, e6, hm⟩ := bn_x hm
    refine aw_cv (rest := []) (st1 := []) a 10 (kX5_putAsk e6 (h0.sub su_M_10_S) (Nat.le_trans hf (Nat.le_add_right _ _))) rfl rfl ckX5_putAsk lkX7_208 h0 eo_M_10 ⟨_, _, rfl⟩ nkX5_putAsk rfl rfl rfl (Nat.le_of_ble_eq_true rfl) (Nat.zero_le _) (Nat.zero_le _) (by decide +kernel) (fun H7 z8 => ?_)
    obtain ⟨z8, hn⟩ := z8
    obtain ⟨s9, e10, hm⟩ := bd_x hm
    have h0 := h0.mg su_M_10_S hn z8 rfl e10
    have hs := hs.step z8 (by omega) (by omega)
    refine aw_b (pc' := 34) (lv' := [(2, .ref (a + 10)), (0, .ref a), (1, .int i0)]) (st' := [.ref (a + 10)]) [(33, .aload_n 2, 1, .null)] (by decide +kernel) rfl ?_
    refine aw_gl (v := .int (s9 10 12)) a 10 h0 eo_M_10 fgX7_116 rfl (by decide +kernel) ?_
    refine aw_b (pc' := 39) (lv' := [(2, .ref (a + 10)), (0, .ref a), (1, .int i0)]) (st' := [.int ((s9 10 12) - (1 : Int32))]) [(37, .iconst 1, 1, .int (1 : Int32)), (38, .isub, 1, .null)] (by decide +kernel) rfl ?_
    obtain rfl := Option.some.inj hm
    subst hQ
    exact aw_iret rfl (Nat.zero_le _) (Nat.zero_le _) (by decide +kernel) ⟨rfl, hs, h0⟩
  · have hm := (if_neg hc).symm.trans hm
    refine aw_b (pc' := 27) (lv' := [(2, .ref (a + 10)), (0, .ref a), (1, .int i0)]) (st' := [.int (-2 : Int32)]) [(25, .bipush (-2), 2, .int (-2 : Int32))] (by decide +kernel) rfl ?_
    obtain rfl := Option.some.inj hm
    subst hQ
    exact aw_iret rfl (Nat.zero_le _) (Nat.zero_le _) (by decide +kernel) ⟨rfl, hs, h0⟩
def mX7_requireArm : mt_ := (yX7_requireArm, cX7_requireArm, 2, none, [], { frames := 1, locals := 21, cells := 0, slots := 0 })
theorem ckX7_requireArm : cokV_ mX7_requireArm := ⟨⟨(uw_mem 1221 (by decide +kernel) (by decide +kernel)), (uw_mem 29 (by decide +kernel) (by decide +kernel)), by decide +kernel, by decide +kernel⟩, (uw_mem 1220 (by decide +kernel) (by decide +kernel)), (uw_mem 24 (by decide +kernel) (by decide +kernel))⟩
theorem nkX7_requireArm : nok_ mX7_requireArm 1 := by decide +kernel
def gX7_requireArm (s : st_) (i0 : Int32) : Option (Unit) :=
  if i0 = (-1 : Int32) then (some ())
  else (bn_ (fX5_hasRule (sb_ s 10) i0) fun r1 =>
  if r1 = (0 : Int32) then (none)
  else (some ()))
theorem kX7_requireArm {E : ev_} {H : Heap} {a : Nat} {s : st_} {i0 : Int32} {r : Unit} (hm : gX7_requireArm s i0 = some r) (h0 : has_ E H a ly_M s) : sp_ E mX7_requireArm [.ref a, .int i0] H (po1 (.inl (none)) (fun Hn => sm_ H Hn 0 0)) := by
  refine sp_of (by decide +kernel) rfl rfl ?_
  generalize hQ : po1 _ _ = Q
  have hs : sm_ H H 0 0 := sm_.rfl'
  unfold gX7_requireArm at hm
  refine aw_lv (lv' := [(0, .ref a), (1, .int i0)]) [0, 1] rfl ?_
  refine aw_b (pc' := 2) (lv' := [(0, .ref a), (1, .int i0)]) (st' := [.int (-1 : Int32), .int i0]) [(0, .iload_n 1, 1, .null), (1, .iconst (-1), 1, .int (-1 : Int32))] (by decide +kernel) rfl ?_
  refine aw_ic_eq (off := 31) 33 (by decide) (by decide +kernel) (fun hc => ?_) (fun hc => ?_)
  · have hm := (if_pos hc).symm.trans hm
    obtain rfl := Option.some.inj hm
    subst hQ
    exact aw_vret rfl (Nat.zero_le _) (Nat.zero_le _) (by decide +kernel) ⟨rfl, hs⟩
  · have hm := (if_neg hc).symm.trans hm
    refine aw_b (pc' := 6) (lv' := [(0, .ref a), (1, .int i0)]) (st' := [.ref a]) [(5, .aload_n 0, 1, .null)] (by decide +kernel) rfl ?_
    refine aw_gl (v := .ref (a + 8)) a 0 h0 eo_M_0 fgX7_30 rfl (by decide +kernel) ?_
    refine aw_gl (v := .ref (a + 9)) a 8 h0 eo_M_8 fgX7_80 rfl (by decide +kernel) ?_
    refine aw_gl (v := .ref (a + 10)) a 9 h0 eo_M_9 fgX7_83 rfl (by decide +kernel) ?_
    refine aw_b (pc' := 16) (lv' := [(0, .ref a), (1, .int i0)]) (st' := [.int i0, .ref (a + 10)]) [(15, .iload_n 1, 1, .null)] (by decide +kernel) rfl ?_
    obtain ⟨r1, e2, hm⟩ := bn_x hm
    refine aw_cv (rest := []) (st1 := [.int r1]) a 10 (kX5_hasRule e2 (h0.sub su_M_10_S)) rfl rfl ckX5_hasRule lkX7_381 h0 eo_M_10 ⟨_, _, rfl⟩ nkX5_hasRule rfl rfl rfl (Nat.le_of_ble_eq_true rfl) (Nat.zero_le _) (Nat.zero_le _) (by decide +kernel) (fun H3 z4 => ?_)
    have h0 := h0.kept0 z4
    have hs := hs.step0 z4
    refine aw_if_ne (off := 14) 33 (by decide) (by decide +kernel) (fun hc => ?_) (fun hc => ?_)
    · have hm := (if_neg hc).symm.trans hm
      obtain rfl := Option.some.inj hm
      subst hQ
      exact aw_vret rfl (Nat.zero_le _) (Nat.zero_le _) (by decide +kernel) ⟨rfl, hs⟩
    · have hm := (if_pos hc).symm.trans hm
      cases hm
def mX7_arm : mt_ := (yX7_arm, cX7_arm, 4, some .int, [], { frames := 2, locals := 42, cells := 0, slots := 0 })
theorem ckX7_arm : cokV_ mX7_arm := ⟨⟨(uw_mem 1235 (by decide +kernel) (by decide +kernel)), (uw_mem 29 (by decide +kernel) (by decide +kernel)), by decide +kernel, by decide +kernel⟩, (uw_mem 1233 (by decide +kernel) (by decide +kernel)), (uw_mem 1234 (by decide +kernel) (by decide +kernel))⟩
theorem nkX7_arm : nok_ mX7_arm 2 := by decide +kernel
theorem lkX7_214 : Cond.methodLink RX7 214 yX7_requireArm ∈ uw_ := (uw_mem 1218 (by decide +kernel) (by decide +kernel))
theorem lkX7_217 : Cond.methodLink RX7 217 yX1_armOf ∈ uw_ := (uw_mem 1236 (by decide +kernel) (by decide +kernel))
theorem fgX7_221 : fok_ RX7 221 0 0 := ⟨_, _, _, rfl, by decide, (uw_mem 224 (by decide +kernel) (by decide +kernel)), wkX0⟩
theorem eoa_M_9 : ∀ r, aro_ r → eo_ ly_M (9 + r) 0 fsX0 := by
  intro r h
  rcases h with rfl | ⟨k, hk, rfl⟩
  · rfl
  · match k, hk with
    | 0, _ => rfl
    | 1, _ => rfl
    | 2, _ => rfl
    | 3, _ => rfl
    | 4, _ => rfl
    | 5, _ => rfl
theorem wta_M_9 : ∀ r, aro_ r → ly_M[(9 + r) + 1]? = some (ia_ 20) ∧ ly_M[(9 + r) + 2]? = some (ia_ 20) := by
  intro r h
  rcases h with rfl | ⟨k, hk, rfl⟩
  · exact ⟨rfl, rfl⟩
  · match k, hk with
    | 0, _ => exact ⟨rfl, rfl⟩
    | 1, _ => exact ⟨rfl, rfl⟩
    | 2, _ => exact ⟨rfl, rfl⟩
    | 3, _ => exact ⟨rfl, rfl⟩
    | 4, _ => exact ⟨rfl, rfl⟩
    | 5, _ => exact ⟨rfl, rfl⟩
theorem soa_M_9 : ∀ r, aro_ r → sub_ ly_M (9 + r) ly_A := by
  intro r h
  rcases h with rfl | ⟨k, hk, rfl⟩
  · exact sub_of rfl
  · match k, hk with
    | 0, _ => exact sub_of rfl
    | 1, _ => exact sub_of rfl
    | 2, _ => exact sub_of rfl
    | 3, _ => exact sub_of rfl
    | 4, _ => exact sub_of rfl
    | 5, _ => exact sub_of rfl
theorem fgX7_224 : fok_ RX7 224 0 1 := ⟨_, _, _, rfl, by decide, (uw_mem 226 (by decide +kernel) (by decide +kernel)), wkX0⟩
theorem fgX7_228 : fok_ RX7 228 0 6 := ⟨_, _, _, rfl, by decide, (uw_mem 241 (by decide +kernel) (by decide +kernel)), wkX0⟩
theorem fgX7_231 : fok_ RX7 231 0 7 := ⟨_, _, _, rfl, by decide, (uw_mem 243 (by decide +kernel) (by decide +kernel)), wkX0⟩
theorem fgX7_234 : fok_ RX7 234 0 8 := ⟨_, _, _, rfl, by decide, (uw_mem 245 (by decide +kernel) (by decide +kernel)), wkX0⟩
def gX7_arm (s : st_) (i0 : Int32) (i1 : Int32) : Option (Int32) :=
  bn_ (gX7_requireArm s i0) fun r1 =>
  bn_ (fX1_armOf (sb_ s 9) i0) fun r5 =>
  if i1 = (0 : Int32) then (some (s (9 + r5) 0))
  else (if i1 = (1 : Int32) then (if (s (9 + r5) 1) = (0 : Int32) then (some (0 : Int32))
  else (some (1 : Int32)))
  else (if i1 = (2 : Int32) then (some (s (9 + r5) 2))
  else (if i1 = (3 : Int32) then (some (s (9 + r5) 5))
  else (if i1 = (4 : Int32) then (some (s (9 + r5) 6))
  else (if i1 = (5 : Int32) then (some (s (9 + r5) 7))
  else (if i1 = (6 : Int32) then (some (s (9 + r5) 8))
  else (none)))))))
theorem kX7_arm {E : ev_} {H : Heap} {a : Nat} {s : st_} {i0 : Int32} {i1 : Int32} {r : Int32} (hm : gX7_arm s i0 i1 = some r) (h0 : has_ E H a ly_M s) : sp_ E mX7_arm [.ref a, .int i0, .int i1] H (po1 (.inl (some (.int r))) (fun Hn => sm_ H Hn 0 0)) := by
  refine sp_of (by decide +kernel) rfl rfl ?_
  generalize hQ : po1 _ _ = Q
  have hs : sm_ H H 0 0 := sm_.rfl'
  unfold gX7_arm at hm
  refine aw_lv (lv' := [(0, .ref a), (1, .int i0), (2, .int i1)]) [0, 1, 2] rfl ?_
  refine aw_b (pc' := 2) (lv' := [(0, .ref a), (1, .int i0), (2, .int i1)]) (st' := [.int i0, .ref a]) [(0, .aload_n 0, 1, .null), (1, .iload_n 1, 1, .null)] (by decide +kernel) rfl ?_
  obtain ⟨r1, e2, hm⟩ := bn_x hm
  refine aw_cv (rest := []) (st1 := []) a 0 (kX7_requireArm e2 h0) rfl rfl ckX7_requireArm lkX7_214 h0 eo_M_0 ⟨_, _, rfl⟩ nkX7_requireArm rfl rfl rfl (Nat.le_of_ble_eq_true rfl) (Nat.zero_le _) (Nat.zero_le _) (by decide +kernel) (fun H3 z4 => ?_)
  have h0 := h0.kept0 z4
  have hs := hs.step0 z4
  refine aw_b (pc' := 6) (lv' := [(0, .ref a), (1, .int i0), (2, .int i1)]) (st' := [.ref a]) [(5, .aload_n 0, 1, .null)] (by decide +kernel) rfl ?_
  refine aw_gl (v := .ref (a + 8)) a 0 h0 eo_M_0 fgX7_30 rfl (by decide +kernel) ?_
  refine aw_gl (v := .ref (a + 9)) a 8 h0 eo_M_8 fgX7_80 rfl (by decide +kernel) ?_
  refine aw_b (pc' := 13) (lv' := [(0, .ref a), (1, .int i0), (2, .int i1)]) (st' := [.int i0, .ref (a + 9)]) [(12, .iload_n 1, 1, .null)] (by decide +kernel) rfl ?_
  obtain ⟨r5, e6, hm⟩ := bn_x hm
  refine aw_cv (rest := []) (st1 := [.ref (a + (9 + r5))]) a 9 (kX1_armOf e6 (h0.sub su_M_9_D)) rfl (by rw [Nat.add_assoc]; rfl) ckX1_armOf lkX7_217 h0 eo_M_9 ⟨_, _, rfl⟩ nkX1_armOf rfl rfl rfl (Nat.le_of_ble_eq_true rfl) (Nat.zero_le _) (Nat.zero_le _) (by decide +kernel) (fun H7 z8 => ?_)
  obtain ⟨z8, hor5⟩ := z8
  have h0 := h0.kept0 z8
  have hs := hs.step0 z8
  refine aw_b (pc' := 18) (lv' := [(3, .ref (a + (9 + r5))), (0, .ref a), (1, .int i0), (2, .int i1)]) (st' := [.int i1]) [(16, .astore_n 3, 1, .null), (17, .iload_n 2, 1, .null)] (by decide +kernel) rfl ?_
  refine aw_ts [((0 : Int32), 60), ((1 : Int32), 65), ((2 : Int32), 78), ((3 : Int32), 83), ((4 : Int32), 88), ((5 : Int32), 93), ((6 : Int32), 98)] 103 (by decide +kernel) ?_
  refine aw_tg (fun hc => ?_) (fun hc => ?_)
  · have hm := (if_pos hc).symm.trans hm
    refine aw_b (pc' := 61) (lv' := [(3, .ref (a + (9 + r5))), (0, .ref a), (1, .int i0), (2, .int i1)]) (st' := [.ref (a + (9 + r5))]) [(60, .aload_n 3, 1, .null)] (by decide +kernel) rfl ?_
    refine aw_gl (v := .int (s (9 + r5) 0)) a (9 + r5) h0 (eoa_M_9 _ hor5) fgX7_221 rfl (by decide +kernel) ?_
    obtain rfl := Option.some.inj hm
    subst hQ
    exact aw_iret rfl (Nat.zero_le _) (Nat.zero_le _) (by decide +kernel) ⟨rfl, hs⟩
  · have hm := (if_neg hc).symm.trans hm
    refine aw_tg (fun hc => ?_) (fun hc => ?_)
    · have hm := (if_pos hc).symm.trans hm
      refine aw_b (pc' := 66) (lv' := [(3, .ref (a + (9 + r5))), (0, .ref a), (1, .int i0), (2, .int i1)]) (st' := [.ref (a + (9 + r5))]) [(65, .aload_n 3, 1, .null)] (by decide +kernel) rfl ?_
      refine aw_gl (v := .int (s (9 + r5) 1)) a (9 + r5) h0 (eoa_M_9 _ hor5) fgX7_224 rfl (by decide +kernel) ?_
      refine aw_if_eq (off := 7) 76 (by decide) (by decide +kernel) (fun hc => ?_) (fun hc => ?_)
      · have hm := (if_pos hc).symm.trans hm
        refine aw_b (pc' := 77) (lv' := [(3, .ref (a + (9 + r5))), (0, .ref a), (1, .int i0), (2, .int i1)]) (st' := [.int (0 : Int32)]) [(76, .iconst 0, 1, .int (0 : Int32))] (by decide +kernel) rfl ?_
        obtain rfl := Option.some.inj hm
        subst hQ
        exact aw_iret rfl (Nat.zero_le _) (Nat.zero_le _) (by decide +kernel) ⟨rfl, hs⟩
      · have hm := (if_neg hc).symm.trans hm
        refine aw_b (pc' := 77) (lv' := [(3, .ref (a + (9 + r5))), (0, .ref a), (1, .int i0), (2, .int i1)]) (st' := [.int (1 : Int32)]) [(72, .iconst 1, 1, .int (1 : Int32)), (73, .goto 4, 3, .null)] (by decide +kernel) rfl ?_
        obtain rfl := Option.some.inj hm
        subst hQ
        exact aw_iret rfl (Nat.zero_le _) (Nat.zero_le _) (by decide +kernel) ⟨rfl, hs⟩
    · have hm := (if_neg hc).symm.trans hm
      refine aw_tg (fun hc => ?_) (fun hc => ?_)
      · have hm := (if_pos hc).symm.trans hm
        refine aw_b (pc' := 79) (lv' := [(3, .ref (a + (9 + r5))), (0, .ref a), (1, .int i0), (2, .int i1)]) (st' := [.ref (a + (9 + r5))]) [(78, .aload_n 3, 1, .null)] (by decide +kernel) rfl ?_
        refine aw_gl (v := .int (s (9 + r5) 2)) a (9 + r5) h0 (eoa_M_9 _ hor5) fgX7_193 rfl (by decide +kernel) ?_
        obtain rfl := Option.some.inj hm
        subst hQ
        exact aw_iret rfl (Nat.zero_le _) (Nat.zero_le _) (by decide +kernel) ⟨rfl, hs⟩
      · have hm := (if_neg hc).symm.trans hm
        refine aw_tg (fun hc => ?_) (fun hc => ?_)
        · have hm := (if_pos hc).symm.trans hm
          refine aw_b (pc' := 84) (lv' := [(3, .ref (a + (9 + r5))), (0, .ref a), (1, .int i0), (2, .int i1)]) (st' := [.ref (a + (9 + r5))]) [(83, .aload_n 3, 1, .null)] (by decide +kernel) rfl ?_
          refine aw_gl (v := .int (s (9 + r5) 5)) a (9 + r5) h0 (eoa_M_9 _ hor5) fgX7_166 rfl (by decide +kernel) ?_
          obtain rfl := Option.some.inj hm
          subst hQ
          exact aw_iret rfl (Nat.zero_le _) (Nat.zero_le _) (by decide +kernel) ⟨rfl, hs⟩
        · have hm := (if_neg hc).symm.trans hm
          refine aw_tg (fun hc => ?_) (fun hc => ?_)
          · have hm := (if_pos hc).symm.trans hm
            refine aw_b (pc' := 89) (lv' := [(3, .ref (a + (9 + r5))), (0, .ref a), (1, .int i0), (2, .int i1)]) (st' := [.ref (a + (9 + r5))]) [(88, .aload_n 3, 1, .null)] (by decide +kernel) rfl ?_
            refine aw_gl (v := .int (s (9 + r5) 6)) a (9 + r5) h0 (eoa_M_9 _ hor5) fgX7_228 rfl (by decide +kernel) ?_
            obtain rfl := Option.some.inj hm
            subst hQ
            exact aw_iret rfl (Nat.zero_le _) (Nat.zero_le _) (by decide +kernel) ⟨rfl, hs⟩
          · have hm := (if_neg hc).symm.trans hm
            refine aw_tg (fun hc => ?_) (fun hc => ?_)
            · have hm := (if_pos hc).symm.trans hm
              refine aw_b (pc' := 94) (lv' := [(3, .ref (a + (9 + r5))), (0, .ref a), (1, .int i0), (2, .int i1)]) (st' := [.ref (a + (9 + r5))]) [(93, .aload_n 3, 1, .null)] (by decide +kernel) rfl ?_
              refine aw_gl (v := .int (s (9 + r5) 7)) a (9 + r5) h0 (eoa_M_9 _ hor5) fgX7_231 rfl (by decide +kernel) ?_
              obtain rfl := Option.some.inj hm
              subst hQ
              exact aw_iret rfl (Nat.zero_le _) (Nat.zero_le _) (by decide +kernel) ⟨rfl, hs⟩
            · have hm := (if_neg hc).symm.trans hm
              refine aw_tg (fun hc => ?_) (fun hc => ?_)
              · have hm := (if_pos hc).symm.trans hm
                refine aw_b (pc' := 99) (lv' := [(3, .ref (a + (9 + r5))), (0, .ref a), (1, .int i0), (2, .int i1)]) (st' := [.ref (a + (9 + r5))]) [(98, .aload_n 3, 1, .null)] (by decide +kernel) rfl ?_
                refine aw_gl (v := .int (s (9 + r5) 8)) a (9 + r5) h0 (eoa_M_9 _ hor5) fgX7_234 rfl (by decide +kernel) ?_
                obtain rfl := Option.some.inj hm
                subst hQ
                exact aw_iret rfl (Nat.zero_le _) (Nat.zero_le _) (by decide +kernel) ⟨rfl, hs⟩
              · have hm := (if_neg hc).symm.trans hm
                show aw E _ Q 103 _ _ _ _ _
                cases hm
def mX7_waiting : mt_ := (yX7_waiting, cX7_waiting, 5, some .int, [], { frames := 2, locals := 42, cells := 0, slots := 0 })
theorem ckX7_waiting : cokV_ mX7_waiting := ⟨⟨(uw_mem 1246 (by decide +kernel) (by decide +kernel)), (uw_mem 29 (by decide +kernel) (by decide +kernel)), by decide +kernel, by decide +kernel⟩, (uw_mem 1244 (by decide +kernel) (by decide +kernel)), (uw_mem 1245 (by decide +kernel) (by decide +kernel))⟩
theorem nkX7_waiting : nok_ mX7_waiting 3 := by decide +kernel
theorem fgX7_242 : fok_ RX7 242 0 4 := ⟨_, _, _, rfl, by decide, (uw_mem 235 (by decide +kernel) (by decide +kernel)), wkX0⟩
theorem fgX7_239 : fok_ RX7 239 0 3 := ⟨_, _, _, rfl, by decide, (uw_mem 233 (by decide +kernel) (by decide +kernel)), wkX0⟩
def gX7_waiting (s : st_) (i0 : Int32) (i1 : Int32) (i2 : Int32) : Option (Int32) :=
  bn_ (gX7_requireArm s i0) fun r1 =>
  bn_ (gX7_requireWithin i2 (0 : Int32) (1 : Int32)) fun r5 =>
  bn_ (fX1_armOf (sb_ s 9) i0) fun r9 =>
  if i1 < (0 : Int32) then (some (-1 : Int32))
  else (if i1 < (s (9 + r9) 2) then (if i2 = (0 : Int32) then (gd_ (ib_ i1 20) <|
  some (s (9 + r9 + 1) (ix_ i1)))
  else (gd_ (ib_ i1 20) <|
  some (s (9 + r9 + 2) (ix_ i1))))
  else (some (-1 : Int32)))
theorem kX7_waiting {E : ev_} {H : Heap} {a : Nat} {s : st_} {i0 : Int32} {i1 : Int32} {i2 : Int32} {r : Int32} (hm : gX7_waiting s i0 i1 i2 = some r) (h0 : has_ E H a ly_M s) : sp_ E mX7_waiting [.ref a, .int i0, .int i1, .int i2] H (po1 (.inl (some (.int r))) (fun Hn => sm_ H Hn 0 0)) := by
  refine sp_of (by decide +kernel) rfl rfl ?_
  generalize hQ : po1 _ _ = Q
  have hs : sm_ H H 0 0 := sm_.rfl'
  unfold gX7_waiting at hm
  refine aw_lv (lv' := [(0, .ref a), (1, .int i0), (2, .int i1), (3, .int i2)]) [0, 1, 2, 3] rfl ?_
  refine aw_b (pc' := 2) (lv' := [(0, .ref a), (1, .int i0), (2, .int i1), (3, .int i2)]) (st' := [.int i0, .ref a]) [(0, .aload_n 0, 1, .null), (1, .iload_n 1, 1, .null)] (by decide +kernel) rfl ?_
  obtain ⟨r1, e2, hm⟩ := bn_x hm
  refine aw_cv (rest := []) (st1 := []) a 0 (kX7_requireArm e2 h0) rfl rfl ckX7_requireArm lkX7_214 h0 eo_M_0 ⟨_, _, rfl⟩ nkX7_requireArm rfl rfl rfl (Nat.le_of_ble_eq_true rfl) (Nat.zero_le _) (Nat.zero_le _) (by decide +kernel) (fun H3 z4 => ?_)
  have h0 := h0.kept0 z4
  have hs := hs.step0 z4
  refine aw_b (pc' := 8) (lv' := [(0, .ref a), (1, .int i0), (2, .int i1), (3, .int i2)]) (st' := [.int (1 : Int32), .int (0 : Int32), .int i2]) [(5, .iload_n 3, 1, .null), (6, .iconst 0, 1, .int (0 : Int32)), (7, .iconst 1, 1, .int (1 : Int32))] (by decide +kernel) rfl ?_
  obtain ⟨r5, e6, hm⟩ := bn_x hm
  refine aw_cs (rest := []) (st1 := []) (kX7_requireWithin e6) rfl rfl ckX7_requireWithin lkX7_196 nkX7_requireWithin rfl rfl rfl (Nat.le_of_ble_eq_true rfl) (Nat.zero_le _) (Nat.zero_le _) (by decide +kernel) (fun H7 z8 => ?_)
  have h0 := h0.kept0 z8
  have hs := hs.step0 z8
  refine aw_b (pc' := 12) (lv' := [(0, .ref a), (1, .int i0), (2, .int i1), (3, .int i2)]) (st' := [.ref a]) [(11, .aload_n 0, 1, .null)] (by decide +kernel) rfl ?_
  refine aw_gl (v := .ref (a + 8)) a 0 h0 eo_M_0 fgX7_30 rfl (by decide +kernel) ?_
  refine aw_gl (v := .ref (a + 9)) a 8 h0 eo_M_8 fgX7_80 rfl (by decide +kernel) ?_
  refine aw_b (pc' := 19) (lv' := [(0, .ref a), (1, .int i0), (2, .int i1), (3, .int i2)]) (st' := [.int i0, .ref (a + 9)]) [(18, .iload_n 1, 1, .null)] (by decide +kernel) rfl ?_
  obtain ⟨r9, e10, hm⟩ := bn_x hm
  refine aw_cv (rest := []) (st1 := [.ref (a + (9 + r9))]) a 9 (kX1_armOf e10 (h0.sub su_M_9_D)) rfl (by rw [Nat.add_assoc]; rfl) ckX1_armOf lkX7_217 h0 eo_M_9 ⟨_, _, rfl⟩ nkX1_armOf rfl rfl rfl (Nat.le_of_ble_eq_true rfl) (Nat.zero_le _) (Nat.zero_le _) (by decide +kernel) (fun H11 z12 => ?_)
  obtain ⟨z12, hor9⟩ := z12
  have h0 := h0.kept0 z12
  have hs := hs.step0 z12
  refine aw_b (pc' := 25) (lv' := [(4, .ref (a + (9 + r9))), (0, .ref a), (1, .int i0), (2, .int i1), (3, .int i2)]) (st' := [.int i1]) [(22, .astore 4, 2, .null), (24, .iload_n 2, 1, .null)] (by decide +kernel) rfl ?_
  refine aw_if_lt (off := 12) 37 (by decide) (by decide +kernel) (fun hc => ?_) (fun hc => ?_)
  · have hm := (if_pos hc).symm.trans hm
    refine aw_b (pc' := 38) (lv' := [(4, .ref (a + (9 + r9))), (0, .ref a), (1, .int i0), (2, .int i1), (3, .int i2)]) (st' := [.int (-1 : Int32)]) [(37, .iconst (-1), 1, .int (-1 : Int32))] (by decide +kernel) rfl ?_
    obtain rfl := Option.some.inj hm
    subst hQ
    exact aw_iret rfl (Nat.zero_le _) (Nat.zero_le _) (by decide +kernel) ⟨rfl, hs⟩
  · have hm := (if_neg hc).symm.trans hm
    refine aw_b (pc' := 31) (lv' := [(4, .ref (a + (9 + r9))), (0, .ref a), (1, .int i0), (2, .int i1), (3, .int i2)]) (st' := [.ref (a + (9 + r9)), .int i1]) [(28, .iload_n 2, 1, .null), (29, .aload 4, 2, .null)] (by decide +kernel) rfl ?_
    refine aw_gl (v := .int (s (9 + r9) 2)) a (9 + r9) h0 (eoa_M_9 _ hor9) fgX7_193 rfl (by decide +kernel) ?_
    refine aw_ic_lt (off := 5) 39 (by decide) (by decide +kernel) (fun hc => ?_) (fun hc => ?_)
    · have hm := (if_pos hc).symm.trans hm
      refine aw_b (pc' := 40) (lv' := [(4, .ref (a + (9 + r9))), (0, .ref a), (1, .int i0), (2, .int i1), (3, .int i2)]) (st' := [.int i2]) [(39, .iload_n 3, 1, .null)] (by decide +kernel) rfl ?_
      refine aw_if_ne (off := 13) 53 (by decide) (by decide +kernel) (fun hc => ?_) (fun hc => ?_)
      · have hm := (if_neg hc).symm.trans hm
        refine aw_b (pc' := 55) (lv' := [(4, .ref (a + (9 + r9))), (0, .ref a), (1, .int i0), (2, .int i1), (3, .int i2)]) (st' := [.ref (a + (9 + r9))]) [(53, .aload 4, 2, .null)] (by decide +kernel) rfl ?_
        refine aw_gl (v := .ref (a + (9 + r9 + 2))) a (9 + r9) h0 (eoa_M_9 _ hor9) fgX7_242 (congrArg (fun z => some (Value.ref z)) (Nat.add_assoc a (9 + r9) 2)) (by decide +kernel) ?_
        refine aw_b (pc' := 59) (lv' := [(4, .ref (a + (9 + r9))), (0, .ref a), (1, .int i0), (2, .int i1), (3, .int i2)]) (st' := [.int i1, .ref (a + (9 + r9 + 2))]) [(58, .iload_n 2, 1, .null)] (by decide +kernel) rfl ?_
        obtain ⟨g13, hm⟩ := gd_x hm
        refine aw_ial a (9 + r9 + 2) h0 (wta_M_9 _ hor9).2 g13 (by decide +kernel) ?_
        obtain rfl := Option.some.inj hm
        subst hQ
        exact aw_iret rfl (Nat.zero_le _) (Nat.zero_le _) (by decide +kernel) ⟨rfl, hs⟩
      · have hm := (if_pos hc).symm.trans hm
        refine aw_b (pc' := 45) (lv' := [(4, .ref (a + (9 + r9))), (0, .ref a), (1, .int i0), (2, .int i1), (3, .int i2)]) (st' := [.ref (a + (9 + r9))]) [(43, .aload 4, 2, .null)] (by decide +kernel) rfl ?_
        refine aw_gl (v := .ref (a + (9 + r9 + 1))) a (9 + r9) h0 (eoa_M_9 _ hor9) fgX7_239 (congrArg (fun z => some (Value.ref z)) (Nat.add_assoc a (9 + r9) 1)) (by decide +kernel) ?_
        refine aw_b (pc' := 49) (lv' := [(4, .ref (a + (9 + r9))), (0, .ref a), (1, .int i0), (2, .int i1), (3, .int i2)]) (st' := [.int i1, .ref (a + (9 + r9 + 1))]) [(48, .iload_n 2, 1, .null)] (by decide +kernel) rfl ?_
        obtain ⟨g14, hm⟩ := gd_x hm
        refine aw_ial a (9 + r9 + 1) h0 (wta_M_9 _ hor9).1 g14 (by decide +kernel) ?_
        refine aw_b (pc' := 60) (lv' := [(4, .ref (a + (9 + r9))), (0, .ref a), (1, .int i0), (2, .int i1), (3, .int i2)]) (st' := [.int (s (9 + r9 + 1) (ix_ i1))]) [(50, .goto 10, 3, .null)] (by decide +kernel) rfl ?_
        obtain rfl := Option.some.inj hm
        subst hQ
        exact aw_iret rfl (Nat.zero_le _) (Nat.zero_le _) (by decide +kernel) ⟨rfl, hs⟩
    · have hm := (if_neg hc).symm.trans hm
      refine aw_b (pc' := 38) (lv' := [(4, .ref (a + (9 + r9))), (0, .ref a), (1, .int i0), (2, .int i1), (3, .int i2)]) (st' := [.int (-1 : Int32)]) [(37, .iconst (-1), 1, .int (-1 : Int32))] (by decide +kernel) rfl ?_
      obtain rfl := Option.some.inj hm
      subst hQ
      exact aw_iret rfl (Nat.zero_le _) (Nat.zero_le _) (by decide +kernel) ⟨rfl, hs⟩
def mX7_optimum : mt_ := (yX7_optimum, cX7_optimum, 2, some .int, [], { frames := 4, locals := 100, cells := 0, slots := 0 })
theorem ckX7_optimum : cokV_ mX7_optimum := ⟨⟨(uw_mem 1436 (by decide +kernel) (by decide +kernel)), (uw_mem 29 (by decide +kernel) (by decide +kernel)), by decide +kernel, by decide +kernel⟩, (uw_mem 1434 (by decide +kernel) (by decide +kernel)), (uw_mem 1435 (by decide +kernel) (by decide +kernel))⟩
theorem nkX7_optimum : nok_ mX7_optimum 1 := by decide +kernel
theorem fgX7_44 : fok_ RX7 44 7 6 := ⟨_, _, _, rfl, by decide, (uw_mem 471 (by decide +kernel) (by decide +kernel)), wkX7⟩
theorem lkX7_249 : Cond.methodLink RX7 249 yX6_plan ∈ uw_ := (uw_mem 1437 (by decide +kernel) (by decide +kernel))
theorem su_M_116_T : sub_ ly_M 116 ly_T := sub_of rfl
theorem su_M_14_A : sub_ ly_M 14 ly_A := sub_of rfl
theorem eo_M_116 : eo_ ly_M 116 6 fsX6 := rfl
theorem lkX7_253 : Cond.methodLink RX7 253 yX6_leastCost ∈ uw_ := (uw_mem 1452 (by decide +kernel) (by decide +kernel))
def gX7_optimum (s : st_) (i0 : Int32) : Option (st_ × Int32) :=
  bn_ (gX7_requireWithin i0 (0 : Int32) (8 : Int32)) fun r1 =>
  if i0 ≤ (s 14 2) then (bn_ (fX6_plan (sb_ s 116) (sb_ s 10) (sb_ s 14) i0) fun r5 =>
  bd_ (mg_ s 116 3 r5) fun s9 =>
  bn_ (fX6_leastCost (sb_ s9 116)) fun r11 =>
  some (s9, r11))
  else (some (s, (-1 : Int32)))
theorem kX7_optimum {E : ev_} {H : Heap} {a : Nat} {s : st_} {i0 : Int32} {r : st_ × Int32} (hm : gX7_optimum s i0 = some r) (h0 : has_ E H a ly_M s) (hf : ev_fr E a) : sp_ E mX7_optimum [.ref a, .int i0] H (po1 (.inl (some (.int r.2))) (fun Hn => sm_ H Hn a 119 ∧ has_ E Hn a ly_M r.1)) := by
  refine sp_of (by decide +kernel) rfl rfl ?_
  generalize hQ : po1 _ _ = Q
  have hs : sm_ H H a 119 := sm_.rfl'
  unfold gX7_optimum at hm
  refine aw_lv (lv' := [(0, .ref a), (1, .int i0)]) [0, 1] rfl ?_
  refine aw_b (pc' := 4) (lv' := [(0, .ref a), (1, .int i0)]) (st' := [.int (8 : Int32), .int (0 : Int32), .int i0]) [(0, .iload_n 1, 1, .null), (1, .iconst 0, 1, .int (0 : Int32)), (2, .bipush 8, 2, .int (8 : Int32))] (by decide +kernel) rfl ?_
  obtain ⟨r1, e2, hm⟩ := bn_x hm
  refine aw_cs (rest := []) (st1 := []) (kX7_requireWithin e2) rfl rfl ckX7_requireWithin lkX7_196 nkX7_requireWithin rfl rfl rfl (Nat.le_of_ble_eq_true rfl) (Nat.zero_le _) (Nat.zero_le _) (by decide +kernel) (fun H3 z4 => ?_)
  have h0 := h0.kept0 z4
  have hs := hs.step0 z4
  refine aw_b (pc' := 9) (lv' := [(0, .ref a), (1, .int i0)]) (st' := [.ref a, .int i0]) [(7, .iload_n 1, 1, .null), (8, .aload_n 0, 1, .null)] (by decide +kernel) rfl ?_
  refine aw_gl (v := .ref (a + 8)) a 0 h0 eo_M_0 fgX7_30 rfl (by decide +kernel) ?_
  refine aw_gl (v := .ref (a + 9)) a 8 h0 eo_M_8 fgX7_80 rfl (by decide +kernel) ?_
  refine aw_gl (v := .ref (a + 14)) a 9 h0 eo_M_9 fgX7_189 rfl (by decide +kernel) ?_
  refine aw_gl (v := .int (s 14 2)) a 14 h0 eo_M_14 fgX7_193 rfl (by decide +kernel) ?_
  refine aw_ic_le (off := 5) 26 (by decide) (by decide +kernel) (fun hc => ?_) (fun hc => ?_)
  · have hm := (if_pos hc).symm.trans hm
    refine aw_b (pc' := 27) (lv' := [(0, .ref a), (1, .int i0)]) (st' := [.ref a]) [(26, .aload_n 0, 1, .null)] (by decide +kernel) rfl ?_
    refine aw_gl (v := .ref (a + 116)) a 0 h0 eo_M_0 fgX7_44 rfl (by decide +kernel) ?_
    refine aw_b (pc' := 31) (lv' := [(0, .ref a), (1, .int i0)]) (st' := [.ref a, .ref (a + 116)]) [(30, .aload_n 0, 1, .null)] (by decide +kernel) rfl ?_
    refine aw_gl (v := .ref (a + 8)) a 0 h0 eo_M_0 fgX7_30 rfl (by decide +kernel) ?_
    refine aw_gl (v := .ref (a + 9)) a 8 h0 eo_M_8 fgX7_80 rfl (by decide +kernel) ?_
    refine aw_gl (v := .ref (a + 10)) a 9 h0 eo_M_9 fgX7_83 rfl (by decide +kernel) ?_
    refine aw_b (pc' := 41) (lv' := [(0, .ref a), (1, .int i0)]) (st' := [.ref a, .ref (a + 10), .ref (a + 116)]) [(40, .aload_n 0, 1, .null)] (by decide +kernel) rfl ?_
    refine aw_gl (v := .ref (a + 8)) a 0 h0 eo_M_0 fgX7_30 rfl (by decide +kernel) ?_
    refine aw_gl (v := .ref (a + 9)) a 8 h0 eo_M_8 fgX7_80 rfl (by decide +kernel) ?_
    refine aw_gl (v := .ref (a + 14)) a 9 h0 eo_M_9 fgX7_189 rfl (by decide +kernel) ?_
    refine aw_b (pc' := 51) (lv' := [(0, .ref a), (1, .int i0)]) (st' := [.int i0, .ref (a + 14), .ref (a + 10), .ref (a + 116)]) [(50, .iload_n 1, 1, .null)] (by decide +kernel) rfl ?_
    obtain ⟨r5, e6, hm⟩ := bn_x hm
    refine aw_cv (rest := []) (st1 := []) a 116 (kX6_plan e6 (h0.sub su_M_116_T) (h0.sub su_M_10_S) (h0.sub su_M_14_A) (Nat.le_trans hf (Nat.le_add_right _ _)) (by omega) (by omega)) rfl rfl ckX6_plan lkX7_249 h0 eo_M_116 ⟨_, _, rfl⟩ nkX6_plan rfl rfl rfl (Nat.le_of_ble_eq_true rfl) (Nat.zero_le _) (Nat.zero_le _) (by decide +kernel) (fun H7 z8 => ?_)
    obtain ⟨z8, hn⟩ := z8
    obtain ⟨s9, e10, hm⟩ := bd_x hm
    have h0 := h0.mg su_M_116_T hn z8 rfl e10
    have hs := hs.step z8 (by omega) (by omega)
    refine aw_b (pc' := 55) (lv' := [(0, .ref a), (1, .int i0)]) (st' := [.ref a]) [(54, .aload_n 0, 1, .null)] (by decide +kernel) rfl ?_
    refine aw_gl (v := .ref (a + 116)) a 0 h0 eo_M_0 fgX7_44 rfl (by decide +kernel) ?_
    obtain ⟨r11, e12, hm⟩ := bn_x hm
    refine aw_cv (rest := []) (st1 := [.int r11]) a 116 (kX6_leastCost e12 (h0.sub su_M_116_T)) rfl rfl ckX6_leastCost lkX7_253 h0 eo_M_116 ⟨_, _, rfl⟩ nkX6_leastCost rfl rfl rfl (Nat.le_of_ble_eq_true rfl) (Nat.zero_le _) (Nat.zero_le _) (by decide +kernel) (fun H13 z14 => ?_)
    have h0 := h0.kept0 z14
    have hs := hs.step0 z14
    obtain rfl := Option.some.inj hm
    subst hQ
    exact aw_iret rfl (Nat.zero_le _) (Nat.zero_le _) (by decide +kernel) ⟨rfl, hs, h0⟩
  · have hm := (if_neg hc).symm.trans hm
    refine aw_b (pc' := 25) (lv' := [(0, .ref a), (1, .int i0)]) (st' := [.int (-1 : Int32)]) [(24, .iconst (-1), 1, .int (-1 : Int32))] (by decide +kernel) rfl ?_
    obtain rfl := Option.some.inj hm
    subst hQ
    exact aw_iret rfl (Nat.zero_le _) (Nat.zero_le _) (by decide +kernel) ⟨rfl, hs, h0⟩
def mX7_nextRule : mt_ := (yX7_nextRule, cX7_nextRule, 1, some .int, [], { frames := 4, locals := 89, cells := 0, slots := 0 })
theorem ckX7_nextRule : cokV_ mX7_nextRule := ⟨⟨(uw_mem 1417 (by decide +kernel) (by decide +kernel)), (uw_mem 29 (by decide +kernel) (by decide +kernel)), by decide +kernel, by decide +kernel⟩, (uw_mem 1415 (by decide +kernel) (by decide +kernel)), (uw_mem 1416 (by decide +kernel) (by decide +kernel))⟩
theorem nkX7_nextRule : nok_ mX7_nextRule 0 := by decide +kernel
theorem lkX7_261 : Cond.methodLink RX7 261 yX1_comingRule ∈ uw_ := (uw_mem 1418 (by decide +kernel) (by decide +kernel))
def gX7_nextRule (s : st_) : Option (Int32) :=
  bn_ (fX1_comingRule (sb_ s 9)) fun r1 =>
  some r1
theorem kX7_nextRule {E : ev_} {H : Heap} {a : Nat} {s : st_} {r : Int32} (hm : gX7_nextRule s = some r) (h0 : has_ E H a ly_M s) : sp_ E mX7_nextRule [.ref a] H (po1 (.inl (some (.int r))) (fun Hn => sm_ H Hn 0 0)) := by
  refine sp_of (by decide +kernel) rfl rfl ?_
  generalize hQ : po1 _ _ = Q
  have hs : sm_ H H 0 0 := sm_.rfl'
  unfold gX7_nextRule at hm
  refine aw_lv (lv' := [(0, .ref a)]) [0] rfl ?_
  refine aw_b (pc' := 1) (lv' := [(0, .ref a)]) (st' := [.ref a]) [(0, .aload_n 0, 1, .null)] (by decide +kernel) rfl ?_
  refine aw_gl (v := .ref (a + 8)) a 0 h0 eo_M_0 fgX7_30 rfl (by decide +kernel) ?_
  refine aw_gl (v := .ref (a + 9)) a 8 h0 eo_M_8 fgX7_80 rfl (by decide +kernel) ?_
  obtain ⟨r1, e2, hm⟩ := bn_x hm
  refine aw_cv (rest := []) (st1 := [.int r1]) a 9 (kX1_comingRule e2 (h0.sub su_M_9_D)) rfl rfl ckX1_comingRule lkX7_261 h0 eo_M_9 ⟨_, _, rfl⟩ nkX1_comingRule rfl rfl rfl (Nat.le_of_ble_eq_true rfl) (Nat.zero_le _) (Nat.zero_le _) (by decide +kernel) (fun H3 z4 => ?_)
  have h0 := h0.kept0 z4
  have hs := hs.step0 z4
  obtain rfl := Option.some.inj hm
  subst hQ
  exact aw_iret rfl (Nat.zero_le _) (Nat.zero_le _) (by decide +kernel) ⟨rfl, hs⟩
def mX7_served : mt_ := (yX7_served, cX7_served, 3, some .int, [], { frames := 1, locals := 22, cells := 0, slots := 0 })
theorem ckX7_served : cokV_ mX7_served := ⟨⟨(uw_mem 1370 (by decide +kernel) (by decide +kernel)), (uw_mem 29 (by decide +kernel) (by decide +kernel)), by decide +kernel, by decide +kernel⟩, (uw_mem 1368 (by decide +kernel) (by decide +kernel)), (uw_mem 1369 (by decide +kernel) (by decide +kernel))⟩
theorem nkX7_served : nok_ mX7_served 2 := by decide +kernel
theorem lkX7_266 : Cond.methodLink RX7 266 yX4_servedAt ∈ uw_ := (uw_mem 1372 (by decide +kernel) (by decide +kernel))
theorem su_M_42_R : sub_ ly_M 42 ly_R := sub_of rfl
def gX7_served (s : st_) (i0 : Int32) (i1 : Int32) : Option (Int32) :=
  if (0 : Int32) ≤ i0 then (bn_ (gX7_requireWithin i1 (0 : Int32) (4 : Int32)) fun r1 =>
  bn_ (fX4_servedAt (sb_ s 42) i0 i1) fun r5 =>
  some r5)
  else (none)
theorem kX7_served {E : ev_} {H : Heap} {a : Nat} {s : st_} {i0 : Int32} {i1 : Int32} {r : Int32} (hm : gX7_served s i0 i1 = some r) (h0 : has_ E H a ly_M s) : sp_ E mX7_served [.ref a, .int i0, .int i1] H (po1 (.inl (some (.int r))) (fun Hn => sm_ H Hn 0 0)) := by
  refine sp_of (by decide +kernel) rfl rfl ?_
  generalize hQ : po1 _ _ = Q
  have hs : sm_ H H 0 0 := sm_.rfl'
  unfold gX7_served at hm
  refine aw_lv (lv' := [(0, .ref a), (1, .int i0), (2, .int i1)]) [0, 1, 2] rfl ?_
  refine aw_b (pc' := 1) (lv' := [(0, .ref a), (1, .int i0), (2, .int i1)]) (st' := [.int i0]) [(0, .iload_n 1, 1, .null)] (by decide +kernel) rfl ?_
  refine aw_if_ge (off := 14) 15 (by decide) (by decide +kernel) (fun hc => ?_) (fun hc => ?_)
  · have hm := (if_pos hc).symm.trans hm
    refine aw_b (pc' := 18) (lv' := [(0, .ref a), (1, .int i0), (2, .int i1)]) (st' := [.int (4 : Int32), .int (0 : Int32), .int i1]) [(15, .iload_n 2, 1, .null), (16, .iconst 0, 1, .int (0 : Int32)), (17, .iconst 4, 1, .int (4 : Int32))] (by decide +kernel) rfl ?_
    obtain ⟨r1, e2, hm⟩ := bn_x hm
    refine aw_cs (rest := []) (st1 := []) (kX7_requireWithin e2) rfl rfl ckX7_requireWithin lkX7_196 nkX7_requireWithin rfl rfl rfl (Nat.le_of_ble_eq_true rfl) (Nat.zero_le _) (Nat.zero_le _) (by decide +kernel) (fun H3 z4 => ?_)
    have h0 := h0.kept0 z4
    have hs := hs.step0 z4
    refine aw_b (pc' := 22) (lv' := [(0, .ref a), (1, .int i0), (2, .int i1)]) (st' := [.ref a]) [(21, .aload_n 0, 1, .null)] (by decide +kernel) rfl ?_
    refine aw_gl (v := .ref (a + 8)) a 0 h0 eo_M_0 fgX7_30 rfl (by decide +kernel) ?_
    refine aw_gl (v := .ref (a + 42)) a 8 h0 eo_M_8 fgX7_153 rfl (by decide +kernel) ?_
    refine aw_b (pc' := 30) (lv' := [(0, .ref a), (1, .int i0), (2, .int i1)]) (st' := [.int i1, .int i0, .ref (a + 42)]) [(28, .iload_n 1, 1, .null), (29, .iload_n 2, 1, .null)] (by decide +kernel) rfl ?_
    obtain ⟨r5, e6, hm⟩ := bn_x hm
    refine aw_cv (rest := []) (st1 := [.int r5]) a 42 (kX4_servedAt e6 (h0.sub su_M_42_R)) rfl rfl ckX4_servedAt lkX7_266 h0 eo_M_42 ⟨_, _, rfl⟩ nkX4_servedAt rfl rfl rfl (Nat.le_of_ble_eq_true rfl) (Nat.zero_le _) (Nat.zero_le _) (by decide +kernel) (fun H7 z8 => ?_)
    have h0 := h0.kept0 z8
    have hs := hs.step0 z8
    obtain rfl := Option.some.inj hm
    subst hQ
    exact aw_iret rfl (Nat.zero_le _) (Nat.zero_le _) (by decide +kernel) ⟨rfl, hs⟩
  · have hm := (if_neg hc).symm.trans hm
    cases hm
def mX7_rounds : mt_ := (yX7_rounds, cX7_rounds, 1, some .int, [], { frames := 0, locals := 0, cells := 0, slots := 0 })
theorem ckX7_rounds : cokV_ mX7_rounds := ⟨⟨(uw_mem 1213 (by decide +kernel) (by decide +kernel)), (uw_mem 29 (by decide +kernel) (by decide +kernel)), by decide +kernel, by decide +kernel⟩, (uw_mem 1211 (by decide +kernel) (by decide +kernel)), (uw_mem 1212 (by decide +kernel) (by decide +kernel))⟩
theorem nkX7_rounds : nok_ mX7_rounds 0 := by decide +kernel
theorem fgX7_269 : fok_ RX7 269 1 9 := ⟨_, _, _, rfl, by decide, (uw_mem 299 (by decide +kernel) (by decide +kernel)), wkX1⟩
def gX7_rounds (s : st_) : Option (Int32) :=
  some (s 9 9)
theorem kX7_rounds {E : ev_} {H : Heap} {a : Nat} {s : st_} {r : Int32} (hm : gX7_rounds s = some r) (h0 : has_ E H a ly_M s) : sp_ E mX7_rounds [.ref a] H (po1 (.inl (some (.int r))) (fun Hn => sm_ H Hn 0 0)) := by
  refine sp_of (by decide +kernel) rfl rfl ?_
  generalize hQ : po1 _ _ = Q
  have hs : sm_ H H 0 0 := sm_.rfl'
  unfold gX7_rounds at hm
  refine aw_lv (lv' := [(0, .ref a)]) [0] rfl ?_
  refine aw_b (pc' := 1) (lv' := [(0, .ref a)]) (st' := [.ref a]) [(0, .aload_n 0, 1, .null)] (by decide +kernel) rfl ?_
  refine aw_gl (v := .ref (a + 8)) a 0 h0 eo_M_0 fgX7_30 rfl (by decide +kernel) ?_
  refine aw_gl (v := .ref (a + 9)) a 8 h0 eo_M_8 fgX7_80 rfl (by decide +kernel) ?_
  refine aw_gl (v := .int (s 9 9)) a 9 h0 eo_M_9 fgX7_269 rfl (by decide +kernel) ?_
  obtain rfl := Option.some.inj hm
  subst hQ
  exact aw_iret rfl (Nat.zero_le _) (Nat.zero_le _) (by decide +kernel) ⟨rfl, hs⟩
def mX7_regret : mt_ := (yX7_regret, cX7_regret, 3, some .int, [], { frames := 2, locals := 42, cells := 0, slots := 0 })
theorem ckX7_regret : cokV_ mX7_regret := ⟨⟨(uw_mem 1274 (by decide +kernel) (by decide +kernel)), (uw_mem 29 (by decide +kernel) (by decide +kernel)), by decide +kernel, by decide +kernel⟩, (uw_mem 1272 (by decide +kernel) (by decide +kernel)), (uw_mem 1273 (by decide +kernel) (by decide +kernel))⟩
theorem nkX7_regret : nok_ mX7_regret 1 := by decide +kernel
theorem lkX7_272 : Cond.methodLink RX7 272 yX1_regretNow ∈ uw_ := (uw_mem 1275 (by decide +kernel) (by decide +kernel))
theorem lkX7_275 : Cond.methodLink RX7 275 yX5_boundBehind ∈ uw_ := (uw_mem 1276 (by decide +kernel) (by decide +kernel))
theorem fgX7_278 : fok_ RX7 278 4 10 := ⟨_, _, _, rfl, by decide, (uw_mem 361 (by decide +kernel) (by decide +kernel)), wkX4⟩
theorem fgX7_281 : fok_ RX7 281 4 11 := ⟨_, _, _, rfl, by decide, (uw_mem 363 (by decide +kernel) (by decide +kernel)), wkX4⟩
theorem fgX7_284 : fok_ RX7 284 4 12 := ⟨_, _, _, rfl, by decide, (uw_mem 365 (by decide +kernel) (by decide +kernel)), wkX4⟩
def gX7_regret (s : st_) (i0 : Int32) : Option (Int32) :=
  if i0 = (0 : Int32) then (bn_ (fX1_regretNow (sb_ s 9)) fun r1 =>
  some r1)
  else (if i0 = (1 : Int32) then (bn_ (fX5_boundBehind (sb_ s 10) (s 9 9)) fun r5 =>
  some r5)
  else (if i0 = (2 : Int32) then (some (s 42 10))
  else (if i0 = (3 : Int32) then (some (s 42 11))
  else (if i0 = (4 : Int32) then (some (s 42 12))
  else (none)))))
theorem kX7_regret {E : ev_} {H : Heap} {a : Nat} {s : st_} {i0 : Int32} {r : Int32} (hm : gX7_regret s i0 = some r) (h0 : has_ E H a ly_M s) : sp_ E mX7_regret [.ref a, .int i0] H (po1 (.inl (some (.int r))) (fun Hn => sm_ H Hn 0 0)) := by
  refine sp_of (by decide +kernel) rfl rfl ?_
  generalize hQ : po1 _ _ = Q
  have hs : sm_ H H 0 0 := sm_.rfl'
  unfold gX7_regret at hm
  refine aw_lv (lv' := [(0, .ref a), (1, .int i0)]) [0, 1] rfl ?_
  refine aw_b (pc' := 1) (lv' := [(0, .ref a), (1, .int i0)]) (st' := [.ref a]) [(0, .aload_n 0, 1, .null)] (by decide +kernel) rfl ?_
  refine aw_gl (v := .ref (a + 8)) a 0 h0 eo_M_0 fgX7_30 rfl (by decide +kernel) ?_
  refine aw_gl (v := .ref (a + 9)) a 8 h0 eo_M_8 fgX7_80 rfl (by decide +kernel) ?_
  refine aw_b (pc' := 9) (lv' := [(2, .ref (a + 9)), (0, .ref a), (1, .int i0)]) (st' := [.int i0]) [(7, .astore_n 2, 1, .null), (8, .iload_n 1, 1, .null)] (by decide +kernel) rfl ?_
  refine aw_ts [((0 : Int32), 44), ((1 : Int32), 49), ((2 : Int32), 61), ((3 : Int32), 72), ((4 : Int32), 83)] 94 (by decide +kernel) ?_
  refine aw_tg (fun hc => ?_) (fun hc => ?_)
  · have hm := (if_pos hc).symm.trans hm
    refine aw_b (pc' := 45) (lv' := [(2, .ref (a + 9)), (0, .ref a), (1, .int i0)]) (st' := [.ref (a + 9)]) [(44, .aload_n 2, 1, .null)] (by decide +kernel) rfl ?_
    obtain ⟨r1, e2, hm⟩ := bn_x hm
    refine aw_cv (rest := []) (st1 := [.int r1]) a 9 (kX1_regretNow e2 (h0.sub su_M_9_D)) rfl rfl ckX1_regretNow lkX7_272 h0 eo_M_9 ⟨_, _, rfl⟩ nkX1_regretNow rfl rfl rfl (Nat.le_of_ble_eq_true rfl) (Nat.zero_le _) (Nat.zero_le _) (by decide +kernel) (fun H3 z4 => ?_)
    have h0 := h0.kept0 z4
    have hs := hs.step0 z4
    obtain rfl := Option.some.inj hm
    subst hQ
    exact aw_iret rfl (Nat.zero_le _) (Nat.zero_le _) (by decide +kernel) ⟨rfl, hs⟩
  · have hm := (if_neg hc).symm.trans hm
    refine aw_tg (fun hc => ?_) (fun hc => ?_)
    · have hm := (if_pos hc).symm.trans hm
      refine aw_b (pc' := 50) (lv' := [(2, .ref (a + 9)), (0, .ref a), (1, .int i0)]) (st' := [.ref (a + 9)]) [(49, .aload_n 2, 1, .null)] (by decide +kernel) rfl ?_
      refine aw_gl (v := .ref (a + 10)) a 9 h0 eo_M_9 fgX7_83 rfl (by decide +kernel) ?_
      refine aw_b (pc' := 54) (lv' := [(2, .ref (a + 9)), (0, .ref a), (1, .int i0)]) (st' := [.ref (a + 9), .ref (a + 10)]) [(53, .aload_n 2, 1, .null)] (by decide +kernel) rfl ?_
      refine aw_gl (v := .int (s 9 9)) a 9 h0 eo_M_9 fgX7_269 rfl (by decide +kernel) ?_
      obtain ⟨r5, e6, hm⟩ := bn_x hm
      refine aw_cv (rest := []) (st1 := [.int r5]) a 10 (kX5_boundBehind e6 (h0.sub su_M_10_S)) rfl rfl ckX5_boundBehind lkX7_275 h0 eo_M_10 ⟨_, _, rfl⟩ nkX5_boundBehind rfl rfl rfl (Nat.le_of_ble_eq_true rfl) (Nat.zero_le _) (Nat.zero_le _) (by decide +kernel) (fun H7 z8 => ?_)
      have h0 := h0.kept0 z8
      have hs := hs.step0 z8
      obtain rfl := Option.some.inj hm
      subst hQ
      exact aw_iret rfl (Nat.zero_le _) (Nat.zero_le _) (by decide +kernel) ⟨rfl, hs⟩
    · have hm := (if_neg hc).symm.trans hm
      refine aw_tg (fun hc => ?_) (fun hc => ?_)
      · have hm := (if_pos hc).symm.trans hm
        refine aw_b (pc' := 62) (lv' := [(2, .ref (a + 9)), (0, .ref a), (1, .int i0)]) (st' := [.ref a]) [(61, .aload_n 0, 1, .null)] (by decide +kernel) rfl ?_
        refine aw_gl (v := .ref (a + 8)) a 0 h0 eo_M_0 fgX7_30 rfl (by decide +kernel) ?_
        refine aw_gl (v := .ref (a + 42)) a 8 h0 eo_M_8 fgX7_153 rfl (by decide +kernel) ?_
        refine aw_gl (v := .int (s 42 10)) a 42 h0 eo_M_42 fgX7_278 rfl (by decide +kernel) ?_
        obtain rfl := Option.some.inj hm
        subst hQ
        exact aw_iret rfl (Nat.zero_le _) (Nat.zero_le _) (by decide +kernel) ⟨rfl, hs⟩
      · have hm := (if_neg hc).symm.trans hm
        refine aw_tg (fun hc => ?_) (fun hc => ?_)
        · have hm := (if_pos hc).symm.trans hm
          refine aw_b (pc' := 73) (lv' := [(2, .ref (a + 9)), (0, .ref a), (1, .int i0)]) (st' := [.ref a]) [(72, .aload_n 0, 1, .null)] (by decide +kernel) rfl ?_
          refine aw_gl (v := .ref (a + 8)) a 0 h0 eo_M_0 fgX7_30 rfl (by decide +kernel) ?_
          refine aw_gl (v := .ref (a + 42)) a 8 h0 eo_M_8 fgX7_153 rfl (by decide +kernel) ?_
          refine aw_gl (v := .int (s 42 11)) a 42 h0 eo_M_42 fgX7_281 rfl (by decide +kernel) ?_
          obtain rfl := Option.some.inj hm
          subst hQ
          exact aw_iret rfl (Nat.zero_le _) (Nat.zero_le _) (by decide +kernel) ⟨rfl, hs⟩
        · have hm := (if_neg hc).symm.trans hm
          refine aw_tg (fun hc => ?_) (fun hc => ?_)
          · have hm := (if_pos hc).symm.trans hm
            refine aw_b (pc' := 84) (lv' := [(2, .ref (a + 9)), (0, .ref a), (1, .int i0)]) (st' := [.ref a]) [(83, .aload_n 0, 1, .null)] (by decide +kernel) rfl ?_
            refine aw_gl (v := .ref (a + 8)) a 0 h0 eo_M_0 fgX7_30 rfl (by decide +kernel) ?_
            refine aw_gl (v := .ref (a + 42)) a 8 h0 eo_M_8 fgX7_153 rfl (by decide +kernel) ?_
            refine aw_gl (v := .int (s 42 12)) a 42 h0 eo_M_42 fgX7_284 rfl (by decide +kernel) ?_
            obtain rfl := Option.some.inj hm
            subst hQ
            exact aw_iret rfl (Nat.zero_le _) (Nat.zero_le _) (by decide +kernel) ⟨rfl, hs⟩
          · have hm := (if_neg hc).symm.trans hm
            show aw E _ Q 94 _ _ _ _ _
            cases hm
def mX7_best : mt_ := (yX7_best, cX7_best, 1, some .int, [], { frames := 1, locals := 22, cells := 0, slots := 0 })
theorem ckX7_best : cokV_ mX7_best := ⟨⟨(uw_mem 1294 (by decide +kernel) (by decide +kernel)), (uw_mem 29 (by decide +kernel) (by decide +kernel)), by decide +kernel, by decide +kernel⟩, (uw_mem 1292 (by decide +kernel) (by decide +kernel)), (uw_mem 1293 (by decide +kernel) (by decide +kernel))⟩
theorem nkX7_best : nok_ mX7_best 0 := by decide +kernel
theorem lkX7_289 : Cond.methodLink RX7 289 yX1_cheapestRule ∈ uw_ := (uw_mem 1295 (by decide +kernel) (by decide +kernel))
def gX7_best (s : st_) : Option (Int32) :=
  bn_ (fX1_cheapestRule (sb_ s 9)) fun r1 =>
  some r1
theorem kX7_best {E : ev_} {H : Heap} {a : Nat} {s : st_} {r : Int32} (hm : gX7_best s = some r) (h0 : has_ E H a ly_M s) : sp_ E mX7_best [.ref a] H (po1 (.inl (some (.int r))) (fun Hn => sm_ H Hn 0 0)) := by
  refine sp_of (by decide +kernel) rfl rfl ?_
  generalize hQ : po1 _ _ = Q
  have hs : sm_ H H 0 0 := sm_.rfl'
  unfold gX7_best at hm
  refine aw_lv (lv' := [(0, .ref a)]) [0] rfl ?_
  refine aw_b (pc' := 1) (lv' := [(0, .ref a)]) (st' := [.ref a]) [(0, .aload_n 0, 1, .null)] (by decide +kernel) rfl ?_
  refine aw_gl (v := .ref (a + 8)) a 0 h0 eo_M_0 fgX7_30 rfl (by decide +kernel) ?_
  refine aw_gl (v := .ref (a + 9)) a 8 h0 eo_M_8 fgX7_80 rfl (by decide +kernel) ?_
  obtain ⟨r1, e2, hm⟩ := bn_x hm
  refine aw_cv (rest := []) (st1 := [.int r1]) a 9 (kX1_cheapestRule e2 (h0.sub su_M_9_D)) rfl rfl ckX1_cheapestRule lkX7_289 h0 eo_M_9 ⟨_, _, rfl⟩ nkX1_cheapestRule rfl rfl rfl (Nat.le_of_ble_eq_true rfl) (Nat.zero_le _) (Nat.zero_le _) (by decide +kernel) (fun H3 z4 => ?_)
  have h0 := h0.kept0 z4
  have hs := hs.step0 z4
  obtain rfl := Option.some.inj hm
  subst hQ
  exact aw_iret rfl (Nat.zero_le _) (Nat.zero_le _) (by decide +kernel) ⟨rfl, hs⟩
def mX7_regretTo : mt_ := (yX7_regretTo, cX7_regretTo, 2, some .int, [], { frames := 2, locals := 42, cells := 0, slots := 0 })
theorem ckX7_regretTo : cokV_ mX7_regretTo := ⟨⟨(uw_mem 1270 (by decide +kernel) (by decide +kernel)), (uw_mem 29 (by decide +kernel) (by decide +kernel)), by decide +kernel, by decide +kernel⟩, (uw_mem 1268 (by decide +kernel) (by decide +kernel)), (uw_mem 1269 (by decide +kernel) (by decide +kernel))⟩
theorem nkX7_regretTo : nok_ mX7_regretTo 1 := by decide +kernel
def gX7_regretTo (s : st_) (i0 : Int32) : Option (Int32) :=
  bn_ (gX7_requireRule s i0) fun r1 =>
  gd_ (ib_ i0 6) <|
  some ((s 14 5) - (s (3 * ix_ i0 + 24) 5))
theorem kX7_regretTo {E : ev_} {H : Heap} {a : Nat} {s : st_} {i0 : Int32} {r : Int32} (hm : gX7_regretTo s i0 = some r) (h0 : has_ E H a ly_M s) : sp_ E mX7_regretTo [.ref a, .int i0] H (po1 (.inl (some (.int r))) (fun Hn => sm_ H Hn 0 0)) := by
  refine sp_of (by decide +kernel) rfl rfl ?_
  generalize hQ : po1 _ _ = Q
  have hs : sm_ H H 0 0 := sm_.rfl'
  unfold gX7_regretTo at hm
  refine aw_lv (lv' := [(0, .ref a), (1, .int i0)]) [0, 1] rfl ?_
  refine aw_b (pc' := 2) (lv' := [(0, .ref a), (1, .int i0)]) (st' := [.int i0, .ref a]) [(0, .aload_n 0, 1, .null), (1, .iload_n 1, 1, .null)] (by decide +kernel) rfl ?_
  obtain ⟨r1, e2, hm⟩ := bn_x hm
  refine aw_cv (rest := []) (st1 := []) a 0 (kX7_requireRule e2 h0) rfl rfl ckX7_requireRule lkX7_138 h0 eo_M_0 ⟨_, _, rfl⟩ nkX7_requireRule rfl rfl rfl (Nat.le_of_ble_eq_true rfl) (Nat.zero_le _) (Nat.zero_le _) (by decide +kernel) (fun H3 z4 => ?_)
  have h0 := h0.kept0 z4
  have hs := hs.step0 z4
  refine aw_b (pc' := 6) (lv' := [(0, .ref a), (1, .int i0)]) (st' := [.ref a]) [(5, .aload_n 0, 1, .null)] (by decide +kernel) rfl ?_
  refine aw_gl (v := .ref (a + 8)) a 0 h0 eo_M_0 fgX7_30 rfl (by decide +kernel) ?_
  refine aw_gl (v := .ref (a + 9)) a 8 h0 eo_M_8 fgX7_80 rfl (by decide +kernel) ?_
  refine aw_gl (v := .ref (a + 14)) a 9 h0 eo_M_9 fgX7_189 rfl (by decide +kernel) ?_
  refine aw_gl (v := .int (s 14 5)) a 14 h0 eo_M_14 fgX7_166 rfl (by decide +kernel) ?_
  refine aw_b (pc' := 19) (lv' := [(0, .ref a), (1, .int i0)]) (st' := [.ref a, .int (s 14 5)]) [(18, .aload_n 0, 1, .null)] (by decide +kernel) rfl ?_
  refine aw_gl (v := .ref (a + 8)) a 0 h0 eo_M_0 fgX7_30 rfl (by decide +kernel) ?_
  refine aw_gl (v := .ref (a + 9)) a 8 h0 eo_M_8 fgX7_80 rfl (by decide +kernel) ?_
  refine aw_gl (v := .ref (a + 20)) a 9 h0 eo_M_9 fgX7_162 rfl (by decide +kernel) ?_
  refine aw_b (pc' := 29) (lv' := [(0, .ref a), (1, .int i0)]) (st' := [.int i0, .ref (a + 20), .int (s 14 5)]) [(28, .iload_n 1, 1, .null)] (by decide +kernel) rfl ?_
  obtain ⟨g5, hm⟩ := gd_x hm
  refine aw_rall a 20 h0 ra_M_20 g5 (by decide +kernel) ?_
  refine aw_gl (v := .int (s (3 * ix_ i0 + 24) 5)) a (3 * ix_ i0 + 24) h0 (eow_M_24 _ (ib_lt g5)) fgX7_166 rfl (by decide +kernel) ?_
  refine aw_b (pc' := 34) (lv' := [(0, .ref a), (1, .int i0)]) (st' := [.int ((s 14 5) - (s (3 * ix_ i0 + 24) 5))]) [(33, .isub, 1, .null)] (by decide +kernel) rfl ?_
  obtain rfl := Option.some.inj hm
  subst hQ
  exact aw_iret rfl (Nat.zero_le _) (Nat.zero_le _) (by decide +kernel) ⟨rfl, hs⟩
def mX7_swapCost : mt_ := (yX7_swapCost, cX7_swapCost, 3, some .int, [], { frames := 2, locals := 42, cells := 0, slots := 0 })
theorem ckX7_swapCost : cokV_ mX7_swapCost := ⟨⟨(uw_mem 1261 (by decide +kernel) (by decide +kernel)), (uw_mem 29 (by decide +kernel) (by decide +kernel)), by decide +kernel, by decide +kernel⟩, (uw_mem 1259 (by decide +kernel) (by decide +kernel)), (uw_mem 1260 (by decide +kernel) (by decide +kernel))⟩
theorem nkX7_swapCost : nok_ mX7_swapCost 2 := by decide +kernel
theorem fgX7_292 : fok_ RX7 292 4 7 := ⟨_, _, _, rfl, by decide, (uw_mem 357 (by decide +kernel) (by decide +kernel)), wkX4⟩
theorem ra_M_55 : ral_ ly_M 55 7 6 1 56 := ⟨_, rfl, fun a k h => (if_pos h).trans (congrArg some (by omega))⟩
theorem sr_M_56 : ∀ k, k < 6 → ly_M[1 * k + 56]? = some (ia_ 6) := by
  intro k hk
  match k, hk with
  | 0, _ => rfl
  | 1, _ => rfl
  | 2, _ => rfl
  | 3, _ => rfl
  | 4, _ => rfl
  | 5, _ => rfl
def gX7_swapCost (s : st_) (i0 : Int32) (i1 : Int32) : Option (Int32) :=
  bn_ (gX7_requireRule s i0) fun r1 =>
  bn_ (gX7_requireRule s i1) fun r5 =>
  gd_ (ib_ i0 6) <|
  gd_ (ib_ i1 6) <|
  some (s (1 * ix_ i0 + 56) (ix_ i1))
theorem kX7_swapCost {E : ev_} {H : Heap} {a : Nat} {s : st_} {i0 : Int32} {i1 : Int32} {r : Int32} (hm : gX7_swapCost s i0 i1 = some r) (h0 : has_ E H a ly_M s) : sp_ E mX7_swapCost [.ref a, .int i0, .int i1] H (po1 (.inl (some (.int r))) (fun Hn => sm_ H Hn 0 0)) := by
  refine sp_of (by decide +kernel) rfl rfl ?_
  generalize hQ : po1 _ _ = Q
  have hs : sm_ H H 0 0 := sm_.rfl'
  unfold gX7_swapCost at hm
  refine aw_lv (lv' := [(0, .ref a), (1, .int i0), (2, .int i1)]) [0, 1, 2] rfl ?_
  refine aw_b (pc' := 2) (lv' := [(0, .ref a), (1, .int i0), (2, .int i1)]) (st' := [.int i0, .ref a]) [(0, .aload_n 0, 1, .null), (1, .iload_n 1, 1, .null)] (by decide +kernel) rfl ?_
  obtain ⟨r1, e2, hm⟩ := bn_x hm
  refine aw_cv (rest := []) (st1 := []) a 0 (kX7_requireRule e2 h0) rfl rfl ckX7_requireRule lkX7_138 h0 eo_M_0 ⟨_, _, rfl⟩ nkX7_requireRule rfl rfl rfl (Nat.le_of_ble_eq_true rfl) (Nat.zero_le _) (Nat.zero_le _) (by decide +kernel) (fun H3 z4 => ?_)
  have h0 := h0.kept0 z4
  have hs := hs.step0 z4
  refine aw_b (pc' := 7) (lv' := [(0, .ref a), (1, .int i0), (2, .int i1)]) (st' := [.int i1, .ref a]) [(5, .aload_n 0, 1, .null), (6, .iload_n 2, 1, .null)] (by decide +kernel) rfl ?_
  obtain ⟨r5, e6, hm⟩ := bn_x hm
  refine aw_cv (rest := []) (st1 := []) a 0 (kX7_requireRule e6 h0) rfl rfl ckX7_requireRule lkX7_138 h0 eo_M_0 ⟨_, _, rfl⟩ nkX7_requireRule rfl rfl rfl (Nat.le_of_ble_eq_true rfl) (Nat.zero_le _) (Nat.zero_le _) (by decide +kernel) (fun H7 z8 => ?_)
  have h0 := h0.kept0 z8
  have hs := hs.step0 z8
  refine aw_b (pc' := 11) (lv' := [(0, .ref a), (1, .int i0), (2, .int i1)]) (st' := [.ref a]) [(10, .aload_n 0, 1, .null)] (by decide +kernel) rfl ?_
  refine aw_gl (v := .ref (a + 8)) a 0 h0 eo_M_0 fgX7_30 rfl (by decide +kernel) ?_
  refine aw_gl (v := .ref (a + 42)) a 8 h0 eo_M_8 fgX7_153 rfl (by decide +kernel) ?_
  refine aw_gl (v := .ref (a + 55)) a 42 h0 eo_M_42 fgX7_292 rfl (by decide +kernel) ?_
  refine aw_b (pc' := 21) (lv' := [(0, .ref a), (1, .int i0), (2, .int i1)]) (st' := [.int i0, .ref (a + 55)]) [(20, .iload_n 1, 1, .null)] (by decide +kernel) rfl ?_
  obtain ⟨g9, hm⟩ := gd_x hm
  refine aw_iall a 55 h0 ra_M_55 g9 (by decide +kernel) ?_
  refine aw_b (pc' := 23) (lv' := [(0, .ref a), (1, .int i0), (2, .int i1)]) (st' := [.int i1, .ref (a + (1 * ix_ i0 + 56))]) [(22, .iload_n 2, 1, .null)] (by decide +kernel) rfl ?_
  obtain ⟨g10, hm⟩ := gd_x hm
  refine aw_ial a (1 * ix_ i0 + 56) h0 (sr_M_56 _ (ib_lt g9)) g10 (by decide +kernel) ?_
  obtain rfl := Option.some.inj hm
  subst hQ
  exact aw_iret rfl (Nat.zero_le _) (Nat.zero_le _) (by decide +kernel) ⟨rfl, hs⟩
def mX7_swapRegret : mt_ := (yX7_swapRegret, cX7_swapRegret, 4, some .int, [], { frames := 1, locals := 23, cells := 0, slots := 0 })
theorem ckX7_swapRegret : cokV_ mX7_swapRegret := ⟨⟨(uw_mem 1299 (by decide +kernel) (by decide +kernel)), (uw_mem 29 (by decide +kernel) (by decide +kernel)), by decide +kernel, by decide +kernel⟩, (uw_mem 1297 (by decide +kernel) (by decide +kernel)), (uw_mem 1298 (by decide +kernel) (by decide +kernel))⟩
theorem nkX7_swapRegret : nok_ mX7_swapRegret 0 := by decide +kernel
theorem lkX7_296 : Cond.methodLink RX7 296 yX4_cheapestSwap ∈ uw_ := (uw_mem 1282 (by decide +kernel) (by decide +kernel))
def gX7_swapRegret_x4_60 (v1_x4_60 : Int32) : Option (Int32) :=
  some v1_x4_60
def gX7_swapRegret_k4 (x : Int32) : Option (Int32) :=
  gX7_swapRegret_x4_60 x
def gX7_swapRegret_b4 (s : st_) (v1_b4 : Int32) (v2_b4 : Int32) : Option ((Int32 × Int32) ⊕ (Int32)) :=
  if (s 10 4) ≤ v2_b4 then (some (.inr v1_b4))
  else (gd_ (ib_ v2_b4 6) <|
  gd_ (ib_ v2_b4 6) <|
  bn_ (fX4_cheapestSwap (sb_ s 42) v2_b4) fun r3 =>
  gd_ (ib_ r3 6) <|
  some (.inl ((v1_b4 + ((s (1 * ix_ v2_b4 + 56) (ix_ v2_b4)) - (s (1 * ix_ v2_b4 + 56) (ix_ r3)))), (v2_b4 + (1 : Int32)))))
def gX7_swapRegret_l4 (s : st_) : Nat → (Int32 × Int32) → Option (Int32) :=
  it_ (fun v => gX7_swapRegret_b4 s v.1 v.2)
def gX7_swapRegret (s : st_) : Option (Int32) :=
  bn_ (gX7_swapRegret_l4 s FU_ ((0 : Int32), (0 : Int32))) (gX7_swapRegret_k4)
theorem kX7_swapRegret {E : ev_} {H : Heap} {a : Nat} {s : st_} {r : Int32} (hm : gX7_swapRegret s = some r) (h0 : has_ E H a ly_M s) : sp_ E mX7_swapRegret [.ref a] H (po1 (.inl (some (.int r))) (fun Hn => sm_ H Hn 0 0)) := by
  refine sp_of (by decide +kernel) rfl rfl ?_
  generalize hQ : po1 _ _ = Q
  have hs : sm_ H H 0 0 := sm_.rfl'
  unfold gX7_swapRegret at hm
  refine aw_lv (lv' := [(0, .ref a)]) [0] rfl ?_
  refine aw_b (pc' := 4) (lv' := [(2, .int (0 : Int32)), (1, .int (0 : Int32)), (0, .ref a)]) (st' := []) [(0, .iconst 0, 1, .int (0 : Int32)), (1, .istore_n 1, 1, .null), (2, .iconst 0, 1, .int (0 : Int32)), (3, .istore_n 2, 1, .null)] (by decide +kernel) rfl ?_
  obtain ⟨x4, hx4, hr4⟩ := bn_x hm
  have X4_60 : ∀ (v1_x4_60 : Int32) (H_x4_60 : Heap), has_ E H_x4_60 a ly_M s → sm_ H H_x4_60 0 0 → gX7_swapRegret_x4_60 v1_x4_60 = some r → aw E mX7_swapRegret Q 60 [(1, .int v1_x4_60)] [] H_x4_60 0 0 := by
    intro v1_x4_60 H_x4_60 h0 hs hm
    unfold gX7_swapRegret_x4_60 at hm
    refine aw_b (pc' := 61) (lv' := [(1, .int v1_x4_60)]) (st' := [.int v1_x4_60]) [(60, .iload_n 1, 1, .null)] (by decide +kernel) rfl ?_
    obtain rfl := Option.some.inj hm
    subst hQ
    exact aw_iret rfl (Nat.zero_le _) (Nat.zero_le _) (by decide +kernel) ⟨rfl, hs⟩
  have L4 : ∀ (fu : Nat) (v1_b4 : Int32) (v2_b4 : Int32) (H_b4 : Heap), has_ E H_b4 a ly_M s → sm_ H H_b4 0 0 → gX7_swapRegret_l4 s fu (v1_b4, v2_b4) = some x4 → aw E mX7_swapRegret Q 4 [(0, .ref a), (1, .int v1_b4), (2, .int v2_b4)] [] H_b4 0 0 := by
    intro fu
    induction fu with
    | zero =>
      intro v1_b4 v2_b4 H_b4 h0 hs hm
      exact (it_0 hm).elim
    | succ fu ih4 =>
      intro v1_b4 v2_b4 H_b4 h0 hs hm
      obtain ⟨y4, hm, hk4⟩ := it_s hm
      have hm : gX7_swapRegret_b4 s v1_b4 v2_b4 = some y4 := hm
      unfold gX7_swapRegret_b4 at hm
      refine aw_b (pc' := 6) (lv' := [(0, .ref a), (1, .int v1_b4), (2, .int v2_b4)]) (st' := [.ref a, .int v2_b4]) [(4, .iload_n 2, 1, .null), (5, .aload_n 0, 1, .null)] (by decide +kernel) rfl ?_
      refine aw_gl (v := .ref (a + 8)) a 0 h0 eo_M_0 fgX7_30 rfl (by decide +kernel) ?_
      refine aw_gl (v := .ref (a + 9)) a 8 h0 eo_M_8 fgX7_80 rfl (by decide +kernel) ?_
      refine aw_gl (v := .ref (a + 10)) a 9 h0 eo_M_9 fgX7_83 rfl (by decide +kernel) ?_
      refine aw_gl (v := .int (s 10 4)) a 10 h0 eo_M_10 fgX7_86 rfl (by decide +kernel) ?_
      refine aw_ic_ge (off := 42) 60 (by decide) (by decide +kernel) (fun hc => ?_) (fun hc => ?_)
      · have hm := (if_pos hc).symm.trans hm
        cases hm
        refine aw_lv (lv' := [(1, .int v1_b4)]) [1] rfl ?_
        exact X4_60 v1_b4 H_b4 h0 hs ((congrArg gX7_swapRegret_k4 (show (v1_b4) = x4 from hk4)).trans hr4)
      · have hm := (if_neg hc).symm.trans hm
        refine aw_b (pc' := 22) (lv' := [(0, .ref a), (1, .int v1_b4), (2, .int v2_b4)]) (st' := [.ref a]) [(21, .aload_n 0, 1, .null)] (by decide +kernel) rfl ?_
        refine aw_gl (v := .ref (a + 8)) a 0 h0 eo_M_0 fgX7_30 rfl (by decide +kernel) ?_
        refine aw_gl (v := .ref (a + 42)) a 8 h0 eo_M_8 fgX7_153 rfl (by decide +kernel) ?_
        refine aw_gl (v := .ref (a + 55)) a 42 h0 eo_M_42 fgX7_292 rfl (by decide +kernel) ?_
        refine aw_b (pc' := 32) (lv' := [(0, .ref a), (1, .int v1_b4), (2, .int v2_b4)]) (st' := [.int v2_b4, .ref (a + 55)]) [(31, .iload_n 2, 1, .null)] (by decide +kernel) rfl ?_
        obtain ⟨g1, hm⟩ := gd_x hm
        refine aw_iall a 55 h0 ra_M_55 g1 (by decide +kernel) ?_
        refine aw_b (pc' := 37) (lv' := [(3, .ref (a + (1 * ix_ v2_b4 + 56))), (0, .ref a), (1, .int v1_b4), (2, .int v2_b4)]) (st' := [.int v2_b4, .ref (a + (1 * ix_ v2_b4 + 56)), .int v1_b4]) [(33, .astore_n 3, 1, .null), (34, .iload_n 1, 1, .null), (35, .aload_n 3, 1, .null), (36, .iload_n 2, 1, .null)] (by decide +kernel) rfl ?_
        obtain ⟨g2, hm⟩ := gd_x hm
        refine aw_ial a (1 * ix_ v2_b4 + 56) h0 (sr_M_56 _ (ib_lt g1)) g2 (by decide +kernel) ?_
        refine aw_b (pc' := 40) (lv' := [(3, .ref (a + (1 * ix_ v2_b4 + 56))), (0, .ref a), (1, .int v1_b4), (2, .int v2_b4)]) (st' := [.ref a, .ref (a + (1 * ix_ v2_b4 + 56)), .int (s (1 * ix_ v2_b4 + 56) (ix_ v2_b4)), .int v1_b4]) [(38, .aload_n 3, 1, .null), (39, .aload_n 0, 1, .null)] (by decide +kernel) rfl ?_
        refine aw_gl (v := .ref (a + 8)) a 0 h0 eo_M_0 fgX7_30 rfl (by decide +kernel) ?_
        refine aw_gl (v := .ref (a + 42)) a 8 h0 eo_M_8 fgX7_153 rfl (by decide +kernel) ?_
        refine aw_b (pc' := 47) (lv' := [(3, .ref (a + (1 * ix_ v2_b4 + 56))), (0, .ref a), (1, .int v1_b4), (2, .int v2_b4)]) (st' := [.int v2_b4, .ref (a + 42), .ref (a + (1 * ix_ v2_b4 + 56)), .int (s (1 * ix_ v2_b4 + 56) (ix_ v2_b4)), .int v1_b4]) [(46, .iload_n 2, 1, .null)] (by decide +kernel) rfl ?_
        obtain ⟨r3, e4, hm⟩ := bn_x hm
        refine aw_cv (rest := [.ref (a + (1 * ix_ v2_b4 + 56)), .int (s (1 * ix_ v2_b4 + 56) (ix_ v2_b4)), .int v1_b4]) (st1 := [.int r3, .ref (a + (1 * ix_ v2_b4 + 56)), .int (s (1 * ix_ v2_b4 + 56) (ix_ v2_b4)), .int v1_b4]) a 42 (kX4_cheapestSwap e4 (h0.sub su_M_42_R)) rfl rfl ckX4_cheapestSwap lkX7_296 h0 eo_M_42 ⟨_, _, rfl⟩ nkX4_cheapestSwap rfl rfl rfl (Nat.le_of_ble_eq_true rfl) (Nat.zero_le _) (Nat.zero_le _) (by decide +kernel) (fun H5 z6 => ?_)
        have h0 := h0.kept0 z6
        have hs := hs.step0 z6
        obtain ⟨g7, hm⟩ := gd_x hm
        refine aw_ial a (1 * ix_ v2_b4 + 56) h0 (sr_M_56 _ (ib_lt g1)) g7 (by decide +kernel) ?_
        refine aw_b (pc' := 4) (lv' := [(2, .int (v2_b4 + (1 : Int32))), (1, .int (v1_b4 + ((s (1 * ix_ v2_b4 + 56) (ix_ v2_b4)) - (s (1 * ix_ v2_b4 + 56) (ix_ r3))))), (3, .ref (a + (1 * ix_ v2_b4 + 56))), (0, .ref a)]) (st' := []) [(51, .isub, 1, .null), (52, .iadd, 1, .null), (53, .istore_n 1, 1, .null), (54, .iinc 2 1, 3, .int (1 : Int32)), (57, .goto (-53), 3, .null)] (by decide +kernel) rfl ?_
        cases hm
        refine aw_lv (lv' := [(0, .ref a), (1, .int (v1_b4 + ((s (1 * ix_ v2_b4 + 56) (ix_ v2_b4)) - (s (1 * ix_ v2_b4 + 56) (ix_ r3))))), (2, .int (v2_b4 + (1 : Int32)))]) [3, 1, 0] rfl ?_
        exact ih4 (v1_b4 + ((s (1 * ix_ v2_b4 + 56) (ix_ v2_b4)) - (s (1 * ix_ v2_b4 + 56) (ix_ r3)))) (v2_b4 + (1 : Int32)) H5 h0 hs hk4
  refine aw_lv (lv' := [(0, .ref a), (1, .int (0 : Int32)), (2, .int (0 : Int32))]) [2, 1, 0] rfl ?_
  exact L4 FU_ (0 : Int32) (0 : Int32) H h0 hs hx4
def mX7_bestSwap : mt_ := (yX7_bestSwap, cX7_bestSwap, 2, some .int, [], { frames := 2, locals := 42, cells := 0, slots := 0 })
theorem ckX7_bestSwap : cokV_ mX7_bestSwap := ⟨⟨(uw_mem 1281 (by decide +kernel) (by decide +kernel)), (uw_mem 29 (by decide +kernel) (by decide +kernel)), by decide +kernel, by decide +kernel⟩, (uw_mem 1279 (by decide +kernel) (by decide +kernel)), (uw_mem 1280 (by decide +kernel) (by decide +kernel))⟩
theorem nkX7_bestSwap : nok_ mX7_bestSwap 1 := by decide +kernel
def gX7_bestSwap (s : st_) (i0 : Int32) : Option (Int32) :=
  bn_ (gX7_requireRule s i0) fun r1 =>
  bn_ (fX4_cheapestSwap (sb_ s 42) i0) fun r5 =>
  some r5
theorem kX7_bestSwap {E : ev_} {H : Heap} {a : Nat} {s : st_} {i0 : Int32} {r : Int32} (hm : gX7_bestSwap s i0 = some r) (h0 : has_ E H a ly_M s) : sp_ E mX7_bestSwap [.ref a, .int i0] H (po1 (.inl (some (.int r))) (fun Hn => sm_ H Hn 0 0)) := by
  refine sp_of (by decide +kernel) rfl rfl ?_
  generalize hQ : po1 _ _ = Q
  have hs : sm_ H H 0 0 := sm_.rfl'
  unfold gX7_bestSwap at hm
  refine aw_lv (lv' := [(0, .ref a), (1, .int i0)]) [0, 1] rfl ?_
  refine aw_b (pc' := 2) (lv' := [(0, .ref a), (1, .int i0)]) (st' := [.int i0, .ref a]) [(0, .aload_n 0, 1, .null), (1, .iload_n 1, 1, .null)] (by decide +kernel) rfl ?_
  obtain ⟨r1, e2, hm⟩ := bn_x hm
  refine aw_cv (rest := []) (st1 := []) a 0 (kX7_requireRule e2 h0) rfl rfl ckX7_requireRule lkX7_138 h0 eo_M_0 ⟨_, _, rfl⟩ nkX7_requireRule rfl rfl rfl (Nat.le_of_ble_eq_true rfl) (Nat.zero_le _) (Nat.zero_le _) (by decide +kernel) (fun H3 z4 => ?_)
  have h0 := h0.kept0 z4
  have hs := hs.step0 z4
  refine aw_b (pc' := 6) (lv' := [(0, .ref a), (1, .int i0)]) (st' := [.ref a]) [(5, .aload_n 0, 1, .null)] (by decide +kernel) rfl ?_
  refine aw_gl (v := .ref (a + 8)) a 0 h0 eo_M_0 fgX7_30 rfl (by decide +kernel) ?_
  refine aw_gl (v := .ref (a + 42)) a 8 h0 eo_M_8 fgX7_153 rfl (by decide +kernel) ?_
  refine aw_b (pc' := 13) (lv' := [(0, .ref a), (1, .int i0)]) (st' := [.int i0, .ref (a + 42)]) [(12, .iload_n 1, 1, .null)] (by decide +kernel) rfl ?_
  obtain ⟨r5, e6, hm⟩ := bn_x hm
  refine aw_cv (rest := []) (st1 := [.int r5]) a 42 (kX4_cheapestSwap e6 (h0.sub su_M_42_R)) rfl rfl ckX4_cheapestSwap lkX7_296 h0 eo_M_42 ⟨_, _, rfl⟩ nkX4_cheapestSwap rfl rfl rfl (Nat.le_of_ble_eq_true rfl) (Nat.zero_le _) (Nat.zero_le _) (by decide +kernel) (fun H7 z8 => ?_)
  have h0 := h0.kept0 z8
  have hs := hs.step0 z8
  obtain rfl := Option.some.inj hm
  subst hQ
  exact aw_iret rfl (Nat.zero_le _) (Nat.zero_le _) (by decide +kernel) ⟨rfl, hs⟩
def mX7_rival : mt_ := (yX7_rival, cX7_rival, 3, some .int, [], { frames := 1, locals := 22, cells := 0, slots := 0 })
theorem ckX7_rival : cokV_ mX7_rival := ⟨⟨(uw_mem 1364 (by decide +kernel) (by decide +kernel)), (uw_mem 29 (by decide +kernel) (by decide +kernel)), by decide +kernel, by decide +kernel⟩, (uw_mem 1362 (by decide +kernel) (by decide +kernel)), (uw_mem 1363 (by decide +kernel) (by decide +kernel))⟩
theorem nkX7_rival : nok_ mX7_rival 1 := by decide +kernel
theorem lkX7_299 : Cond.methodLink RX7 299 yX5_hasRival ∈ uw_ := (uw_mem 1365 (by decide +kernel) (by decide +kernel))
theorem fgX7_303 : fok_ RX7 303 5 14 := ⟨_, _, _, rfl, by decide, (uw_mem 120 (by decide +kernel) (by decide +kernel)), wkX5⟩
theorem fgX7_306 : fok_ RX7 306 1 2 := ⟨_, _, _, rfl, by decide, (uw_mem 287 (by decide +kernel) (by decide +kernel)), wkX1⟩
theorem eo_M_17 : eo_ ly_M 17 0 fsX0 := rfl
theorem fgX7_309 : fok_ RX7 309 4 13 := ⟨_, _, _, rfl, by decide, (uw_mem 367 (by decide +kernel) (by decide +kernel)), wkX4⟩
theorem fgX7_312 : fok_ RX7 312 1 13 := ⟨_, _, _, rfl, by decide, (uw_mem 306 (by decide +kernel) (by decide +kernel)), wkX1⟩
theorem kwX7_302 : Cond.constant RX7 302 (-2000000000 : Int32) ∈ uw_ := (uw_mem 1231 (by decide +kernel) (by decide +kernel))
def gX7_rival (s : st_) (i0 : Int32) : Option (Int32) :=
  bn_ (gX7_requireWithin i0 (0 : Int32) (5 : Int32)) fun r1 =>
  bn_ (fX5_hasRival (sb_ s 10)) fun r5 =>
  if r5 = (0 : Int32) then (some (-2000000000 : Int32))
  else (if i0 = (0 : Int32) then (some (s 10 14))
  else (if i0 = (1 : Int32) then (some (s 17 0))
  else (if i0 = (2 : Int32) then (some (s 17 5))
  else (if i0 = (3 : Int32) then (bn_ (fX1_cheapestRule (sb_ s 9)) fun r9 =>
  gd_ (ib_ r9 6) <|
  some ((s 17 5) - (s (3 * ix_ r9 + 24) 5)))
  else (if i0 = (4 : Int32) then (some (s 42 13))
  else (some (s 9 13)))))))
theorem kX7_rival {E : ev_} {H : Heap} {a : Nat} {s : st_} {i0 : Int32} {r : Int32} (hm : gX7_rival s i0 = some r) (h0 : has_ E H a ly_M s) : sp_ E mX7_rival [.ref a, .int i0] H (po1 (.inl (some (.int r))) (fun Hn => sm_ H Hn 0 0)) := by
  refine sp_of (by decide +kernel) rfl rfl ?_
  generalize hQ : po1 _ _ = Q
  have hs : sm_ H H 0 0 := sm_.rfl'
  unfold gX7_rival at hm
  refine aw_lv (lv' := [(0, .ref a), (1, .int i0)]) [0, 1] rfl ?_
  refine aw_b (pc' := 3) (lv' := [(0, .ref a), (1, .int i0)]) (st' := [.int (5 : Int32), .int (0 : Int32), .int i0]) [(0, .iload_n 1, 1, .null), (1, .iconst 0, 1, .int (0 : Int32)), (2, .iconst 5, 1, .int (5 : Int32))] (by decide +kernel) rfl ?_
  obtain ⟨r1, e2, hm⟩ := bn_x hm
  refine aw_cs (rest := []) (st1 := []) (kX7_requireWithin e2) rfl rfl ckX7_requireWithin lkX7_196 nkX7_requireWithin rfl rfl rfl (Nat.le_of_ble_eq_true rfl) (Nat.zero_le _) (Nat.zero_le _) (by decide +kernel) (fun H3 z4 => ?_)
  have h0 := h0.kept0 z4
  have hs := hs.step0 z4
  refine aw_b (pc' := 7) (lv' := [(0, .ref a), (1, .int i0)]) (st' := [.ref a]) [(6, .aload_n 0, 1, .null)] (by decide +kernel) rfl ?_
  refine aw_gl (v := .ref (a + 8)) a 0 h0 eo_M_0 fgX7_30 rfl (by decide +kernel) ?_
  refine aw_gl (v := .ref (a + 9)) a 8 h0 eo_M_8 fgX7_80 rfl (by decide +kernel) ?_
  refine aw_b (pc' := 15) (lv' := [(2, .ref (a + 9)), (0, .ref a), (1, .int i0)]) (st' := [.ref (a + 9)]) [(13, .astore_n 2, 1, .null), (14, .aload_n 2, 1, .null)] (by decide +kernel) rfl ?_
  refine aw_gl (v := .ref (a + 10)) a 9 h0 eo_M_9 fgX7_83 rfl (by decide +kernel) ?_
  obtain ⟨r5, e6, hm⟩ := bn_x hm
  refine aw_cv (rest := []) (st1 := [.int r5]) a 10 (kX5_hasRival e6 (h0.sub su_M_10_S)) rfl rfl ckX5_hasRival lkX7_299 h0 eo_M_10 ⟨_, _, rfl⟩ nkX5_hasRival rfl rfl rfl (Nat.le_of_ble_eq_true rfl) (Nat.zero_le _) (Nat.zero_le _) (by decide +kernel) (fun H7 z8 => ?_)
  have h0 := h0.kept0 z8
  have hs := hs.step0 z8
  refine aw_if_ne (off := 7) 28 (by decide) (by decide +kernel) (fun hc => ?_) (fun hc => ?_)
  · have hm := (if_neg hc).symm.trans hm
    refine aw_b (pc' := 29) (lv' := [(2, .ref (a + 9)), (0, .ref a), (1, .int i0)]) (st' := [.int i0]) [(28, .iload_n 1, 1, .null)] (by decide +kernel) rfl ?_
    refine aw_ts [((0 : Int32), 64), ((1 : Int32), 72), ((2 : Int32), 80), ((3 : Int32), 88), ((4 : Int32), 109)] 120 (by decide +kernel) ?_
    refine aw_tg (fun hc => ?_) (fun hc => ?_)
    · have hm := (if_pos hc).symm.trans hm
      refine aw_b (pc' := 65) (lv' := [(2, .ref (a + 9)), (0, .ref a), (1, .int i0)]) (st' := [.ref (a + 9)]) [(64, .aload_n 2, 1, .null)] (by decide +kernel) rfl ?_
      refine aw_gl (v := .ref (a + 10)) a 9 h0 eo_M_9 fgX7_83 rfl (by decide +kernel) ?_
      refine aw_gl (v := .int (s 10 14)) a 10 h0 eo_M_10 fgX7_303 rfl (by decide +kernel) ?_
      obtain rfl := Option.some.inj hm
      subst hQ
      exact aw_iret rfl (Nat.zero_le _) (Nat.zero_le _) (by decide +kernel) ⟨rfl, hs⟩
    · have hm := (if_neg hc).symm.trans hm
      refine aw_tg (fun hc => ?_) (fun hc => ?_)
      · have hm := (if_pos hc).symm.trans hm
        refine aw_b (pc' := 73) (lv' := [(2, .ref (a + 9)), (0, .ref a), (1, .int i0)]) (st' := [.ref (a + 9)]) [(72, .aload_n 2, 1, .null)] (by decide +kernel) rfl ?_
        refine aw_gl (v := .ref (a + 17)) a 9 h0 eo_M_9 fgX7_306 rfl (by decide +kernel) ?_
        refine aw_gl (v := .int (s 17 0)) a 17 h0 eo_M_17 fgX7_221 rfl (by decide +kernel) ?_
        obtain rfl := Option.some.inj hm
        subst hQ
        exact aw_iret rfl (Nat.zero_le _) (Nat.zero_le _) (by decide +kernel) ⟨rfl, hs⟩
      · have hm := (if_neg hc).symm.trans hm
        refine aw_tg (fun hc => ?_) (fun hc => ?_)
        · have hm := (if_pos hc).symm.trans hm
          refine aw_b (pc' := 81) (lv' := [(2, .ref (a + 9)), (0, .ref a), (1, .int i0)]) (st' := [.ref (a + 9)]) [(80, .aload_n 2, 1, .null)] (by decide +kernel) rfl ?_
          refine aw_gl (v := .ref (a + 17)) a 9 h0 eo_M_9 fgX7_306 rfl (by decide +kernel) ?_
          refine aw_gl (v := .int (s 17 5)) a 17 h0 eo_M_17 fgX7_166 rfl (by decide +kernel) ?_
          obtain rfl := Option.some.inj hm
          subst hQ
          exact aw_iret rfl (Nat.zero_le _) (Nat.zero_le _) (by decide +kernel) ⟨rfl, hs⟩
        · have hm := (if_neg hc).symm.trans hm
          refine aw_tg (fun hc => ?_) (fun hc => ?_)
          · have hm := (if_pos hc).symm.trans hm
            refine aw_b (pc' := 89) (lv' := [(2, .ref (a + 9)), (0, .ref a), (1, .int i0)]) (st' := [.ref (a + 9)]) [(88, .aload_n 2, 1, .null)] (by decide +kernel) rfl ?_
            refine aw_gl (v := .ref (a + 17)) a 9 h0 eo_M_9 fgX7_306 rfl (by decide +kernel) ?_
            refine aw_gl (v := .int (s 17 5)) a 17 h0 eo_M_17 fgX7_166 rfl (by decide +kernel) ?_
            refine aw_b (pc' := 96) (lv' := [(2, .ref (a + 9)), (0, .ref a), (1, .int i0)]) (st' := [.ref (a + 9), .int (s 17 5)]) [(95, .aload_n 2, 1, .null)] (by decide +kernel) rfl ?_
            refine aw_gl (v := .ref (a + 20)) a 9 h0 eo_M_9 fgX7_162 rfl (by decide +kernel) ?_
            refine aw_b (pc' := 100) (lv' := [(2, .ref (a + 9)), (0, .ref a), (1, .int i0)]) (st' := [.ref (a + 9), .ref (a + 20), .int (s 17 5)]) [(99, .aload_n 2, 1, .null)] (by decide +kernel) rfl ?_
            obtain ⟨r9, e10, hm⟩ := bn_x hm
            refine aw_cv (rest := [.ref (a + 20), .int (s 17 5)]) (st1 := [.int r9, .ref (a + 20), .int (s 17 5)]) a 9 (kX1_cheapestRule e10 (h0.sub su_M_9_D)) rfl rfl ckX1_cheapestRule lkX7_289 h0 eo_M_9 ⟨_, _, rfl⟩ nkX1_cheapestRule rfl rfl rfl (Nat.le_of_ble_eq_true rfl) (Nat.zero_le _) (Nat.zero_le _) (by decide +kernel) (fun H11 z12 => ?_)
            have h0 := h0.kept0 z12
            have hs := hs.step0 z12
            obtain ⟨g13, hm⟩ := gd_x hm
            refine aw_rall a 20 h0 ra_M_20 g13 (by decide +kernel) ?_
            refine aw_gl (v := .int (s (3 * ix_ r9 + 24) 5)) a (3 * ix_ r9 + 24) h0 (eow_M_24 _ (ib_lt g13)) fgX7_166 rfl (by decide +kernel) ?_
            refine aw_b (pc' := 108) (lv' := [(2, .ref (a + 9)), (0, .ref a), (1, .int i0)]) (st' := [.int ((s 17 5) - (s (3 * ix_ r9 + 24) 5))]) [(107, .isub, 1, .null)] (by decide +kernel) rfl ?_
            obtain rfl := Option.some.inj hm
            subst hQ
            exact aw_iret rfl (Nat.zero_le _) (Nat.zero_le _) (by decide +kernel) ⟨rfl, hs⟩
          · have hm := (if_neg hc).symm.trans hm
            refine aw_tg (fun hc => ?_) (fun hc => ?_)
            · have hm := (if_pos hc).symm.trans hm
              refine aw_b (pc' := 110) (lv' := [(2, .ref (a + 9)), (0, .ref a), (1, .int i0)]) (st' := [.ref a]) [(109, .aload_n 0, 1, .null)] (by decide +kernel) rfl ?_
              refine aw_gl (v := .ref (a + 8)) a 0 h0 eo_M_0 fgX7_30 rfl (by decide +kernel) ?_
              refine aw_gl (v := .ref (a + 42)) a 8 h0 eo_M_8 fgX7_153 rfl (by decide +kernel) ?_
              refine aw_gl (v := .int (s 42 13)) a 42 h0 eo_M_42 fgX7_309 rfl (by decide +kernel) ?_
              obtain rfl := Option.some.inj hm
              subst hQ
              exact aw_iret rfl (Nat.zero_le _) (Nat.zero_le _) (by decide +kernel) ⟨rfl, hs⟩
            · have hm := (if_neg hc).symm.trans hm
              show aw E _ Q 120 _ _ _ _ _
              refine aw_b (pc' := 121) (lv' := [(2, .ref (a + 9)), (0, .ref a), (1, .int i0)]) (st' := [.ref (a + 9)]) [(120, .aload_n 2, 1, .null)] (by decide +kernel) rfl ?_
              refine aw_gl (v := .int (s 9 13)) a 9 h0 eo_M_9 fgX7_312 rfl (by decide +kernel) ?_
              obtain rfl := Option.some.inj hm
              subst hQ
              exact aw_iret rfl (Nat.zero_le _) (Nat.zero_le _) (by decide +kernel) ⟨rfl, hs⟩
  · have hm := (if_pos hc).symm.trans hm
    refine aw_ldcw (v := (-2000000000 : Int32)) kwX7_302 (by decide +kernel) ?_
    obtain rfl := Option.some.inj hm
    subst hQ
    exact aw_iret rfl (Nat.zero_le _) (Nat.zero_le _) (by decide +kernel) ⟨rfl, hs⟩
def mX7_cost : mt_ := (yX7_cost, cX7_cost, 3, some .int, [], { frames := 2, locals := 42, cells := 0, slots := 0 })
theorem ckX7_cost : cokV_ mX7_cost := ⟨⟨(uw_mem 1217 (by decide +kernel) (by decide +kernel)), (uw_mem 29 (by decide +kernel) (by decide +kernel)), by decide +kernel, by decide +kernel⟩, (uw_mem 1215 (by decide +kernel) (by decide +kernel)), (uw_mem 1216 (by decide +kernel) (by decide +kernel))⟩
theorem nkX7_cost : nok_ mX7_cost 2 := by decide +kernel
theorem lkX7_315 : Cond.methodLink RX7 315 yX4_hasRounds ∈ uw_ := (uw_mem 1223 (by decide +kernel) (by decide +kernel))
theorem lkX7_319 : Cond.methodLink RX7 319 yX4_paidIn ∈ uw_ := (uw_mem 1227 (by decide +kernel) (by decide +kernel))
def gX7_cost (s : st_) (i0 : Int32) (i1 : Int32) : Option (Int32) :=
  bn_ (gX7_requireArm s i0) fun r1 =>
  bn_ (fX4_hasRounds (sb_ s 42) i1 (1 : Int32)) fun r5 =>
  if r5 = (0 : Int32) then (some (-2000000000 : Int32))
  else (bn_ (fX4_paidIn (sb_ s 42) i0 i1 (i1 + (1 : Int32))) fun r9 =>
  some r9)
theorem kX7_cost {E : ev_} {H : Heap} {a : Nat} {s : st_} {i0 : Int32} {i1 : Int32} {r : Int32} (hm : gX7_cost s i0 i1 = some r) (h0 : has_ E H a ly_M s) : sp_ E mX7_cost [.ref a, .int i0, .int i1] H (po1 (.inl (some (.int r))) (fun Hn => sm_ H Hn 0 0)) := by
  refine sp_of (by decide +kernel) rfl rfl ?_
  generalize hQ : po1 _ _ = Q
  have hs : sm_ H H 0 0 := sm_.rfl'
  unfold gX7_cost at hm
  refine aw_lv (lv' := [(0, .ref a), (1, .int i0), (2, .int i1)]) [0, 1, 2] rfl ?_
  refine aw_b (pc' := 2) (lv' := [(0, .ref a), (1, .int i0), (2, .int i1)]) (st' := [.int i0, .ref a]) [(0, .aload_n 0, 1, .null), (1, .iload_n 1, 1, .null)] (by decide +kernel) rfl ?_
  obtain ⟨r1, e2, hm⟩ := bn_x hm
  refine aw_cv (rest := []) (st1 := []) a 0 (kX7_requireArm e2 h0) rfl rfl ckX7_requireArm lkX7_214 h0 eo_M_0 ⟨_, _, rfl⟩ nkX7_requireArm rfl rfl rfl (Nat.le_of_ble_eq_true rfl) (Nat.zero_le _) (Nat.zero_le _) (by decide +kernel) (fun H3 z4 => ?_)
  have h0 := h0.kept0 z4
  have hs := hs.step0 z4
  refine aw_b (pc' := 6) (lv' := [(0, .ref a), (1, .int i0), (2, .int i1)]) (st' := [.ref a]) [(5, .aload_n 0, 1, .null)] (by decide +kernel) rfl ?_
  refine aw_gl (v := .ref (a + 8)) a 0 h0 eo_M_0 fgX7_30 rfl (by decide +kernel) ?_
  refine aw_gl (v := .ref (a + 42)) a 8 h0 eo_M_8 fgX7_153 rfl (by decide +kernel) ?_
  refine aw_b (pc' := 14) (lv' := [(0, .ref a), (1, .int i0), (2, .int i1)]) (st' := [.int (1 : Int32), .int i1, .ref (a + 42)]) [(12, .iload_n 2, 1, .null), (13, .iconst 1, 1, .int (1 : Int32))] (by decide +kernel) rfl ?_
  obtain ⟨r5, e6, hm⟩ := bn_x hm
  refine aw_cv (rest := []) (st1 := [.int r5]) a 42 (kX4_hasRounds e6 (h0.sub su_M_42_R)) rfl rfl ckX4_hasRounds lkX7_315 h0 eo_M_42 ⟨_, _, rfl⟩ nkX4_hasRounds rfl rfl rfl (Nat.le_of_ble_eq_true rfl) (Nat.zero_le _) (Nat.zero_le _) (by decide +kernel) (fun H7 z8 => ?_)
  have h0 := h0.kept0 z8
  have hs := hs.step0 z8
  refine aw_if_eq (off := 21) 38 (by decide) (by decide +kernel) (fun hc => ?_) (fun hc => ?_)
  · have hm := (if_pos hc).symm.trans hm
    refine aw_ldcw (v := (-2000000000 : Int32)) kwX7_302 (by decide +kernel) ?_
    obtain rfl := Option.some.inj hm
    subst hQ
    exact aw_iret rfl (Nat.zero_le _) (Nat.zero_le _) (by decide +kernel) ⟨rfl, hs⟩
  · have hm := (if_neg hc).symm.trans hm
    refine aw_b (pc' := 21) (lv' := [(0, .ref a), (1, .int i0), (2, .int i1)]) (st' := [.ref a]) [(20, .aload_n 0, 1, .null)] (by decide +kernel) rfl ?_
    refine aw_gl (v := .ref (a + 8)) a 0 h0 eo_M_0 fgX7_30 rfl (by decide +kernel) ?_
    refine aw_gl (v := .ref (a + 42)) a 8 h0 eo_M_8 fgX7_153 rfl (by decide +kernel) ?_
    refine aw_b (pc' := 32) (lv' := [(0, .ref a), (1, .int i0), (2, .int i1)]) (st' := [.int (i1 + (1 : Int32)), .int i1, .int i0, .ref (a + 42)]) [(27, .iload_n 1, 1, .null), (28, .iload_n 2, 1, .null), (29, .iload_n 2, 1, .null), (30, .iconst 1, 1, .int (1 : Int32)), (31, .iadd, 1, .null)] (by decide +kernel) rfl ?_
    obtain ⟨r9, e10, hm⟩ := bn_x hm
    refine aw_cv (rest := []) (st1 := [.int r9]) a 42 (kX4_paidIn e10 (h0.sub su_M_42_R)) rfl rfl ckX4_paidIn lkX7_319 h0 eo_M_42 ⟨_, _, rfl⟩ nkX4_paidIn rfl rfl rfl (Nat.le_of_ble_eq_true rfl) (Nat.zero_le _) (Nat.zero_le _) (by decide +kernel) (fun H11 z12 => ?_)
    have h0 := h0.kept0 z12
    have hs := hs.step0 z12
    refine aw_b (pc' := 41) (lv' := [(0, .ref a), (1, .int i0), (2, .int i1)]) (st' := [.int r9]) [(35, .goto 6, 3, .null)] (by decide +kernel) rfl ?_
    obtain rfl := Option.some.inj hm
    subst hQ
    exact aw_iret rfl (Nat.zero_le _) (Nat.zero_le _) (by decide +kernel) ⟨rfl, hs⟩
def mX7_taken : mt_ := (yX7_taken, cX7_taken, 2, some .int, [], { frames := 1, locals := 22, cells := 0, slots := 0 })
theorem ckX7_taken : cokV_ mX7_taken := ⟨⟨(uw_mem 1306 (by decide +kernel) (by decide +kernel)), (uw_mem 29 (by decide +kernel) (by decide +kernel)), by decide +kernel, by decide +kernel⟩, (uw_mem 1304 (by decide +kernel) (by decide +kernel)), (uw_mem 1305 (by decide +kernel) (by decide +kernel))⟩
theorem nkX7_taken : nok_ mX7_taken 1 := by decide +kernel
theorem fgX7_323 : fok_ RX7 323 4 3 := ⟨_, _, _, rfl, by decide, (uw_mem 349 (by decide +kernel) (by decide +kernel)), wkX4⟩
def gX7_taken (s : st_) (i0 : Int32) : Option (Int32) :=
  bn_ (fX4_hasRounds (sb_ s 42) i0 (1 : Int32)) fun r1 =>
  if r1 = (0 : Int32) then (some (-1 : Int32))
  else (gd_ (ib_ i0 1000) <|
  some (s 51 (ix_ i0)))
theorem kX7_taken {E : ev_} {H : Heap} {a : Nat} {s : st_} {i0 : Int32} {r : Int32} (hm : gX7_taken s i0 = some r) (h0 : has_ E H a ly_M s) : sp_ E mX7_taken [.ref a, .int i0] H (po1 (.inl (some (.int r))) (fun Hn => sm_ H Hn 0 0)) := by
  refine sp_of (by decide +kernel) rfl rfl ?_
  generalize hQ : po1 _ _ = Q
  have hs : sm_ H H 0 0 := sm_.rfl'
  unfold gX7_taken at hm
  refine aw_lv (lv' := [(0, .ref a), (1, .int i0)]) [0, 1] rfl ?_
  refine aw_b (pc' := 1) (lv' := [(0, .ref a), (1, .int i0)]) (st' := [.ref a]) [(0, .aload_n 0, 1, .null)] (by decide +kernel) rfl ?_
  refine aw_gl (v := .ref (a + 8)) a 0 h0 eo_M_0 fgX7_30 rfl (by decide +kernel) ?_
  refine aw_gl (v := .ref (a + 42)) a 8 h0 eo_M_8 fgX7_153 rfl (by decide +kernel) ?_
  refine aw_b (pc' := 9) (lv' := [(0, .ref a), (1, .int i0)]) (st' := [.int (1 : Int32), .int i0, .ref (a + 42)]) [(7, .iload_n 1, 1, .null), (8, .iconst 1, 1, .int (1 : Int32))] (by decide +kernel) rfl ?_
  obtain ⟨r1, e2, hm⟩ := bn_x hm
  refine aw_cv (rest := []) (st1 := [.int r1]) a 42 (kX4_hasRounds e2 (h0.sub su_M_42_R)) rfl rfl ckX4_hasRounds lkX7_315 h0 eo_M_42 ⟨_, _, rfl⟩ nkX4_hasRounds rfl rfl rfl (Nat.le_of_ble_eq_true rfl) (Nat.zero_le _) (Nat.zero_le _) (by decide +kernel) (fun H3 z4 => ?_)
  have h0 := h0.kept0 z4
  have hs := hs.step0 z4
  refine aw_if_eq (off := 18) 30 (by decide) (by decide +kernel) (fun hc => ?_) (fun hc => ?_)
  · have hm := (if_pos hc).symm.trans hm
    refine aw_b (pc' := 31) (lv' := [(0, .ref a), (1, .int i0)]) (st' := [.int (-1 : Int32)]) [(30, .iconst (-1), 1, .int (-1 : Int32))] (by decide +kernel) rfl ?_
    obtain rfl := Option.some.inj hm
    subst hQ
    exact aw_iret rfl (Nat.zero_le _) (Nat.zero_le _) (by decide +kernel) ⟨rfl, hs⟩
  · have hm := (if_neg hc).symm.trans hm
    refine aw_b (pc' := 16) (lv' := [(0, .ref a), (1, .int i0)]) (st' := [.ref a]) [(15, .aload_n 0, 1, .null)] (by decide +kernel) rfl ?_
    refine aw_gl (v := .ref (a + 8)) a 0 h0 eo_M_0 fgX7_30 rfl (by decide +kernel) ?_
    refine aw_gl (v := .ref (a + 42)) a 8 h0 eo_M_8 fgX7_153 rfl (by decide +kernel) ?_
    refine aw_gl (v := .ref (a + 51)) a 42 h0 eo_M_42 fgX7_323 rfl (by decide +kernel) ?_
    refine aw_b (pc' := 26) (lv' := [(0, .ref a), (1, .int i0)]) (st' := [.int i0, .ref (a + 51)]) [(25, .iload_n 1, 1, .null)] (by decide +kernel) rfl ?_
    obtain ⟨g5, hm⟩ := gd_x hm
    refine aw_ial a 51 h0 rfl g5 (by decide +kernel) ?_
    refine aw_b (pc' := 31) (lv' := [(0, .ref a), (1, .int i0)]) (st' := [.int (s 51 (ix_ i0))]) [(27, .goto 4, 3, .null)] (by decide +kernel) rfl ?_
    obtain rfl := Option.some.inj hm
    subst hQ
    exact aw_iret rfl (Nat.zero_le _) (Nat.zero_le _) (by decide +kernel) ⟨rfl, hs⟩
def mX7_bestPair : mt_ := (yX7_bestPair, cX7_bestPair, 4, some .int, [], { frames := 4, locals := 93, cells := 0, slots := 0 })
theorem ckX7_bestPair : cokV_ mX7_bestPair := ⟨⟨(uw_mem 1344 (by decide +kernel) (by decide +kernel)), (uw_mem 29 (by decide +kernel) (by decide +kernel)), by decide +kernel, by decide +kernel⟩, (uw_mem 1342 (by decide +kernel) (by decide +kernel)), (uw_mem 1343 (by decide +kernel) (by decide +kernel))⟩
theorem nkX7_bestPair : nok_ mX7_bestPair 1 := by decide +kernel
theorem lkX7_326 : Cond.methodLink RX7 326 yX4_bestSplit ∈ uw_ := (uw_mem 1345 (by decide +kernel) (by decide +kernel))
theorem lkX7_329 : Cond.methodLink RX7 329 yX4_splitCost ∈ uw_ := (uw_mem 1353 (by decide +kernel) (by decide +kernel))
theorem lkX7_332 : Cond.methodLink RX7 332 yX4_cheapestIn ∈ uw_ := (uw_mem 1332 (by decide +kernel) (by decide +kernel))
theorem fgX7_335 : fok_ RX7 335 4 1 := ⟨_, _, _, rfl, by decide, (uw_mem 346 (by decide +kernel) (by decide +kernel)), wkX4⟩
def gX7_bestPair (s : st_) (i0 : Int32) : Option (Int32) :=
  bn_ (gX7_requireWithin i0 (0 : Int32) (3 : Int32)) fun r1 =>
  bn_ (fX4_bestSplit (sb_ s 42)) fun r5 =>
  if i0 = (0 : Int32) then (bn_ (fX4_splitCost (sb_ s 42) r5) fun r9 =>
  some r9)
  else (if i0 = (1 : Int32) then (bn_ (fX4_cheapestIn (sb_ s 42) (0 : Int32) r5) fun r13 =>
  some r13)
  else (if i0 = (2 : Int32) then (bn_ (fX4_cheapestIn (sb_ s 42) r5 (s 42 1)) fun r17 =>
  some r17)
  else (some r5)))
theorem kX7_bestPair {E : ev_} {H : Heap} {a : Nat} {s : st_} {i0 : Int32} {r : Int32} (hm : gX7_bestPair s i0 = some r) (h0 : has_ E H a ly_M s) : sp_ E mX7_bestPair [.ref a, .int i0] H (po1 (.inl (some (.int r))) (fun Hn => sm_ H Hn 0 0)) := by
  refine sp_of (by decide +kernel) rfl rfl ?_
  generalize hQ : po1 _ _ = Q
  have hs : sm_ H H 0 0 := sm_.rfl'
  unfold gX7_bestPair at hm
  refine aw_lv (lv' := [(0, .ref a), (1, .int i0)]) [0, 1] rfl ?_
  refine aw_b (pc' := 3) (lv' := [(0, .ref a), (1, .int i0)]) (st' := [.int (3 : Int32), .int (0 : Int32), .int i0]) [(0, .iload_n 1, 1, .null), (1, .iconst 0, 1, .int (0 : Int32)), (2, .iconst 3, 1, .int (3 : Int32))] (by decide +kernel) rfl ?_
  obtain ⟨r1, e2, hm⟩ := bn_x hm
  refine aw_cs (rest := []) (st1 := []) (kX7_requireWithin e2) rfl rfl ckX7_requireWithin lkX7_196 nkX7_requireWithin rfl rfl rfl (Nat.le_of_ble_eq_true rfl) (Nat.zero_le _) (Nat.zero_le _) (by decide +kernel) (fun H3 z4 => ?_)
  have h0 := h0.kept0 z4
  have hs := hs.step0 z4
  refine aw_b (pc' := 7) (lv' := [(0, .ref a), (1, .int i0)]) (st' := [.ref a]) [(6, .aload_n 0, 1, .null)] (by decide +kernel) rfl ?_
  refine aw_gl (v := .ref (a + 8)) a 0 h0 eo_M_0 fgX7_30 rfl (by decide +kernel) ?_
  refine aw_gl (v := .ref (a + 42)) a 8 h0 eo_M_8 fgX7_153 rfl (by decide +kernel) ?_
  refine aw_b (pc' := 15) (lv' := [(2, .ref (a + 42)), (0, .ref a), (1, .int i0)]) (st' := [.ref (a + 42)]) [(13, .astore_n 2, 1, .null), (14, .aload_n 2, 1, .null)] (by decide +kernel) rfl ?_
  obtain ⟨r5, e6, hm⟩ := bn_x hm
  refine aw_cv (rest := []) (st1 := [.int r5]) a 42 (kX4_bestSplit e6 (h0.sub su_M_42_R)) rfl rfl ckX4_bestSplit lkX7_326 h0 eo_M_42 ⟨_, _, rfl⟩ nkX4_bestSplit rfl rfl rfl (Nat.le_of_ble_eq_true rfl) (Nat.zero_le _) (Nat.zero_le _) (by decide +kernel) (fun H7 z8 => ?_)
  have h0 := h0.kept0 z8
  have hs := hs.step0 z8
  refine aw_b (pc' := 20) (lv' := [(3, .int r5), (2, .ref (a + 42)), (0, .ref a), (1, .int i0)]) (st' := [.int i0]) [(18, .istore_n 3, 1, .null), (19, .iload_n 1, 1, .null)] (by decide +kernel) rfl ?_
  refine aw_ts [((0 : Int32), 48), ((1 : Int32), 54), ((2 : Int32), 61)] 71 (by decide +kernel) ?_
  refine aw_tg (fun hc => ?_) (fun hc => ?_)
  · have hm := (if_pos hc).symm.trans hm
    refine aw_b (pc' := 50) (lv' := [(3, .int r5), (2, .ref (a + 42)), (0, .ref a), (1, .int i0)]) (st' := [.int r5, .ref (a + 42)]) [(48, .aload_n 2, 1, .null), (49, .iload_n 3, 1, .null)] (by decide +kernel) rfl ?_
    obtain ⟨r9, e10, hm⟩ := bn_x hm
    refine aw_cv (rest := []) (st1 := [.int r9]) a 42 (kX4_splitCost e10 (h0.sub su_M_42_R)) rfl rfl ckX4_splitCost lkX7_329 h0 eo_M_42 ⟨_, _, rfl⟩ nkX4_splitCost rfl rfl rfl (Nat.le_of_ble_eq_true rfl) (Nat.zero_le _) (Nat.zero_le _) (by decide +kernel) (fun H11 z12 => ?_)
    have h0 := h0.kept0 z12
    have hs := hs.step0 z12
    obtain rfl := Option.some.inj hm
    subst hQ
    exact aw_iret rfl (Nat.zero_le _) (Nat.zero_le _) (by decide +kernel) ⟨rfl, hs⟩
  · have hm := (if_neg hc).symm.trans hm
    refine aw_tg (fun hc => ?_) (fun hc => ?_)
    · have hm := (if_pos hc).symm.trans hm
      refine aw_b (pc' := 57) (lv' := [(3, .int r5), (2, .ref (a + 42)), (0, .ref a), (1, .int i0)]) (st' := [.int r5, .int (0 : Int32), .ref (a + 42)]) [(54, .aload_n 2, 1, .null), (55, .iconst 0, 1, .int (0 : Int32)), (56, .iload_n 3, 1, .null)] (by decide +kernel) rfl ?_
      obtain ⟨r13, e14, hm⟩ := bn_x hm
      refine aw_cv (rest := []) (st1 := [.int r13]) a 42 (kX4_cheapestIn e14 (h0.sub su_M_42_R)) rfl rfl ckX4_cheapestIn lkX7_332 h0 eo_M_42 ⟨_, _, rfl⟩ nkX4_cheapestIn rfl rfl rfl (Nat.le_of_ble_eq_true rfl) (Nat.zero_le _) (Nat.zero_le _) (by decide +kernel) (fun H15 z16 => ?_)
      have h0 := h0.kept0 z16
      have hs := hs.step0 z16
      obtain rfl := Option.some.inj hm
      subst hQ
      exact aw_iret rfl (Nat.zero_le _) (Nat.zero_le _) (by decide +kernel) ⟨rfl, hs⟩
    · have hm := (if_neg hc).symm.trans hm
      refine aw_tg (fun hc => ?_) (fun hc => ?_)
      · have hm := (if_pos hc).symm.trans hm
        refine aw_b (pc' := 64) (lv' := [(3, .int r5), (2, .ref (a + 42)), (0, .ref a), (1, .int i0)]) (st' := [.ref (a + 42), .int r5, .ref (a + 42)]) [(61, .aload_n 2, 1, .null), (62, .iload_n 3, 1, .null), (63, .aload_n 2, 1, .null)] (by decide +kernel) rfl ?_
        refine aw_gl (v := .int (s 42 1)) a 42 h0 eo_M_42 fgX7_335 rfl (by decide +kernel) ?_
        obtain ⟨r17, e18, hm⟩ := bn_x hm
        refine aw_cv (rest := []) (st1 := [.int r17]) a 42 (kX4_cheapestIn e18 (h0.sub su_M_42_R)) rfl rfl ckX4_cheapestIn lkX7_332 h0 eo_M_42 ⟨_, _, rfl⟩ nkX4_cheapestIn rfl rfl rfl (Nat.le_of_ble_eq_true rfl) (Nat.zero_le _) (Nat.zero_le _) (by decide +kernel) (fun H19 z20 => ?_)
        have h0 := h0.kept0 z20
        have hs := hs.step0 z20
        obtain rfl := Option.some.inj hm
        subst hQ
        exact aw_iret rfl (Nat.zero_le _) (Nat.zero_le _) (by decide +kernel) ⟨rfl, hs⟩
      · have hm := (if_neg hc).symm.trans hm
        show aw E _ Q 71 _ _ _ _ _
        refine aw_b (pc' := 72) (lv' := [(3, .int r5), (2, .ref (a + 42)), (0, .ref a), (1, .int i0)]) (st' := [.int r5]) [(71, .iload_n 3, 1, .null)] (by decide +kernel) rfl ?_
        obtain rfl := Option.some.inj hm
        subst hQ
        exact aw_iret rfl (Nat.zero_le _) (Nat.zero_le _) (by decide +kernel) ⟨rfl, hs⟩
def mX7_leads : mt_ := (yX7_leads, cX7_leads, 2, some .int, [], { frames := 2, locals := 42, cells := 0, slots := 0 })
theorem ckX7_leads : cokV_ mX7_leads := ⟨⟨(uw_mem 1257 (by decide +kernel) (by decide +kernel)), (uw_mem 29 (by decide +kernel) (by decide +kernel)), by decide +kernel, by decide +kernel⟩, (uw_mem 1255 (by decide +kernel) (by decide +kernel)), (uw_mem 1256 (by decide +kernel) (by decide +kernel))⟩
theorem nkX7_leads : nok_ mX7_leads 1 := by decide +kernel
theorem fgX7_336 : fok_ RX7 336 4 6 := ⟨_, _, _, rfl, by decide, (uw_mem 355 (by decide +kernel) (by decide +kernel)), wkX4⟩
def gX7_leads (s : st_) (i0 : Int32) : Option (Int32) :=
  bn_ (gX7_requireRule s i0) fun r1 =>
  gd_ (ib_ i0 6) <|
  some (s 54 (ix_ i0))
theorem kX7_leads {E : ev_} {H : Heap} {a : Nat} {s : st_} {i0 : Int32} {r : Int32} (hm : gX7_leads s i0 = some r) (h0 : has_ E H a ly_M s) : sp_ E mX7_leads [.ref a, .int i0] H (po1 (.inl (some (.int r))) (fun Hn => sm_ H Hn 0 0)) := by
  refine sp_of (by decide +kernel) rfl rfl ?_
  generalize hQ : po1 _ _ = Q
  have hs : sm_ H H 0 0 := sm_.rfl'
  unfold gX7_leads at hm
  refine aw_lv (lv' := [(0, .ref a), (1, .int i0)]) [0, 1] rfl ?_
  refine aw_b (pc' := 2) (lv' := [(0, .ref a), (1, .int i0)]) (st' := [.int i0, .ref a]) [(0, .aload_n 0, 1, .null), (1, .iload_n 1, 1, .null)] (by decide +kernel) rfl ?_
  obtain ⟨r1, e2, hm⟩ := bn_x hm
  refine aw_cv (rest := []) (st1 := []) a 0 (kX7_requireRule e2 h0) rfl rfl ckX7_requireRule lkX7_138 h0 eo_M_0 ⟨_, _, rfl⟩ nkX7_requireRule rfl rfl rfl (Nat.le_of_ble_eq_true rfl) (Nat.zero_le _) (Nat.zero_le _) (by decide +kernel) (fun H3 z4 => ?_)
  have h0 := h0.kept0 z4
  have hs := hs.step0 z4
  refine aw_b (pc' := 6) (lv' := [(0, .ref a), (1, .int i0)]) (st' := [.ref a]) [(5, .aload_n 0, 1, .null)] (by decide +kernel) rfl ?_
  refine aw_gl (v := .ref (a + 8)) a 0 h0 eo_M_0 fgX7_30 rfl (by decide +kernel) ?_
  refine aw_gl (v := .ref (a + 42)) a 8 h0 eo_M_8 fgX7_153 rfl (by decide +kernel) ?_
  refine aw_gl (v := .ref (a + 54)) a 42 h0 eo_M_42 fgX7_336 rfl (by decide +kernel) ?_
  refine aw_b (pc' := 16) (lv' := [(0, .ref a), (1, .int i0)]) (st' := [.int i0, .ref (a + 54)]) [(15, .iload_n 1, 1, .null)] (by decide +kernel) rfl ?_
  obtain ⟨g5, hm⟩ := gd_x hm
  refine aw_ial a 54 h0 rfl g5 (by decide +kernel) ?_
  obtain rfl := Option.some.inj hm
  subst hQ
  exact aw_iret rfl (Nat.zero_le _) (Nat.zero_le _) (by decide +kernel) ⟨rfl, hs⟩
