/-! mirrors of methods, and that the methods do as they say: printed by wip/whole/gen_parts.py out of the listing -/
def mX7_switches : mt_ := (yX7_switches, cX7_switches, 4, some .int, [], { frames := 0, locals := 0, cells := 0, slots := 0 })
theorem ckX7_switches : cokV_ mX7_switches := ⟨⟨(uw_mem 1340 (by decide +kernel) (by decide +kernel)), (uw_mem 29 (by decide +kernel) (by decide +kernel)), by decide +kernel, by decide +kernel⟩, (uw_mem 1338 (by decide +kernel) (by decide +kernel)), (uw_mem 1339 (by decide +kernel) (by decide +kernel))⟩
theorem nkX7_switches : nok_ mX7_switches 0 := by decide +kernel
def gX7_switches_x12_46 (v2_x12_46 : Int32) : Option (Int32) :=
  some v2_x12_46
def gX7_switches_k12 (x : Int32) : Option (Int32) :=
  gX7_switches_x12_46 x
def gX7_switches_j40 (v3_b12 : Int32) (v2_j40 : Int32) : Option ((Int32 × Int32) ⊕ (Int32)) :=
  some (.inl (v2_j40, (v3_b12 + (1 : Int32))))
def gX7_switches_b12 (s : st_) (v2_b12 : Int32) (v3_b12 : Int32) : Option ((Int32 × Int32) ⊕ (Int32)) :=
  if (s 42 1) ≤ v3_b12 then (some (.inr v2_b12))
  else (gd_ (ib_ v3_b12 1000) <|
  gd_ (ib_ (v3_b12 - (1 : Int32)) 1000) <|
  if (s 51 (ix_ v3_b12)) = (s 51 (ix_ (v3_b12 - (1 : Int32)))) then (gX7_switches_j40 v3_b12 v2_b12)
  else (gX7_switches_j40 v3_b12 (v2_b12 + (1 : Int32))))
def gX7_switches_l12 (s : st_) : Nat → (Int32 × Int32) → Option (Int32) :=
  it_ (fun v => gX7_switches_b12 s v.1 v.2)
def gX7_switches (s : st_) : Option (Int32) :=
  bn_ (gX7_switches_l12 s FU_ ((0 : Int32), (1 : Int32))) (gX7_switches_k12)
theorem kX7_switches {E : ev_} {H : Heap} {a : Nat} {s : st_} {r : Int32} (hm : gX7_switches s = some r) (h0 : has_ E H a ly_M s) : sp_ E mX7_switches [.ref a] H (po1 (.inl (some (.int r))) (fun Hn => sm_ H Hn 0 0)) := by
  refine sp_of (by decide +kernel) rfl rfl ?_
  generalize hQ : po1 _ _ = Q
  have hs : sm_ H H 0 0 := sm_.rfl'
  unfold gX7_switches at hm
  refine aw_lv (lv' := [(0, .ref a)]) [0] rfl ?_
  refine aw_b (pc' := 1) (lv' := [(0, .ref a)]) (st' := [.ref a]) [(0, .aload_n 0, 1, .null)] (by decide +kernel) rfl ?_
  refine aw_gl (v := .ref (a + 8)) a 0 h0 eo_M_0 fgX7_30 rfl (by decide +kernel) ?_
  refine aw_gl (v := .ref (a + 42)) a 8 h0 eo_M_8 fgX7_153 rfl (by decide +kernel) ?_
  refine aw_b (pc' := 12) (lv' := [(3, .int (1 : Int32)), (2, .int (0 : Int32)), (1, .ref (a + 42)), (0, .ref a)]) (st' := []) [(7, .astore_n 1, 1, .null), (8, .iconst 0, 1, .int (0 : Int32)), (9, .istore_n 2, 1, .null), (10, .iconst 1, 1, .int (1 : Int32)), (11, .istore_n 3, 1, .null)] (by decide +kernel) rfl ?_
  obtain ⟨x12, hx12, hr12⟩ := bn_x hm
  have X12_46 : ∀ (v2_x12_46 : Int32) (H_x12_46 : Heap), has_ E H_x12_46 a ly_M s → sm_ H H_x12_46 0 0 → gX7_switches_x12_46 v2_x12_46 = some r → aw E mX7_switches Q 46 [(2, .int v2_x12_46)] [] H_x12_46 0 0 := by
    intro v2_x12_46 H_x12_46 h0 hs hm
    unfold gX7_switches_x12_46 at hm
    refine aw_b (pc' := 47) (lv' := [(2, .int v2_x12_46)]) (st' := [.int v2_x12_46]) [(46, .iload_n 2, 1, .null)] (by decide +kernel) rfl ?_
    obtain rfl := Option.some.inj hm
    subst hQ
    exact aw_iret rfl (Nat.zero_le _) (Nat.zero_le _) (by decide +kernel) ⟨rfl, hs⟩
  have L12 : ∀ (fu : Nat) (v2_b12 : Int32) (v3_b12 : Int32) (H_b12 : Heap), has_ E H_b12 a ly_M s → sm_ H H_b12 0 0 → gX7_switches_l12 s fu (v2_b12, v3_b12) = some x12 → aw E mX7_switches Q 12 [(1, .ref (a + 42)), (2, .int v2_b12), (3, .int v3_b12)] [] H_b12 0 0 := by
    intro fu
    induction fu with
    | zero =>
      intro v2_b12 v3_b12 H_b12 h0 hs hm
      exact (it_0 hm).elim
    | succ fu ih12 =>
      intro v2_b12 v3_b12 H_b12 h0 hs hm
      obtain ⟨y12, hm, hk12⟩ := it_s hm
      have hm : gX7_switches_b12 s v2_b12 v3_b12 = some y12 := hm
      unfold gX7_switches_b12 at hm
      refine aw_b (pc' := 14) (lv' := [(1, .ref (a + 42)), (2, .int v2_b12), (3, .int v3_b12)]) (st' := [.ref (a + 42), .int v3_b12]) [(12, .iload_n 3, 1, .null), (13, .aload_n 1, 1, .null)] (by decide +kernel) rfl ?_
      refine aw_gl (v := .int (s 42 1)) a 42 h0 eo_M_42 fgX7_335 rfl (by decide +kernel) ?_
      refine aw_ic_ge (off := 29) 46 (by decide) (by decide +kernel) (fun hc => ?_) (fun hc => ?_)
      · have hm := (if_pos hc).symm.trans hm
        cases hm
        refine aw_lv (lv' := [(2, .int v2_b12)]) [1] rfl ?_
        exact X12_46 v2_b12 H_b12 h0 hs ((congrArg gX7_switches_k12 (show (v2_b12) = x12 from hk12)).trans hr12)
      · have hm := (if_neg hc).symm.trans hm
        refine aw_b (pc' := 21) (lv' := [(1, .ref (a + 42)), (2, .int v2_b12), (3, .int v3_b12)]) (st' := [.ref (a + 42)]) [(20, .aload_n 1, 1, .null)] (by decide +kernel) rfl ?_
        refine aw_gl (v := .ref (a + 51)) a 42 h0 eo_M_42 fgX7_323 rfl (by decide +kernel) ?_
        refine aw_b (pc' := 25) (lv' := [(1, .ref (a + 42)), (2, .int v2_b12), (3, .int v3_b12)]) (st' := [.int v3_b12, .ref (a + 51)]) [(24, .iload_n 3, 1, .null)] (by decide +kernel) rfl ?_
        obtain ⟨g1, hm⟩ := gd_x hm
        refine aw_ial a 51 h0 rfl g1 (by decide +kernel) ?_
        refine aw_b (pc' := 27) (lv' := [(1, .ref (a + 42)), (2, .int v2_b12), (3, .int v3_b12)]) (st' := [.ref (a + 42), .int (s 51 (ix_ v3_b12))]) [(26, .aload_n 1, 1, .null)] (by decide +kernel) rfl ?_
        refine aw_gl (v := .ref (a + 51)) a 42 h0 eo_M_42 fgX7_323 rfl (by decide +kernel) ?_
        refine aw_b (pc' := 33) (lv' := [(1, .ref (a + 42)), (2, .int v2_b12), (3, .int v3_b12)]) (st' := [.int (v3_b12 - (1 : Int32)), .ref (a + 51), .int (s 51 (ix_ v3_b12))]) [(30, .iload_n 3, 1, .null), (31, .iconst 1, 1, .int (1 : Int32)), (32, .isub, 1, .null)] (by decide +kernel) rfl ?_
        obtain ⟨g2, hm⟩ := gd_x hm
        refine aw_ial a 51 h0 rfl g2 (by decide +kernel) ?_
        have J40 : ∀ (v2_j40 : Int32) (H_j40 : Heap), has_ E H_j40 a ly_M s → sm_ H H_j40 0 0 → gX7_switches_j40 v3_b12 v2_j40 = some y12 → aw E mX7_switches Q 40 [(1, .ref (a + 42)), (2, .int v2_j40), (3, .int v3_b12)] [] H_j40 0 0 := by
          intro v2_j40 H_j40 h0 hs hm
          unfold gX7_switches_j40 at hm
          refine aw_b (pc' := 12) (lv' := [(3, .int (v3_b12 + (1 : Int32))), (1, .ref (a + 42)), (2, .int v2_j40)]) (st' := []) [(40, .iinc 3 1, 3, .int (1 : Int32)), (43, .goto (-31), 3, .null)] (by decide +kernel) rfl ?_
          cases hm
          refine aw_lv (lv' := [(1, .ref (a + 42)), (2, .int v2_j40), (3, .int (v3_b12 + (1 : Int32)))]) [1, 2, 0] rfl ?_
          exact ih12 v2_j40 (v3_b12 + (1 : Int32)) H_j40 h0 hs hk12
        refine aw_ic_eq (off := 6) 40 (by decide) (by decide +kernel) (fun hc => ?_) (fun hc => ?_)
        · have hm := (if_pos hc).symm.trans hm
          exact J40 v2_b12 H_b12 h0 hs hm
        · have hm := (if_neg hc).symm.trans hm
          refine aw_b (pc' := 40) (lv' := [(2, .int (v2_b12 + (1 : Int32))), (1, .ref (a + 42)), (3, .int v3_b12)]) (st' := []) [(37, .iinc 2 1, 3, .int (1 : Int32))] (by decide +kernel) rfl ?_
          refine aw_lv (lv' := [(1, .ref (a + 42)), (2, .int (v2_b12 + (1 : Int32))), (3, .int v3_b12)]) [1, 0, 2] rfl ?_
          exact J40 (v2_b12 + (1 : Int32)) H_b12 h0 hs hm
  refine aw_lv (lv' := [(1, .ref (a + 42)), (2, .int (0 : Int32)), (3, .int (1 : Int32))]) [2, 1, 0] rfl ?_
  exact L12 FU_ (0 : Int32) (1 : Int32) H h0 hs hx12
def mX7_streak : mt_ := (yX7_streak, cX7_streak, 6, some .int, [], { frames := 2, locals := 42, cells := 0, slots := 0 })
theorem ckX7_streak : cokV_ mX7_streak := ⟨⟨(uw_mem 1265 (by decide +kernel) (by decide +kernel)), (uw_mem 29 (by decide +kernel) (by decide +kernel)), by decide +kernel, by decide +kernel⟩, (uw_mem 1263 (by decide +kernel) (by decide +kernel)), (uw_mem 1264 (by decide +kernel) (by decide +kernel))⟩
theorem nkX7_streak : nok_ mX7_streak 1 := by decide +kernel
theorem mtX7_339 : ml_ RX7 339 Lib.Math.max.name Lib.Math.max.code 2 .int := ⟨(uw_mem 1266 (by decide +kernel) (by decide +kernel)), (uw_mem 768 (by decide +kernel) (by decide +kernel)), (uw_mem 38 (by decide +kernel) (by decide +kernel)), (uw_mem 769 (by decide +kernel) (by decide +kernel))⟩
def gX7_streak_x21_64 (v3_x21_64 : Int32) : Option (Int32) :=
  some v3_x21_64
def gX7_streak_k21 (x : Int32) : Option (Int32) :=
  gX7_streak_x21_64 x
def gX7_streak_j49 (v3_b21 : Int32) (v5_b21 : Int32) (z0_j49 : Int32) : Option ((Int32 × Int32 × Int32) ⊕ (Int32)) :=
  some (.inl ((if v3_b21 < z0_j49 then z0_j49 else v3_b21), z0_j49, (v5_b21 + (1 : Int32))))
def gX7_streak_b21 (s : st_) (i0 : Int32) (v3_b21 : Int32) (v4_b21 : Int32) (v5_b21 : Int32) : Option ((Int32 × Int32 × Int32) ⊕ (Int32)) :=
  if (s 42 1) ≤ v5_b21 then (some (.inr v3_b21))
  else (gd_ (ib_ v5_b21 1000) <|
  if (s 51 (ix_ v5_b21)) = i0 then (gX7_streak_j49 v3_b21 v5_b21 (v4_b21 + (1 : Int32)))
  else (gX7_streak_j49 v3_b21 v5_b21 (0 : Int32)))
def gX7_streak_l21 (s : st_) (i0 : Int32) : Nat → (Int32 × Int32 × Int32) → Option (Int32) :=
  it_ (fun v => gX7_streak_b21 s i0 v.1 v.2.1 v.2.2)
def gX7_streak (s : st_) (i0 : Int32) : Option (Int32) :=
  bn_ (gX7_requireRule s i0) fun r1 =>
  bn_ (gX7_streak_l21 s i0 FU_ ((0 : Int32), (0 : Int32), (0 : Int32))) (gX7_streak_k21)
theorem kX7_streak {E : ev_} {H : Heap} {a : Nat} {s : st_} {i0 : Int32} {r : Int32} (hm : gX7_streak s i0 = some r) (h0 : has_ E H a ly_M s) : sp_ E mX7_streak [.ref a, .int i0] H (po1 (.inl (some (.int r))) (fun Hn => sm_ H Hn 0 0)) := by
  refine sp_of (by decide +kernel) rfl rfl ?_
  generalize hQ : po1 _ _ = Q
  have hs : sm_ H H 0 0 := sm_.rfl'
  unfold gX7_streak at hm
  refine aw_lv (lv' := [(0, .ref a), (1, .int i0)]) [0, 1] rfl ?_
  refine aw_b (pc' := 2) (lv' := [(0, .ref a), (1, .int i0)]) (st' := [.int i0, .ref a]) [(0, .aload_n 0, 1, .null), (1, .iload_n 1, 1, .null)] (by decide +kernel) rfl ?_
  obtain ⟨r1, e2, hm⟩ := bn_x hm
  refine aw_cv (rest := []) (st1 := []) a 0 (kX7_requireRule e2 h0) rfl rfl ckX7_requireRule lkX7_138 h0 eo_M_0 ⟨_, _, rfl⟩ nkX7_requireRule rfl rfl rfl (Nat.le_of_ble_eq_true rfl) (Nat.zero_le _) (Nat.zero_le _) (by decide +kernel) (fun H3 z4 => ?_)
  have h0 := h0.kept0 z4
  have hs := hs.step0 z4
  refine aw_b (pc' := 6) (lv' := [(0, .ref a), (1, .int i0)]) (st' := [.ref a]) [(5, .aload_n 0, 1, .null)] (by decide +kernel) rfl ?_
  refine aw_gl (v := .ref (a + 8)) a 0 h0 eo_M_0 fgX7_30 rfl (by decide +kernel) ?_
  refine aw_gl (v := .ref (a + 42)) a 8 h0 eo_M_8 fgX7_153 rfl (by decide +kernel) ?_
  refine aw_b (pc' := 21) (lv' := [(5, .int (0 : Int32)), (4, .int (0 : Int32)), (3, .int (0 : Int32)), (2, .ref (a + 42)), (0, .ref a), (1, .int i0)]) (st' := []) [(12, .astore_n 2, 1, .null), (13, .iconst 0, 1, .int (0 : Int32)), (14, .istore_n 3, 1, .null), (15, .iconst 0, 1, .int (0 : Int32)), (16, .istore 4, 2, .null), (18, .iconst 0, 1, .int (0 : Int32)), (19, .istore 5, 2, .null)] (by decide +kernel) rfl ?_
  obtain ⟨x21, hx21, hr21⟩ := bn_x hm
  have X21_64 : ∀ (v3_x21_64 : Int32) (H_x21_64 : Heap), has_ E H_x21_64 a ly_M s → sm_ H H_x21_64 0 0 → gX7_streak_x21_64 v3_x21_64 = some r → aw E mX7_streak Q 64 [(3, .int v3_x21_64)] [] H_x21_64 0 0 := by
    intro v3_x21_64 H_x21_64 h0 hs hm
    unfold gX7_streak_x21_64 at hm
    refine aw_b (pc' := 65) (lv' := [(3, .int v3_x21_64)]) (st' := [.int v3_x21_64]) [(64, .iload_n 3, 1, .null)] (by decide +kernel) rfl ?_
    obtain rfl := Option.some.inj hm
    subst hQ
    exact aw_iret rfl (Nat.zero_le _) (Nat.zero_le _) (by decide +kernel) ⟨rfl, hs⟩
  have L21 : ∀ (fu : Nat) (v3_b21 : Int32) (v4_b21 : Int32) (v5_b21 : Int32) (H_b21 : Heap), has_ E H_b21 a ly_M s → sm_ H H_b21 0 0 → gX7_streak_l21 s i0 fu (v3_b21, v4_b21, v5_b21) = some x21 → aw E mX7_streak Q 21 [(1, .int i0), (2, .ref (a + 42)), (3, .int v3_b21), (4, .int v4_b21), (5, .int v5_b21)] [] H_b21 0 0 := by
    intro fu
    induction fu with
    | zero =>
      intro v3_b21 v4_b21 v5_b21 H_b21 h0 hs hm
      exact (it_0 hm).elim
    | succ fu ih21 =>
      intro v3_b21 v4_b21 v5_b21 H_b21 h0 hs hm
      obtain ⟨y21, hm, hk21⟩ := it_s hm
      have hm : gX7_streak_b21 s i0 v3_b21 v4_b21 v5_b21 = some y21 := hm
      unfold gX7_streak_b21 at hm
      refine aw_b (pc' := 24) (lv' := [(1, .int i0), (2, .ref (a + 42)), (3, .int v3_b21), (4, .int v4_b21), (5, .int v5_b21)]) (st' := [.ref (a + 42), .int v5_b21]) [(21, .iload 5, 2, .null), (23, .aload_n 2, 1, .null)] (by decide +kernel) rfl ?_
      refine aw_gl (v := .int (s 42 1)) a 42 h0 eo_M_42 fgX7_335 rfl (by decide +kernel) ?_
      refine aw_ic_ge (off := 37) 64 (by decide) (by decide +kernel) (fun hc => ?_) (fun hc => ?_)
      · have hm := (if_pos hc).symm.trans hm
        cases hm
        refine aw_lv (lv' := [(3, .int v3_b21)]) [2] rfl ?_
        exact X21_64 v3_b21 H_b21 h0 hs ((congrArg gX7_streak_k21 (show (v3_b21) = x21 from hk21)).trans hr21)
      · have hm := (if_neg hc).symm.trans hm
        refine aw_b (pc' := 31) (lv' := [(1, .int i0), (2, .ref (a + 42)), (3, .int v3_b21), (4, .int v4_b21), (5, .int v5_b21)]) (st' := [.ref (a + 42)]) [(30, .aload_n 2, 1, .null)] (by decide +kernel) rfl ?_
        refine aw_gl (v := .ref (a + 51)) a 42 h0 eo_M_42 fgX7_323 rfl (by decide +kernel) ?_
        refine aw_b (pc' := 36) (lv' := [(1, .int i0), (2, .ref (a + 42)), (3, .int v3_b21), (4, .int v4_b21), (5, .int v5_b21)]) (st' := [.int v5_b21, .ref (a + 51)]) [(34, .iload 5, 2, .null)] (by decide +kernel) rfl ?_
        obtain ⟨g5, hm⟩ := gd_x hm
        refine aw_ial a 51 h0 rfl g5 (by decide +kernel) ?_
        refine aw_b (pc' := 38) (lv' := [(1, .int i0), (2, .ref (a + 42)), (3, .int v3_b21), (4, .int v4_b21), (5, .int v5_b21)]) (st' := [.int i0, .int (s 51 (ix_ v5_b21))]) [(37, .iload_n 1, 1, .null)] (by decide +kernel) rfl ?_
        have J49 : ∀ (z0_j49 : Int32) (H_j49 : Heap), has_ E H_j49 a ly_M s → sm_ H H_j49 0 0 → gX7_streak_j49 v3_b21 v5_b21 z0_j49 = some y21 → aw E mX7_streak Q 49 [(1, .int i0), (2, .ref (a + 42)), (3, .int v3_b21), (5, .int v5_b21)] [.int z0_j49] H_j49 0 0 := by
          intro z0_j49 H_j49 h0 hs hm
          unfold gX7_streak_j49 at hm
          refine aw_b (pc' := 54) (lv' := [(4, .int z0_j49), (1, .int i0), (2, .ref (a + 42)), (3, .int v3_b21), (5, .int v5_b21)]) (st' := [.int z0_j49, .int v3_b21]) [(49, .istore 4, 2, .null), (51, .iload_n 3, 1, .null), (52, .iload 4, 2, .null)] (by decide +kernel) rfl ?_
          refine aw_mx (rest := []) mtX7_339 rfl (Nat.le_of_ble_eq_true rfl) (Nat.zero_le _) (Nat.zero_le _) (by decide +kernel) ?_
          refine aw_b (pc' := 21) (lv' := [(5, .int (v5_b21 + (1 : Int32))), (3, .int (if v3_b21 < z0_j49 then z0_j49 else v3_b21)), (4, .int z0_j49), (1, .int i0), (2, .ref (a + 42))]) (st' := []) [(57, .istore_n 3, 1, .null), (58, .iinc 5 1, 3, .int (1 : Int32)), (61, .goto (-40), 3, .null)] (by decide +kernel) rfl ?_
          cases hm
          refine aw_lv (lv' := [(1, .int i0), (2, .ref (a + 42)), (3, .int (if v3_b21 < z0_j49 then z0_j49 else v3_b21)), (4, .int z0_j49), (5, .int (v5_b21 + (1 : Int32)))]) [3, 4, 1, 2, 0] rfl ?_
          exact ih21 (if v3_b21 < z0_j49 then z0_j49 else v3_b21) z0_j49 (v5_b21 + (1 : Int32)) H_j49 h0 hs hk21
        refine aw_ic_ne (off := 10) 48 (by decide) (by decide +kernel) (fun hc => ?_) (fun hc => ?_)
        · have hm := (if_neg hc).symm.trans hm
          refine aw_b (pc' := 49) (lv' := [(1, .int i0), (2, .ref (a + 42)), (3, .int v3_b21), (4, .int v4_b21), (5, .int v5_b21)]) (st' := [.int (0 : Int32)]) [(48, .iconst 0, 1, .int (0 : Int32))] (by decide +kernel) rfl ?_
          refine aw_lv (lv' := [(1, .int i0), (2, .ref (a + 42)), (3, .int v3_b21), (5, .int v5_b21)]) [0, 1, 2, 4] rfl ?_
          exact J49 (0 : Int32) H_b21 h0 hs hm
        · have hm := (if_pos hc).symm.trans hm
          refine aw_b (pc' := 49) (lv' := [(1, .int i0), (2, .ref (a + 42)), (3, .int v3_b21), (4, .int v4_b21), (5, .int v5_b21)]) (st' := [.int (v4_b21 + (1 : Int32))]) [(41, .iload 4, 2, .null), (43, .iconst 1, 1, .int (1 : Int32)), (44, .iadd, 1, .null), (45, .goto 4, 3, .null)] (by decide +kernel) rfl ?_
          refine aw_lv (lv' := [(1, .int i0), (2, .ref (a + 42)), (3, .int v3_b21), (5, .int v5_b21)]) [0, 1, 2, 4] rfl ?_
          exact J49 (v4_b21 + (1 : Int32)) H_b21 h0 hs hm
  refine aw_lv (lv' := [(1, .int i0), (2, .ref (a + 42)), (3, .int (0 : Int32)), (4, .int (0 : Int32)), (5, .int (0 : Int32))]) [5, 3, 2, 1, 0] rfl ?_
  exact L21 FU_ (0 : Int32) (0 : Int32) (0 : Int32) H3 h0 hs hx21
def mX7_requireWindow : mt_ := (yX7_requireWindow, cX7_requireWindow, 3, none, [], { frames := 1, locals := 22, cells := 0, slots := 0 })
theorem ckX7_requireWindow : cokV_ mX7_requireWindow := ⟨⟨(uw_mem 1317 (by decide +kernel) (by decide +kernel)), (uw_mem 29 (by decide +kernel) (by decide +kernel)), by decide +kernel, by decide +kernel⟩, (uw_mem 1316 (by decide +kernel) (by decide +kernel)), (uw_mem 25 (by decide +kernel) (by decide +kernel))⟩
theorem nkX7_requireWindow : nok_ mX7_requireWindow 2 := by decide +kernel
def gX7_requireWindow (s : st_) (i0 : Int32) (i1 : Int32) : Option (Unit) :=
  if (0 : Int32) ≤ i0 then (bn_ (gX7_requireWithin i1 (1 : Int32) (1000 : Int32)) fun r1 =>
  some ())
  else (none)
theorem kX7_requireWindow {E : ev_} {H : Heap} {a : Nat} {s : st_} {i0 : Int32} {i1 : Int32} {r : Unit} (hm : gX7_requireWindow s i0 i1 = some r) (h0 : has_ E H a ly_M s) : sp_ E mX7_requireWindow [.ref a, .int i0, .int i1] H (po1 (.inl (none)) (fun Hn => sm_ H Hn 0 0)) := by
  refine sp_of (by decide +kernel) rfl rfl ?_
  generalize hQ : po1 _ _ = Q
  have hs : sm_ H H 0 0 := sm_.rfl'
  unfold gX7_requireWindow at hm
  refine aw_lv (lv' := [(0, .ref a), (1, .int i0), (2, .int i1)]) [0, 1, 2] rfl ?_
  refine aw_b (pc' := 1) (lv' := [(0, .ref a), (1, .int i0), (2, .int i1)]) (st' := [.int i0]) [(0, .iload_n 1, 1, .null)] (by decide +kernel) rfl ?_
  refine aw_if_ge (off := 14) 15 (by decide) (by decide +kernel) (fun hc => ?_) (fun hc => ?_)
  · have hm := (if_pos hc).symm.trans hm
    refine aw_b (pc' := 20) (lv' := [(0, .ref a), (1, .int i0), (2, .int i1)]) (st' := [.int (1000 : Int32), .int (1 : Int32), .int i1]) [(15, .iload_n 2, 1, .null), (16, .iconst 1, 1, .int (1 : Int32)), (17, .sipush 1000, 3, .int (1000 : Int32))] (by decide +kernel) rfl ?_
    obtain ⟨r1, e2, hm⟩ := bn_x hm
    refine aw_cs (rest := []) (st1 := []) (kX7_requireWithin e2) rfl rfl ckX7_requireWithin lkX7_196 nkX7_requireWithin rfl rfl rfl (Nat.le_of_ble_eq_true rfl) (Nat.zero_le _) (Nat.zero_le _) (by decide +kernel) (fun H3 z4 => ?_)
    have h0 := h0.kept0 z4
    have hs := hs.step0 z4
    obtain rfl := Option.some.inj hm
    subst hQ
    exact aw_vret rfl (Nat.zero_le _) (Nat.zero_le _) (by decide +kernel) ⟨rfl, hs⟩
  · have hm := (if_neg hc).symm.trans hm
    cases hm
def mX7_windowRegret : mt_ := (yX7_windowRegret, cX7_windowRegret, 3, some .int, [], { frames := 3, locals := 70, cells := 0, slots := 0 })
theorem ckX7_windowRegret : cokV_ mX7_windowRegret := ⟨⟨(uw_mem 1313 (by decide +kernel) (by decide +kernel)), (uw_mem 29 (by decide +kernel) (by decide +kernel)), by decide +kernel, by decide +kernel⟩, (uw_mem 1311 (by decide +kernel) (by decide +kernel)), (uw_mem 1312 (by decide +kernel) (by decide +kernel))⟩
theorem nkX7_windowRegret : nok_ mX7_windowRegret 2 := by decide +kernel
theorem lkX7_344 : Cond.methodLink RX7 344 yX7_requireWindow ∈ uw_ := (uw_mem 1314 (by decide +kernel) (by decide +kernel))
theorem lkX7_347 : Cond.methodLink RX7 347 yX4_regretOver ∈ uw_ := (uw_mem 1319 (by decide +kernel) (by decide +kernel))
def gX7_windowRegret (s : st_) (i0 : Int32) (i1 : Int32) : Option (Int32) :=
  bn_ (gX7_requireWindow s i0 i1) fun r1 =>
  bn_ (fX4_hasRounds (sb_ s 42) i0 i1) fun r5 =>
  if r5 = (0 : Int32) then (some (-2000000000 : Int32))
  else (bn_ (fX4_regretOver (sb_ s 42) i0 (i0 + i1)) fun r9 =>
  some r9)
theorem kX7_windowRegret {E : ev_} {H : Heap} {a : Nat} {s : st_} {i0 : Int32} {i1 : Int32} {r : Int32} (hm : gX7_windowRegret s i0 i1 = some r) (h0 : has_ E H a ly_M s) : sp_ E mX7_windowRegret [.ref a, .int i0, .int i1] H (po1 (.inl (some (.int r))) (fun Hn => sm_ H Hn 0 0)) := by
  refine sp_of (by decide +kernel) rfl rfl ?_
  generalize hQ : po1 _ _ = Q
  have hs : sm_ H H 0 0 := sm_.rfl'
  unfold gX7_windowRegret at hm
  refine aw_lv (lv' := [(0, .ref a), (1, .int i0), (2, .int i1)]) [0, 1, 2] rfl ?_
  refine aw_b (pc' := 3) (lv' := [(0, .ref a), (1, .int i0), (2, .int i1)]) (st' := [.int i1, .int i0, .ref a]) [(0, .aload_n 0, 1, .null), (1, .iload_n 1, 1, .null), (2, .iload_n 2, 1, .null)] (by decide +kernel) rfl ?_
  obtain ⟨r1, e2, hm⟩ := bn_x hm
  refine aw_cv (rest := []) (st1 := []) a 0 (kX7_requireWindow e2 h0) rfl rfl ckX7_requireWindow lkX7_344 h0 eo_M_0 ⟨_, _, rfl⟩ nkX7_requireWindow rfl rfl rfl (Nat.le_of_ble_eq_true rfl) (Nat.zero_le _) (Nat.zero_le _) (by decide +kernel) (fun H3 z4 => ?_)
  have h0 := h0.kept0 z4
  have hs := hs.step0 z4
  refine aw_b (pc' := 7) (lv' := [(0, .ref a), (1, .int i0), (2, .int i1)]) (st' := [.ref a]) [(6, .aload_n 0, 1, .null)] (by decide +kernel) rfl ?_
  refine aw_gl (v := .ref (a + 8)) a 0 h0 eo_M_0 fgX7_30 rfl (by decide +kernel) ?_
  refine aw_gl (v := .ref (a + 42)) a 8 h0 eo_M_8 fgX7_153 rfl (by decide +kernel) ?_
  refine aw_b (pc' := 15) (lv' := [(0, .ref a), (1, .int i0), (2, .int i1)]) (st' := [.int i1, .int i0, .ref (a + 42)]) [(13, .iload_n 1, 1, .null), (14, .iload_n 2, 1, .null)] (by decide +kernel) rfl ?_
  obtain ⟨r5, e6, hm⟩ := bn_x hm
  refine aw_cv (rest := []) (st1 := [.int r5]) a 42 (kX4_hasRounds e6 (h0.sub su_M_42_R)) rfl rfl ckX4_hasRounds lkX7_315 h0 eo_M_42 ⟨_, _, rfl⟩ nkX4_hasRounds rfl rfl rfl (Nat.le_of_ble_eq_true rfl) (Nat.zero_le _) (Nat.zero_le _) (by decide +kernel) (fun H7 z8 => ?_)
  have h0 := h0.kept0 z8
  have hs := hs.step0 z8
  refine aw_if_eq (off := 20) 38 (by decide) (by decide +kernel) (fun hc => ?_) (fun hc => ?_)
  · have hm := (if_pos hc).symm.trans hm
    refine aw_ldcw (v := (-2000000000 : Int32)) kwX7_302 (by decide +kernel) ?_
    obtain rfl := Option.some.inj hm
    subst hQ
    exact aw_iret rfl (Nat.zero_le _) (Nat.zero_le _) (by decide +kernel) ⟨rfl, hs⟩
  · have hm := (if_neg hc).symm.trans hm
    refine aw_b (pc' := 22) (lv' := [(0, .ref a), (1, .int i0), (2, .int i1)]) (st' := [.ref a]) [(21, .aload_n 0, 1, .null)] (by decide +kernel) rfl ?_
    refine aw_gl (v := .ref (a + 8)) a 0 h0 eo_M_0 fgX7_30 rfl (by decide +kernel) ?_
    refine aw_gl (v := .ref (a + 42)) a 8 h0 eo_M_8 fgX7_153 rfl (by decide +kernel) ?_
    refine aw_b (pc' := 32) (lv' := [(0, .ref a), (1, .int i0), (2, .int i1)]) (st' := [.int (i0 + i1), .int i0, .ref (a + 42)]) [(28, .iload_n 1, 1, .null), (29, .iload_n 1, 1, .null), (30, .iload_n 2, 1, .null), (31, .iadd, 1, .null)] (by decide +kernel) rfl ?_
    obtain ⟨r9, e10, hm⟩ := bn_x hm
    refine aw_cv (rest := []) (st1 := [.int r9]) a 42 (kX4_regretOver e10 (h0.sub su_M_42_R)) rfl rfl ckX4_regretOver lkX7_347 h0 eo_M_42 ⟨_, _, rfl⟩ nkX4_regretOver rfl rfl rfl (Nat.le_of_ble_eq_true rfl) (Nat.zero_le _) (Nat.zero_le _) (by decide +kernel) (fun H11 z12 => ?_)
    have h0 := h0.kept0 z12
    have hs := hs.step0 z12
    refine aw_b (pc' := 41) (lv' := [(0, .ref a), (1, .int i0), (2, .int i1)]) (st' := [.int r9]) [(35, .goto 6, 3, .null)] (by decide +kernel) rfl ?_
    obtain rfl := Option.some.inj hm
    subst hQ
    exact aw_iret rfl (Nat.zero_le _) (Nat.zero_le _) (by decide +kernel) ⟨rfl, hs⟩
def mX7_windowBest : mt_ := (yX7_windowBest, cX7_windowBest, 3, some .int, [], { frames := 2, locals := 48, cells := 0, slots := 0 })
theorem ckX7_windowBest : cokV_ mX7_windowBest := ⟨⟨(uw_mem 1331 (by decide +kernel) (by decide +kernel)), (uw_mem 29 (by decide +kernel) (by decide +kernel)), by decide +kernel, by decide +kernel⟩, (uw_mem 1329 (by decide +kernel) (by decide +kernel)), (uw_mem 1330 (by decide +kernel) (by decide +kernel))⟩
theorem nkX7_windowBest : nok_ mX7_windowBest 2 := by decide +kernel
def gX7_windowBest (s : st_) (i0 : Int32) (i1 : Int32) : Option (Int32) :=
  bn_ (gX7_requireWindow s i0 i1) fun r1 =>
  bn_ (fX4_hasRounds (sb_ s 42) i0 i1) fun r5 =>
  if r5 = (0 : Int32) then (some (-1 : Int32))
  else (bn_ (fX4_cheapestIn (sb_ s 42) i0 (i0 + i1)) fun r9 =>
  some r9)
theorem kX7_windowBest {E : ev_} {H : Heap} {a : Nat} {s : st_} {i0 : Int32} {i1 : Int32} {r : Int32} (hm : gX7_windowBest s i0 i1 = some r) (h0 : has_ E H a ly_M s) : sp_ E mX7_windowBest [.ref a, .int i0, .int i1] H (po1 (.inl (some (.int r))) (fun Hn => sm_ H Hn 0 0)) := by
  refine sp_of (by decide +kernel) rfl rfl ?_
  generalize hQ : po1 _ _ = Q
  have hs : sm_ H H 0 0 := sm_.rfl'
  unfold gX7_windowBest at hm
  refine aw_lv (lv' := [(0, .ref a), (1, .int i0), (2, .int i1)]) [0, 1, 2] rfl ?_
  refine aw_b (pc' := 3) (lv' := [(0, .ref a), (1, .int i0), (2, .int i1)]) (st' := [.int i1, .int i0, .ref a]) [(0, .aload_n 0, 1, .null), (1, .iload_n 1, 1, .null), (2, .iload_n 2, 1, .null)] (by decide +kernel) rfl ?_
  obtain ⟨r1, e2, hm⟩ := bn_x hm
  refine aw_cv (rest := []) (st1 := []) a 0 (kX7_requireWindow e2 h0) rfl rfl ckX7_requireWindow lkX7_344 h0 eo_M_0 ⟨_, _, rfl⟩ nkX7_requireWindow rfl rfl rfl (Nat.le_of_ble_eq_true rfl) (Nat.zero_le _) (Nat.zero_le _) (by decide +kernel) (fun H3 z4 => ?_)
  have h0 := h0.kept0 z4
  have hs := hs.step0 z4
  refine aw_b (pc' := 7) (lv' := [(0, .ref a), (1, .int i0), (2, .int i1)]) (st' := [.ref a]) [(6, .aload_n 0, 1, .null)] (by decide +kernel) rfl ?_
  refine aw_gl (v := .ref (a + 8)) a 0 h0 eo_M_0 fgX7_30 rfl (by decide +kernel) ?_
  refine aw_gl (v := .ref (a + 42)) a 8 h0 eo_M_8 fgX7_153 rfl (by decide +kernel) ?_
  refine aw_b (pc' := 15) (lv' := [(0, .ref a), (1, .int i0), (2, .int i1)]) (st' := [.int i1, .int i0, .ref (a + 42)]) [(13, .iload_n 1, 1, .null), (14, .iload_n 2, 1, .null)] (by decide +kernel) rfl ?_
  obtain ⟨r5, e6, hm⟩ := bn_x hm
  refine aw_cv (rest := []) (st1 := [.int r5]) a 42 (kX4_hasRounds e6 (h0.sub su_M_42_R)) rfl rfl ckX4_hasRounds lkX7_315 h0 eo_M_42 ⟨_, _, rfl⟩ nkX4_hasRounds rfl rfl rfl (Nat.le_of_ble_eq_true rfl) (Nat.zero_le _) (Nat.zero_le _) (by decide +kernel) (fun H7 z8 => ?_)
  have h0 := h0.kept0 z8
  have hs := hs.step0 z8
  refine aw_if_eq (off := 20) 38 (by decide) (by decide +kernel) (fun hc => ?_) (fun hc => ?_)
  · have hm := (if_pos hc).symm.trans hm
    refine aw_b (pc' := 39) (lv' := [(0, .ref a), (1, .int i0), (2, .int i1)]) (st' := [.int (-1 : Int32)]) [(38, .iconst (-1), 1, .int (-1 : Int32))] (by decide +kernel) rfl ?_
    obtain rfl := Option.some.inj hm
    subst hQ
    exact aw_iret rfl (Nat.zero_le _) (Nat.zero_le _) (by decide +kernel) ⟨rfl, hs⟩
  · have hm := (if_neg hc).symm.trans hm
    refine aw_b (pc' := 22) (lv' := [(0, .ref a), (1, .int i0), (2, .int i1)]) (st' := [.ref a]) [(21, .aload_n 0, 1, .null)] (by decide +kernel) rfl ?_
    refine aw_gl (v := .ref (a + 8)) a 0 h0 eo_M_0 fgX7_30 rfl (by decide +kernel) ?_
    refine aw_gl (v := .ref (a + 42)) a 8 h0 eo_M_8 fgX7_153 rfl (by decide +kernel) ?_
    refine aw_b (pc' := 32) (lv' := [(0, .ref a), (1, .int i0), (2, .int i1)]) (st' := [.int (i0 + i1), .int i0, .ref (a + 42)]) [(28, .iload_n 1, 1, .null), (29, .iload_n 1, 1, .null), (30, .iload_n 2, 1, .null), (31, .iadd, 1, .null)] (by decide +kernel) rfl ?_
    obtain ⟨r9, e10, hm⟩ := bn_x hm
    refine aw_cv (rest := []) (st1 := [.int r9]) a 42 (kX4_cheapestIn e10 (h0.sub su_M_42_R)) rfl rfl ckX4_cheapestIn lkX7_332 h0 eo_M_42 ⟨_, _, rfl⟩ nkX4_cheapestIn rfl rfl rfl (Nat.le_of_ble_eq_true rfl) (Nat.zero_le _) (Nat.zero_le _) (by decide +kernel) (fun H11 z12 => ?_)
    have h0 := h0.kept0 z12
    have hs := hs.step0 z12
    refine aw_b (pc' := 39) (lv' := [(0, .ref a), (1, .int i0), (2, .int i1)]) (st' := [.int r9]) [(35, .goto 4, 3, .null)] (by decide +kernel) rfl ?_
    obtain rfl := Option.some.inj hm
    subst hQ
    exact aw_iret rfl (Nat.zero_le _) (Nat.zero_le _) (by decide +kernel) ⟨rfl, hs⟩
def mX7_worstWindow : mt_ := (yX7_worstWindow, cX7_worstWindow, 7, some .int, [], { frames := 3, locals := 70, cells := 0, slots := 0 })
theorem ckX7_worstWindow : cokV_ mX7_worstWindow := ⟨⟨(uw_mem 1336 (by decide +kernel) (by decide +kernel)), (uw_mem 29 (by decide +kernel) (by decide +kernel)), by decide +kernel, by decide +kernel⟩, (uw_mem 1334 (by decide +kernel) (by decide +kernel)), (uw_mem 1335 (by decide +kernel) (by decide +kernel))⟩
theorem nkX7_worstWindow : nok_ mX7_worstWindow 1 := by decide +kernel
def gX7_worstWindow_x24_72 (v3_x24_72 : Int32) : Option (Int32) :=
  some v3_x24_72
def gX7_worstWindow_k24 (x : Int32) : Option (Int32) :=
  gX7_worstWindow_x24_72 x
def gX7_worstWindow_j66 (v5_b24 : Int32) (v3_j66 : Int32) (v4_j66 : Int32) : Option ((Int32 × Int32 × Int32) ⊕ (Int32)) :=
  some (.inl (v3_j66, v4_j66, (v5_b24 + (1 : Int32))))
def gX7_worstWindow_j59 (v5_b24 : Int32) (r5 : Int32) : Option ((Int32 × Int32 × Int32) ⊕ (Int32)) :=
  gX7_worstWindow_j66 v5_b24 v5_b24 r5
def gX7_worstWindow_b24 (s : st_) (i0 : Int32) (v3_b24 : Int32) (v4_b24 : Int32) (v5_b24 : Int32) : Option ((Int32 × Int32 × Int32) ⊕ (Int32)) :=
  if (s 42 1) < (v5_b24 + i0) then (some (.inr v3_b24))
  else (bn_ (fX4_regretOver (sb_ s 42) v5_b24 (v5_b24 + i0)) fun r5 =>
  if v3_b24 = (-1 : Int32) then (gX7_worstWindow_j59 v5_b24 r5)
  else (if r5 ≤ v4_b24 then (gX7_worstWindow_j66 v5_b24 v3_b24 v4_b24)
  else (gX7_worstWindow_j59 v5_b24 r5)))
def gX7_worstWindow_l24 (s : st_) (i0 : Int32) : Nat → (Int32 × Int32 × Int32) → Option (Int32) :=
  it_ (fun v => gX7_worstWindow_b24 s i0 v.1 v.2.1 v.2.2)
def gX7_worstWindow (s : st_) (i0 : Int32) : Option (Int32) :=
  bn_ (gX7_requireWithin i0 (1 : Int32) (1000 : Int32)) fun r1 =>
  bn_ (gX7_worstWindow_l24 s i0 FU_ ((-1 : Int32), (0 : Int32), (0 : Int32))) (gX7_worstWindow_k24)
theorem kX7_worstWindow {E : ev_} {H : Heap} {a : Nat} {s : st_} {i0 : Int32} {r : Int32} (hm : gX7_worstWindow s i0 = some r) (h0 : has_ E H a ly_M s) : sp_ E mX7_worstWindow [.ref a, .int i0] H (po1 (.inl (some (.int r))) (fun Hn => sm_ H Hn 0 0)) := by
  refine sp_of (by decide +kernel) rfl rfl ?_
  generalize hQ : po1 _ _ = Q
  have hs : sm_ H H 0 0 := sm_.rfl'
  unfold gX7_worstWindow at hm
  refine aw_lv (lv' := [(0, .ref a), (1, .int i0)]) [0, 1] rfl ?_
  refine aw_b (pc' := 5) (lv' := [(0, .ref a), (1, .int i0)]) (st' := [.int (1000 : Int32), .int (1 : Int32), .int i0]) [(0, .iload_n 1, 1, .null), (1, .iconst 1, 1, .int (1 : Int32)), (2, .sipush 1000, 3, .int (1000 : Int32))] (by decide +kernel) rfl ?_
  obtain ⟨r1, e2, hm⟩ := bn_x hm
  refine aw_cs (rest := []) (st1 := []) (kX7_requireWithin e2) rfl rfl ckX7_requireWithin lkX7_196 nkX7_requireWithin rfl rfl rfl (Nat.le_of_ble_eq_true rfl) (Nat.zero_le _) (Nat.zero_le _) (by decide +kernel) (fun H3 z4 => ?_)
  have h0 := h0.kept0 z4
  have hs := hs.step0 z4
  refine aw_b (pc' := 9) (lv' := [(0, .ref a), (1, .int i0)]) (st' := [.ref a]) [(8, .aload_n 0, 1, .null)] (by decide +kernel) rfl ?_
  refine aw_gl (v := .ref (a + 8)) a 0 h0 eo_M_0 fgX7_30 rfl (by decide +kernel) ?_
  refine aw_gl (v := .ref (a + 42)) a 8 h0 eo_M_8 fgX7_153 rfl (by decide +kernel) ?_
  refine aw_b (pc' := 24) (lv' := [(5, .int (0 : Int32)), (4, .int (0 : Int32)), (3, .int (-1 : Int32)), (2, .ref (a + 42)), (0, .ref a), (1, .int i0)]) (st' := []) [(15, .astore_n 2, 1, .null), (16, .iconst (-1), 1, .int (-1 : Int32)), (17, .istore_n 3, 1, .null), (18, .iconst 0, 1, .int (0 : Int32)), (19, .istore 4, 2, .null), (21, .iconst 0, 1, .int (0 : Int32)), (22, .istore 5, 2, .null)] (by decide +kernel) rfl ?_
  obtain ⟨x24, hx24, hr24⟩ := bn_x hm
  have X24_72 : ∀ (v3_x24_72 : Int32) (H_x24_72 : Heap), has_ E H_x24_72 a ly_M s → sm_ H H_x24_72 0 0 → gX7_worstWindow_x24_72 v3_x24_72 = some r → aw E mX7_worstWindow Q 72 [(3, .int v3_x24_72)] [] H_x24_72 0 0 := by
    intro v3_x24_72 H_x24_72 h0 hs hm
    unfold gX7_worstWindow_x24_72 at hm
    refine aw_b (pc' := 73) (lv' := [(3, .int v3_x24_72)]) (st' := [.int v3_x24_72]) [(72, .iload_n 3, 1, .null)] (by decide +kernel) rfl ?_
    obtain rfl := Option.some.inj hm
    subst hQ
    exact aw_iret rfl (Nat.zero_le _) (Nat.zero_le _) (by decide +kernel) ⟨rfl, hs⟩
  have L24 : ∀ (fu : Nat) (v3_b24 : Int32) (v4_b24 : Int32) (v5_b24 : Int32) (H_b24 : Heap), has_ E H_b24 a ly_M s → sm_ H H_b24 0 0 → gX7_worstWindow_l24 s i0 fu (v3_b24, v4_b24, v5_b24) = some x24 → aw E mX7_worstWindow Q 24 [(1, .int i0), (2, .ref (a + 42)), (3, .int v3_b24), (4, .int v4_b24), (5, .int v5_b24)] [] H_b24 0 0 := by
    intro fu
    induction fu with
    | zero =>
      intro v3_b24 v4_b24 v5_b24 H_b24 h0 hs hm
      exact (it_0 hm).elim
    | succ fu ih24 =>
      intro v3_b24 v4_b24 v5_b24 H_b24 h0 hs hm
      obtain ⟨y24, hm, hk24⟩ := it_s hm
      have hm : gX7_worstWindow_b24 s i0 v3_b24 v4_b24 v5_b24 = some y24 := hm
      unfold gX7_worstWindow_b24 at hm
      refine aw_b (pc' := 29) (lv' := [(1, .int i0), (2, .ref (a + 42)), (3, .int v3_b24), (4, .int v4_b24), (5, .int v5_b24)]) (st' := [.ref (a + 42), .int (v5_b24 + i0)]) [(24, .iload 5, 2, .null), (26, .iload_n 1, 1, .null), (27, .iadd, 1, .null), (28, .aload_n 2, 1, .null)] (by decide +kernel) rfl ?_
      refine aw_gl (v := .int (s 42 1)) a 42 h0 eo_M_42 fgX7_335 rfl (by decide +kernel) ?_
      refine aw_ic_gt (off := 40) 72 (by decide) (by decide +kernel) (fun hc => ?_) (fun hc => ?_)
      · have hm := (if_pos hc).symm.trans hm
        cases hm
        refine aw_lv (lv' := [(3, .int v3_b24)]) [2] rfl ?_
        exact X24_72 v3_b24 H_b24 h0 hs ((congrArg gX7_worstWindow_k24 (show (v3_b24) = x24 from hk24)).trans hr24)
      · have hm := (if_neg hc).symm.trans hm
        refine aw_b (pc' := 42) (lv' := [(1, .int i0), (2, .ref (a + 42)), (3, .int v3_b24), (4, .int v4_b24), (5, .int v5_b24)]) (st' := [.int (v5_b24 + i0), .int v5_b24, .ref (a + 42)]) [(35, .aload_n 2, 1, .null), (36, .iload 5, 2, .null), (38, .iload 5, 2, .null), (40, .iload_n 1, 1, .null), (41, .iadd, 1, .null)] (by decide +kernel) rfl ?_
        obtain ⟨r5, e6, hm⟩ := bn_x hm
        refine aw_cv (rest := []) (st1 := [.int r5]) a 42 (kX4_regretOver e6 (h0.sub su_M_42_R)) rfl rfl ckX4_regretOver lkX7_347 h0 eo_M_42 ⟨_, _, rfl⟩ nkX4_regretOver rfl rfl rfl (Nat.le_of_ble_eq_true rfl) (Nat.zero_le _) (Nat.zero_le _) (by decide +kernel) (fun H7 z8 => ?_)
        have h0 := h0.kept0 z8
        have hs := hs.step0 z8
        refine aw_b (pc' := 49) (lv' := [(6, .int r5), (1, .int i0), (2, .ref (a + 42)), (3, .int v3_b24), (4, .int v4_b24), (5, .int v5_b24)]) (st' := [.int (-1 : Int32), .int v3_b24]) [(45, .istore 6, 2, .null), (47, .iload_n 3, 1, .null), (48, .iconst (-1), 1, .int (-1 : Int32))] (by decide +kernel) rfl ?_
        have J66 : ∀ (v3_j66 : Int32) (v4_j66 : Int32) (H_j66 : Heap), has_ E H_j66 a ly_M s → sm_ H H_j66 0 0 → gX7_worstWindow_j66 v5_b24 v3_j66 v4_j66 = some y24 → aw E mX7_worstWindow Q 66 [(1, .int i0), (2, .ref (a + 42)), (3, .int v3_j66), (4, .int v4_j66), (5, .int v5_b24)] [] H_j66 0 0 := by
          intro v3_j66 v4_j66 H_j66 h0 hs hm
          unfold gX7_worstWindow_j66 at hm
          refine aw_b (pc' := 24) (lv' := [(5, .int (v5_b24 + (1 : Int32))), (1, .int i0), (2, .ref (a + 42)), (3, .int v3_j66), (4, .int v4_j66)]) (st' := []) [(66, .iinc 5 1, 3, .int (1 : Int32)), (69, .goto (-45), 3, .null)] (by decide +kernel) rfl ?_
          cases hm
          refine aw_lv (lv' := [(1, .int i0), (2, .ref (a + 42)), (3, .int v3_j66), (4, .int v4_j66), (5, .int (v5_b24 + (1 : Int32)))]) [1, 2, 3, 4, 0] rfl ?_
          exact ih24 v3_j66 v4_j66 (v5_b24 + (1 : Int32)) H_j66 h0 hs hk24
        have J59 : ∀ (H_j59 : Heap), has_ E H_j59 a ly_M s → sm_ H H_j59 0 0 → gX7_worstWindow_j59 v5_b24 r5 = some y24 → aw E mX7_worstWindow Q 59 [(1, .int i0), (2, .ref (a + 42)), (5, .int v5_b24), (6, .int r5)] [] H_j59 0 0 := by
          intro H_j59 h0 hs hm
          unfold gX7_worstWindow_j59 at hm
          refine aw_b (pc' := 66) (lv' := [(4, .int r5), (3, .int v5_b24), (1, .int i0), (2, .ref (a + 42)), (5, .int v5_b24), (6, .int r5)]) (st' := []) [(59, .iload 5, 2, .null), (61, .istore_n 3, 1, .null), (62, .iload 6, 2, .null), (64, .istore 4, 2, .null)] (by decide +kernel) rfl ?_
          refine aw_lv (lv' := [(1, .int i0), (2, .ref (a + 42)), (3, .int v5_b24), (4, .int r5), (5, .int v5_b24)]) [2, 3, 1, 0, 4] rfl ?_
          exact J66 v5_b24 r5 H_j59 h0 hs hm
        refine aw_ic_eq (off := 10) 59 (by decide) (by decide +kernel) (fun hc => ?_) (fun hc => ?_)
        · have hm := (if_pos hc).symm.trans hm
          refine aw_lv (lv' := [(1, .int i0), (2, .ref (a + 42)), (5, .int v5_b24), (6, .int r5)]) [1, 2, 5, 0] rfl ?_
          exact J59 H7 h0 hs hm
        · have hm := (if_neg hc).symm.trans hm
          refine aw_b (pc' := 56) (lv' := [(6, .int r5), (1, .int i0), (2, .ref (a + 42)), (3, .int v3_b24), (4, .int v4_b24), (5, .int v5_b24)]) (st' := [.int v4_b24, .int r5]) [(52, .iload 6, 2, .null), (54, .iload 4, 2, .null)] (by decide +kernel) rfl ?_
          refine aw_ic_le (off := 10) 66 (by decide) (by decide +kernel) (fun hc => ?_) (fun hc => ?_)
          · have hm := (if_pos hc).symm.trans hm
            refine aw_lv (lv' := [(1, .int i0), (2, .ref (a + 42)), (3, .int v3_b24), (4, .int v4_b24), (5, .int v5_b24)]) [1, 2, 3, 4, 5] rfl ?_
            exact J66 v3_b24 v4_b24 H7 h0 hs hm
          · have hm := (if_neg hc).symm.trans hm
            refine aw_lv (lv' := [(1, .int i0), (2, .ref (a + 42)), (5, .int v5_b24), (6, .int r5)]) [1, 2, 5, 0] rfl ?_
            exact J59 H7 h0 hs hm
  refine aw_lv (lv' := [(1, .int i0), (2, .ref (a + 42)), (3, .int (-1 : Int32)), (4, .int (0 : Int32)), (5, .int (0 : Int32))]) [5, 3, 2, 1, 0] rfl ?_
  exact L24 FU_ (-1 : Int32) (0 : Int32) (0 : Int32) H3 h0 hs hx24
def mX7_meanCost : mt_ := (yX7_meanCost, cX7_meanCost, 3, some .double, [], { frames := 2, locals := 42, cells := 0, slots := 0 })
theorem ckX7_meanCost : cokV_ mX7_meanCost := ⟨⟨(uw_mem 1242 (by decide +kernel) (by decide +kernel)), (uw_mem 29 (by decide +kernel) (by decide +kernel)), by decide +kernel, by decide +kernel⟩, (uw_mem 1240 (by decide +kernel) (by decide +kernel)), (uw_mem 1241 (by decide +kernel) (by decide +kernel))⟩
theorem nkX7_meanCost : nok_ mX7_meanCost 1 := by decide +kernel
def gX7_meanCost (s : st_) (i0 : Int32) : Option (UInt64) :=
  bn_ (gX7_requireArm s i0) fun r1 =>
  if (s 9 9) = (0 : Int32) then (some FP.dconst0)
  else (bn_ (fX1_armOf (sb_ s 9) i0) fun r5 =>
  gd_ (n64_ (FP.ddiv (FP.i2d (s (9 + r5) 5)) (FP.i2d (s 9 9)))) <|
  some (FP.ddiv (FP.i2d (s (9 + r5) 5)) (FP.i2d (s 9 9))))
theorem kX7_meanCost {E : ev_} {H : Heap} {a : Nat} {s : st_} {i0 : Int32} {r : UInt64} (hm : gX7_meanCost s i0 = some r) (h0 : has_ E H a ly_M s) : sp_ E mX7_meanCost [.ref a, .int i0] H (po1 (.inl (some (.double r))) (fun Hn => sm_ H Hn 0 0)) := by
  refine sp_of (by decide +kernel) rfl rfl ?_
  generalize hQ : po1 _ _ = Q
  have hs : sm_ H H 0 0 := sm_.rfl'
  unfold gX7_meanCost at hm
  refine aw_lv (lv' := [(0, .ref a), (1, .int i0)]) [0, 1] rfl ?_
  refine aw_b (pc' := 2) (lv' := [(0, .ref a), (1, .int i0)]) (st' := [.int i0, .ref a]) [(0, .aload_n 0, 1, .null), (1, .iload_n 1, 1, .null)] (by decide +kernel) rfl ?_
  obtain ⟨r1, e2, hm⟩ := bn_x hm
  refine aw_cv (rest := []) (st1 := []) a 0 (kX7_requireArm e2 h0) rfl rfl ckX7_requireArm lkX7_214 h0 eo_M_0 ⟨_, _, rfl⟩ nkX7_requireArm rfl rfl rfl (Nat.le_of_ble_eq_true rfl) (Nat.zero_le _) (Nat.zero_le _) (by decide +kernel) (fun H3 z4 => ?_)
  have h0 := h0.kept0 z4
  have hs := hs.step0 z4
  refine aw_b (pc' := 6) (lv' := [(0, .ref a), (1, .int i0)]) (st' := [.ref a]) [(5, .aload_n 0, 1, .null)] (by decide +kernel) rfl ?_
  refine aw_gl (v := .ref (a + 8)) a 0 h0 eo_M_0 fgX7_30 rfl (by decide +kernel) ?_
  refine aw_gl (v := .ref (a + 9)) a 8 h0 eo_M_8 fgX7_80 rfl (by decide +kernel) ?_
  refine aw_gl (v := .int (s 9 9)) a 9 h0 eo_M_9 fgX7_269 rfl (by decide +kernel) ?_
  refine aw_b (pc' := 17) (lv' := [(2, .int (s 9 9)), (0, .ref a), (1, .int i0)]) (st' := [.int (s 9 9)]) [(15, .istore_n 2, 1, .null), (16, .iload_n 2, 1, .null)] (by decide +kernel) rfl ?_
  refine aw_if_ne (off := 7) 24 (by decide) (by decide +kernel) (fun hc => ?_) (fun hc => ?_)
  · have hm := (if_neg hc).symm.trans hm
    refine aw_b (pc' := 25) (lv' := [(2, .int (s 9 9)), (0, .ref a), (1, .int i0)]) (st' := [.ref a]) [(24, .aload_n 0, 1, .null)] (by decide +kernel) rfl ?_
    refine aw_gl (v := .ref (a + 8)) a 0 h0 eo_M_0 fgX7_30 rfl (by decide +kernel) ?_
    refine aw_gl (v := .ref (a + 9)) a 8 h0 eo_M_8 fgX7_80 rfl (by decide +kernel) ?_
    refine aw_b (pc' := 32) (lv' := [(2, .int (s 9 9)), (0, .ref a), (1, .int i0)]) (st' := [.int i0, .ref (a + 9)]) [(31, .iload_n 1, 1, .null)] (by decide +kernel) rfl ?_
    obtain ⟨r5, e6, hm⟩ := bn_x hm
    refine aw_cv (rest := []) (st1 := [.ref (a + (9 + r5))]) a 9 (kX1_armOf e6 (h0.sub su_M_9_D)) rfl (by rw [Nat.add_assoc]; rfl) ckX1_armOf lkX7_217 h0 eo_M_9 ⟨_, _, rfl⟩ nkX1_armOf rfl rfl rfl (Nat.le_of_ble_eq_true rfl) (Nat.zero_le _) (Nat.zero_le _) (by decide +kernel) (fun H7 z8 => ?_)
    obtain ⟨z8, hor5⟩ := z8
    have h0 := h0.kept0 z8
    have hs := hs.step0 z8
    refine aw_gl (v := .int (s (9 + r5) 5)) a (9 + r5) h0 (eoa_M_9 _ hor5) fgX7_166 rfl (by decide +kernel) ?_
    refine aw_b (pc' := 41) (lv' := [(2, .int (s 9 9)), (0, .ref a), (1, .int i0)]) (st' := [.double (FP.i2d (s 9 9)), .double (FP.i2d (s (9 + r5) 5))]) [(38, .i2d, 1, .null), (39, .iload_n 2, 1, .null), (40, .i2d, 1, .null)] (by decide +kernel) rfl ?_
    obtain ⟨g9, hm⟩ := gd_x hm
    refine aw_ddiv (n64_x g9) (by decide +kernel) ?_
    obtain rfl := Option.some.inj hm
    subst hQ
    exact aw_dret rfl (Nat.zero_le _) (Nat.zero_le _) (by decide +kernel) ⟨rfl, hs⟩
  · have hm := (if_pos hc).symm.trans hm
    refine aw_dc0 (by decide +kernel) ?_
    refine aw_b (pc' := 42) (lv' := [(2, .int (s 9 9)), (0, .ref a), (1, .int i0)]) (st' := [.double FP.dconst0]) [(21, .goto 21, 3, .null)] (by decide +kernel) rfl ?_
    obtain rfl := Option.some.inj hm
    subst hQ
    exact aw_dret rfl (Nat.zero_le _) (Nat.zero_le _) (by decide +kernel) ⟨rfl, hs⟩
def mX7_share : mt_ := (yX7_share, cX7_share, 3, some .float, [], { frames := 2, locals := 42, cells := 0, slots := 0 })
theorem ckX7_share : cokV_ mX7_share := ⟨⟨(uw_mem 1289 (by decide +kernel) (by decide +kernel)), (uw_mem 29 (by decide +kernel) (by decide +kernel)), by decide +kernel, by decide +kernel⟩, (uw_mem 1287 (by decide +kernel) (by decide +kernel)), (uw_mem 1288 (by decide +kernel) (by decide +kernel))⟩
theorem nkX7_share : nok_ mX7_share 1 := by decide +kernel
theorem lkX7_350 : Cond.methodLink RX7 350 yX1_weightSum ∈ uw_ := (uw_mem 1290 (by decide +kernel) (by decide +kernel))
def gX7_share (s : st_) (i0 : Int32) : Option (UInt32) :=
  bn_ (gX7_requireRule s i0) fun r1 =>
  bn_ (fX1_weightSum (sb_ s 9)) fun r5 =>
  if r5 = (0 : Int32) then (some FP.fconst0)
  else (gd_ (ib_ i0 6) <|
  gd_ (n32_ (FP.fdiv (FP.i2f (s 21 (ix_ i0))) (FP.i2f r5))) <|
  some (FP.fdiv (FP.i2f (s 21 (ix_ i0))) (FP.i2f r5)))
theorem kX7_share {E : ev_} {H : Heap} {a : Nat} {s : st_} {i0 : Int32} {r : UInt32} (hm : gX7_share s i0 = some r) (h0 : has_ E H a ly_M s) : sp_ E mX7_share [.ref a, .int i0] H (po1 (.inl (some (.float r))) (fun Hn => sm_ H Hn 0 0)) := by
  refine sp_of (by decide +kernel) rfl rfl ?_
  generalize hQ : po1 _ _ = Q
  have hs : sm_ H H 0 0 := sm_.rfl'
  unfold gX7_share at hm
  refine aw_lv (lv' := [(0, .ref a), (1, .int i0)]) [0, 1] rfl ?_
  refine aw_b (pc' := 2) (lv' := [(0, .ref a), (1, .int i0)]) (st' := [.int i0, .ref a]) [(0, .aload_n 0, 1, .null), (1, .iload_n 1, 1, .null)] (by decide +kernel) rfl ?_
  obtain ⟨r1, e2, hm⟩ := bn_x hm
  refine aw_cv (rest := []) (st1 := []) a 0 (kX7_requireRule e2 h0) rfl rfl ckX7_requireRule lkX7_138 h0 eo_M_0 ⟨_, _, rfl⟩ nkX7_requireRule rfl rfl rfl (Nat.le_of_ble_eq_true rfl) (Nat.zero_le _) (Nat.zero_le _) (by decide +kernel) (fun H3 z4 => ?_)
  have h0 := h0.kept0 z4
  have hs := hs.step0 z4
  refine aw_b (pc' := 6) (lv' := [(0, .ref a), (1, .int i0)]) (st' := [.ref a]) [(5, .aload_n 0, 1, .null)] (by decide +kernel) rfl ?_
  refine aw_gl (v := .ref (a + 8)) a 0 h0 eo_M_0 fgX7_30 rfl (by decide +kernel) ?_
  refine aw_gl (v := .ref (a + 9)) a 8 h0 eo_M_8 fgX7_80 rfl (by decide +kernel) ?_
  obtain ⟨r5, e6, hm⟩ := bn_x hm
  refine aw_cv (rest := []) (st1 := [.int r5]) a 9 (kX1_weightSum e6 (h0.sub su_M_9_D)) rfl rfl ckX1_weightSum lkX7_350 h0 eo_M_9 ⟨_, _, rfl⟩ nkX1_weightSum rfl rfl rfl (Nat.le_of_ble_eq_true rfl) (Nat.zero_le _) (Nat.zero_le _) (by decide +kernel) (fun H7 z8 => ?_)
  have h0 := h0.kept0 z8
  have hs := hs.step0 z8
  refine aw_b (pc' := 17) (lv' := [(2, .int r5), (0, .ref a), (1, .int i0)]) (st' := [.int r5]) [(15, .istore_n 2, 1, .null), (16, .iload_n 2, 1, .null)] (by decide +kernel) rfl ?_
  refine aw_if_ne (off := 7) 24 (by decide) (by decide +kernel) (fun hc => ?_) (fun hc => ?_)
  · have hm := (if_neg hc).symm.trans hm
    refine aw_b (pc' := 25) (lv' := [(2, .int r5), (0, .ref a), (1, .int i0)]) (st' := [.ref a]) [(24, .aload_n 0, 1, .null)] (by decide +kernel) rfl ?_
    refine aw_gl (v := .ref (a + 8)) a 0 h0 eo_M_0 fgX7_30 rfl (by decide +kernel) ?_
    refine aw_gl (v := .ref (a + 9)) a 8 h0 eo_M_8 fgX7_80 rfl (by decide +kernel) ?_
    refine aw_gl (v := .ref (a + 21)) a 9 h0 eo_M_9 fgX7_149 rfl (by decide +kernel) ?_
    refine aw_b (pc' := 35) (lv' := [(2, .int r5), (0, .ref a), (1, .int i0)]) (st' := [.int i0, .ref (a + 21)]) [(34, .iload_n 1, 1, .null)] (by decide +kernel) rfl ?_
    obtain ⟨g9, hm⟩ := gd_x hm
    refine aw_ial a 21 h0 rfl g9 (by decide +kernel) ?_
    refine aw_b (pc' := 39) (lv' := [(2, .int r5), (0, .ref a), (1, .int i0)]) (st' := [.float (FP.i2f r5), .float (FP.i2f (s 21 (ix_ i0)))]) [(36, .i2f, 1, .null), (37, .iload_n 2, 1, .null), (38, .i2f, 1, .null)] (by decide +kernel) rfl ?_
    obtain ⟨g10, hm⟩ := gd_x hm
    refine aw_fdiv (n32_x g10) (by decide +kernel) ?_
    obtain rfl := Option.some.inj hm
    subst hQ
    exact aw_fret rfl (Nat.zero_le _) (Nat.zero_le _) (by decide +kernel) ⟨rfl, hs⟩
  · have hm := (if_pos hc).symm.trans hm
    refine aw_fc0 (by decide +kernel) ?_
    refine aw_b (pc' := 40) (lv' := [(2, .int r5), (0, .ref a), (1, .int i0)]) (st' := [.float FP.fconst0]) [(21, .goto 19, 3, .null)] (by decide +kernel) rfl ?_
    obtain rfl := Option.some.inj hm
    subst hQ
    exact aw_fret rfl (Nat.zero_le _) (Nat.zero_le _) (by decide +kernel) ⟨rfl, hs⟩
def mX7_run : mt_ := (yX7_run, cX7_run, 3, some .int, [], { frames := 6, locals := 145, cells := 0, slots := 0 })
theorem ckX7_run : cokV_ mX7_run := ⟨⟨(uw_mem 1055 (by decide +kernel) (by decide +kernel)), (uw_mem 29 (by decide +kernel) (by decide +kernel)), by decide +kernel, by decide +kernel⟩, (uw_mem 1053 (by decide +kernel) (by decide +kernel)), (uw_mem 1054 (by decide +kernel) (by decide +kernel))⟩
theorem nkX7_run : nok_ mX7_run 1 := by decide +kernel
theorem mtX7_353 : ml_ RX7 353 Lib.Math.min.name Lib.Math.min.code 2 .int := ⟨(uw_mem 1056 (by decide +kernel) (by decide +kernel)), (uw_mem 632 (by decide +kernel) (by decide +kernel)), (uw_mem 38 (by decide +kernel) (by decide +kernel)), (uw_mem 633 (by decide +kernel) (by decide +kernel))⟩
theorem lkX7_356 : Cond.methodLink RX7 356 yX2_makeRound ∈ uw_ := (uw_mem 1057 (by decide +kernel) (by decide +kernel))
def gX7_run_x27_45 (s_x27_45 : st_) : Option (st_ × Int32) :=
  some (s_x27_45, (s_x27_45 9 9))
def gX7_run_k27 (x : st_) : Option (st_ × Int32) :=
  gX7_run_x27_45 x
def gX7_run_b27 (i0 : Int32) (v2_b27 : Int32) (s_b27 : st_) : Option ((Int32 × st_) ⊕ (st_)) :=
  if i0 ≤ v2_b27 then (some (.inr s_b27))
  else (bn_ (fX2_makeRound (sb_ s_b27 8)) fun r5 =>
  bd_ (mg_ s_b27 8 75 r5) fun s9 =>
  some (.inl ((v2_b27 + (1 : Int32)), s9)))
def gX7_run_l27 (i0 : Int32) : Nat → (Int32 × st_) → Option (st_) :=
  it_ (fun v => gX7_run_b27 i0 v.1 v.2)
def gX7_run (s : st_) (i0 : Int32) : Option (st_ × Int32) :=
  bn_ (gX7_requireWithin i0 (1 : Int32) (if ((1000 : Int32) - (s 9 9)) < (200 : Int32) then ((1000 : Int32) - (s 9 9)) else (200 : Int32))) fun r1 =>
  bn_ (gX7_run_l27 i0 FU_ ((0 : Int32), s)) (gX7_run_k27)
theorem kX7_run {E : ev_} {H : Heap} {a : Nat} {s : st_} {i0 : Int32} {r : st_ × Int32} (hm : gX7_run s i0 = some r) (h0 : has_ E H a ly_M s) (hf : ev_fr E a) : sp_ E mX7_run [.ref a, .int i0] H (po1 (.inl (some (.int r.2))) (fun Hn => sm_ H Hn a 119 ∧ has_ E Hn a ly_M r.1)) := by
  refine sp_of (by decide +kernel) rfl rfl ?_
  generalize hQ : po1 _ _ = Q
  have hs : sm_ H H a 119 := sm_.rfl'
  unfold gX7_run at hm
  refine aw_lv (lv' := [(0, .ref a), (1, .int i0)]) [0, 1] rfl ?_
  refine aw_b (pc' := 9) (lv' := [(0, .ref a), (1, .int i0)]) (st' := [.ref a, .int (1000 : Int32), .int (200 : Int32), .int (1 : Int32), .int i0]) [(0, .iload_n 1, 1, .null), (1, .iconst 1, 1, .int (1 : Int32)), (2, .sipush 200, 3, .int (200 : Int32)), (5, .sipush 1000, 3, .int (1000 : Int32)), (8, .aload_n 0, 1, .null)] (by decide +kernel) rfl ?_
  refine aw_gl (v := .ref (a + 8)) a 0 h0 eo_M_0 fgX7_30 rfl (by decide +kernel) ?_
  refine aw_gl (v := .ref (a + 9)) a 8 h0 eo_M_8 fgX7_80 rfl (by decide +kernel) ?_
  refine aw_gl (v := .int (s 9 9)) a 9 h0 eo_M_9 fgX7_269 rfl (by decide +kernel) ?_
  refine aw_b (pc' := 19) (lv' := [(0, .ref a), (1, .int i0)]) (st' := [.int ((1000 : Int32) - (s 9 9)), .int (200 : Int32), .int (1 : Int32), .int i0]) [(18, .isub, 1, .null)] (by decide +kernel) rfl ?_
  refine aw_mn (rest := [.int (1 : Int32), .int i0]) mtX7_353 rfl (Nat.le_of_ble_eq_true rfl) (Nat.zero_le _) (Nat.zero_le _) (by decide +kernel) ?_
  obtain ⟨r1, e2, hm⟩ := bn_x hm
  refine aw_cs (rest := []) (st1 := []) (kX7_requireWithin e2) rfl rfl ckX7_requireWithin lkX7_196 nkX7_requireWithin rfl rfl rfl (Nat.le_of_ble_eq_true rfl) (Nat.zero_le _) (Nat.zero_le _) (by decide +kernel) (fun H3 z4 => ?_)
  have h0 := h0.kept0 z4
  have hs := hs.step0 z4
  refine aw_b (pc' := 27) (lv' := [(2, .int (0 : Int32)), (0, .ref a), (1, .int i0)]) (st' := []) [(25, .iconst 0, 1, .int (0 : Int32)), (26, .istore_n 2, 1, .null)] (by decide +kernel) rfl ?_
  obtain ⟨x27, hx27, hr27⟩ := bn_x hm
  have X27_45 : ∀ (s_x27_45 : st_) (H_x27_45 : Heap), has_ E H_x27_45 a ly_M s_x27_45 → sm_ H H_x27_45 a 119 → gX7_run_x27_45 s_x27_45 = some r → aw E mX7_run Q 45 [(0, .ref a)] [] H_x27_45 0 0 := by
    intro s_x27_45 H_x27_45 h0 hs hm
    unfold gX7_run_x27_45 at hm
    refine aw_b (pc' := 46) (lv' := [(0, .ref a)]) (st' := [.ref a]) [(45, .aload_n 0, 1, .null)] (by decide +kernel) rfl ?_
    refine aw_gl (v := .ref (a + 8)) a 0 h0 eo_M_0 fgX7_30 rfl (by decide +kernel) ?_
    refine aw_gl (v := .ref (a + 9)) a 8 h0 eo_M_8 fgX7_80 rfl (by decide +kernel) ?_
    refine aw_gl (v := .int (s_x27_45 9 9)) a 9 h0 eo_M_9 fgX7_269 rfl (by decide +kernel) ?_
    obtain rfl := Option.some.inj hm
    subst hQ
    exact aw_iret rfl (Nat.zero_le _) (Nat.zero_le _) (by decide +kernel) ⟨rfl, hs, h0⟩
  have L27 : ∀ (fu : Nat) (v2_b27 : Int32) (s_b27 : st_) (H_b27 : Heap), has_ E H_b27 a ly_M s_b27 → sm_ H H_b27 a 119 → gX7_run_l27 i0 fu (v2_b27, s_b27) = some x27 → aw E mX7_run Q 27 [(0, .ref a), (1, .int i0), (2, .int v2_b27)] [] H_b27 0 0 := by
    intro fu
    induction fu with
    | zero =>
      intro v2_b27 s_b27 H_b27 h0 hs hm
      exact (it_0 hm).elim
    | succ fu ih27 =>
      intro v2_b27 s_b27 H_b27 h0 hs hm
      obtain ⟨y27, hm, hk27⟩ := it_s hm
      have hm : gX7_run_b27 i0 v2_b27 s_b27 = some y27 := hm
      unfold gX7_run_b27 at hm
      refine aw_b (pc' := 29) (lv' := [(0, .ref a), (1, .int i0), (2, .int v2_b27)]) (st' := [.int i0, .int v2_b27]) [(27, .iload_n 2, 1, .null), (28, .iload_n 1, 1, .null)] (by decide +kernel) rfl ?_
      refine aw_ic_ge (off := 16) 45 (by decide) (by decide +kernel) (fun hc => ?_) (fun hc => ?_)
      · have hm := (if_pos hc).symm.trans hm
        cases hm
        refine aw_lv (lv' := [(0, .ref a)]) [0] rfl ?_
        exact X27_45 s_b27 H_b27 h0 hs ((congrArg gX7_run_k27 (show (s_b27) = x27 from hk27)).trans hr27)
      · have hm := (if_neg hc).symm.trans hm
        refine aw_b (pc' := 33) (lv' := [(0, .ref a), (1, .int i0), (2, .int v2_b27)]) (st' := [.ref a]) [(32, .aload_n 0, 1, .null)] (by decide +kernel) rfl ?_
        refine aw_gl (v := .ref (a + 8)) a 0 h0 eo_M_0 fgX7_30 rfl (by decide +kernel) ?_
        obtain ⟨r5, e6, hm⟩ := bn_x hm
        refine aw_cv (rest := []) (st1 := []) a 8 (kX2_makeRound e6 (h0.sub su_M_8_G) (Nat.le_trans hf (Nat.le_add_right _ _))) rfl rfl ckX2_makeRound lkX7_356 h0 eo_M_8 ⟨_, _, rfl⟩ nkX2_makeRound rfl rfl rfl (Nat.le_of_ble_eq_true rfl) (Nat.zero_le _) (Nat.zero_le _) (by decide +kernel) (fun H7 z8 => ?_)
        obtain ⟨z8, hn⟩ := z8
        obtain ⟨s9, e10, hm⟩ := bd_x hm
        have h0 := h0.mg su_M_8_G hn z8 rfl e10
        have hs := hs.step z8 (by omega) (by omega)
        refine aw_b (pc' := 27) (lv' := [(2, .int (v2_b27 + (1 : Int32))), (0, .ref a), (1, .int i0)]) (st' := []) [(39, .iinc 2 1, 3, .int (1 : Int32)), (42, .goto (-15), 3, .null)] (by decide +kernel) rfl ?_
        cases hm
        refine aw_lv (lv' := [(0, .ref a), (1, .int i0), (2, .int (v2_b27 + (1 : Int32)))]) [1, 2, 0] rfl ?_
        exact ih27 (v2_b27 + (1 : Int32)) s9 H7 h0 hs hk27
  refine aw_lv (lv' := [(0, .ref a), (1, .int i0), (2, .int (0 : Int32))]) [1, 2, 0] rfl ?_
  exact L27 FU_ (0 : Int32) s H3 h0 hs hx27
def mX7_hurtOf : mt_ := (yX7_hurtOf, cX7_hurtOf, 2, some .int, [], { frames := 4, locals := 104, cells := 0, slots := 0 })
theorem ckX7_hurtOf : cokV_ mX7_hurtOf := ⟨⟨(uw_mem 1422 (by decide +kernel) (by decide +kernel)), (uw_mem 29 (by decide +kernel) (by decide +kernel)), by decide +kernel, by decide +kernel⟩, (uw_mem 1420 (by decide +kernel) (by decide +kernel)), (uw_mem 1421 (by decide +kernel) (by decide +kernel))⟩
theorem nkX7_hurtOf : nok_ mX7_hurtOf 1 := by decide +kernel
theorem lkX7_362 : Cond.methodLink RX7 362 yX1_foreseeHurts ∈ uw_ := (uw_mem 1423 (by decide +kernel) (by decide +kernel))
theorem fgX7_365 : fok_ RX7 365 1 5 := ⟨_, _, _, rfl, by decide, (uw_mem 293 (by decide +kernel) (by decide +kernel)), wkX1⟩
def gX7_hurtOf (s : st_) (i0 : Int32) : Option (st_ × Int32) :=
  bn_ (gX7_requireCylinder s i0) fun r1 =>
  bn_ (fX1_isFull (sb_ s 9)) fun r5 =>
  if r5 = (0 : Int32) then (bn_ (fX1_comingRule (sb_ s 9)) fun r9 =>
  bn_ (fX1_foreseeHurts (sb_ s 9) r9) fun r13 =>
  bd_ (mg_ s 9 33 r13) fun s17 =>
  gd_ (ib_ i0 100) <|
  some (s17, (s17 22 (ix_ i0))))
  else (some (s, (-2000000000 : Int32)))
theorem kX7_hurtOf {E : ev_} {H : Heap} {a : Nat} {s : st_} {i0 : Int32} {r : st_ × Int32} (hm : gX7_hurtOf s i0 = some r) (h0 : has_ E H a ly_M s) (hf : ev_fr E a) : sp_ E mX7_hurtOf [.ref a, .int i0] H (po1 (.inl (some (.int r.2))) (fun Hn => sm_ H Hn a 119 ∧ has_ E Hn a ly_M r.1)) := by
  refine sp_of (by decide +kernel) rfl rfl ?_
  generalize hQ : po1 _ _ = Q
  have hs : sm_ H H a 119 := sm_.rfl'
  unfold gX7_hurtOf at hm
  refine aw_lv (lv' := [(0, .ref a), (1, .int i0)]) [0, 1] rfl ?_
  refine aw_b (pc' := 2) (lv' := [(0, .ref a), (1, .int i0)]) (st' := [.int i0, .ref a]) [(0, .aload_n 0, 1, .null), (1, .iload_n 1, 1, .null)] (by decide +kernel) rfl ?_
  obtain ⟨r1, e2, hm⟩ := bn_x hm
  refine aw_cv (rest := []) (st1 := []) a 0 (kX7_requireCylinder e2 h0) rfl rfl ckX7_requireCylinder lkX7_179 h0 eo_M_0 ⟨_, _, rfl⟩ nkX7_requireCylinder rfl rfl rfl (Nat.le_of_ble_eq_true rfl) (Nat.zero_le _) (Nat.zero_le _) (by decide +kernel) (fun H3 z4 => ?_)
  have h0 := h0.kept0 z4
  have hs := hs.step0 z4
  refine aw_b (pc' := 6) (lv' := [(0, .ref a), (1, .int i0)]) (st' := [.ref a]) [(5, .aload_n 0, 1, .null)] (by decide +kernel) rfl ?_
  refine aw_gl (v := .ref (a + 8)) a 0 h0 eo_M_0 fgX7_30 rfl (by decide +kernel) ?_
  refine aw_gl (v := .ref (a + 9)) a 8 h0 eo_M_8 fgX7_80 rfl (by decide +kernel) ?_
  obtain ⟨r5, e6, hm⟩ := bn_x hm
  refine aw_cv (rest := []) (st1 := [.int r5]) a 9 (kX1_isFull e6 (h0.sub su_M_9_D)) rfl rfl ckX1_isFull lkX7_182 h0 eo_M_9 ⟨_, _, rfl⟩ nkX1_isFull rfl rfl rfl (Nat.le_of_ble_eq_true rfl) (Nat.zero_le _) (Nat.zero_le _) (by decide +kernel) (fun H7 z8 => ?_)
  have h0 := h0.kept0 z8
  have hs := hs.step0 z8
  refine aw_if_eq (off := 7) 22 (by decide) (by decide +kernel) (fun hc => ?_) (fun hc => ?_)
  · have hm := (if_pos hc).symm.trans hm
    refine aw_b (pc' := 23) (lv' := [(0, .ref a), (1, .int i0)]) (st' := [.ref a]) [(22, .aload_n 0, 1, .null)] (by decide +kernel) rfl ?_
    refine aw_gl (v := .ref (a + 8)) a 0 h0 eo_M_0 fgX7_30 rfl (by decide +kernel) ?_
    refine aw_gl (v := .ref (a + 9)) a 8 h0 eo_M_8 fgX7_80 rfl (by decide +kernel) ?_
    refine aw_b (pc' := 30) (lv' := [(0, .ref a), (1, .int i0)]) (st' := [.ref a, .ref (a + 9)]) [(29, .aload_n 0, 1, .null)] (by decide +kernel) rfl ?_
    refine aw_gl (v := .ref (a + 8)) a 0 h0 eo_M_0 fgX7_30 rfl (by decide +kernel) ?_
    refine aw_gl (v := .ref (a + 9)) a 8 h0 eo_M_8 fgX7_80 rfl (by decide +kernel) ?_
    obtain ⟨r9, e10, hm⟩ := bn_x hm
    refine aw_cv (rest := [.ref (a + 9)]) (st1 := [.int r9, .ref (a + 9)]) a 9 (kX1_comingRule e10 (h0.sub su_M_9_D)) rfl rfl ckX1_comingRule lkX7_261 h0 eo_M_9 ⟨_, _, rfl⟩ nkX1_comingRule rfl rfl rfl (Nat.le_of_ble_eq_true rfl) (Nat.zero_le _) (Nat.zero_le _) (by decide +kernel) (fun H11 z12 => ?_)
    have h0 := h0.kept0 z12
    have hs := hs.step0 z12
    obtain ⟨r13, e14, hm⟩ := bn_x hm
    refine aw_cv (rest := []) (st1 := []) a 9 (kX1_foreseeHurts e14 (h0.sub su_M_9_D) (Nat.le_trans hf (Nat.le_add_right _ _))) rfl rfl ckX1_foreseeHurts lkX7_362 h0 eo_M_9 ⟨_, _, rfl⟩ nkX1_foreseeHurts rfl rfl rfl (Nat.le_of_ble_eq_true rfl) (Nat.zero_le _) (Nat.zero_le _) (by decide +kernel) (fun H15 z16 => ?_)
    obtain ⟨z16, hn⟩ := z16
    obtain ⟨s17, e18, hm⟩ := bd_x hm
    have h0 := h0.mg su_M_9_D hn z16 rfl e18
    have hs := hs.step z16 (by omega) (by omega)
    refine aw_b (pc' := 43) (lv' := [(0, .ref a), (1, .int i0)]) (st' := [.ref a]) [(42, .aload_n 0, 1, .null)] (by decide +kernel) rfl ?_
    refine aw_gl (v := .ref (a + 8)) a 0 h0 eo_M_0 fgX7_30 rfl (by decide +kernel) ?_
    refine aw_gl (v := .ref (a + 9)) a 8 h0 eo_M_8 fgX7_80 rfl (by decide +kernel) ?_
    refine aw_gl (v := .ref (a + 22)) a 9 h0 eo_M_9 fgX7_365 rfl (by decide +kernel) ?_
    refine aw_b (pc' := 53) (lv' := [(0, .ref a), (1, .int i0)]) (st' := [.int i0, .ref (a + 22)]) [(52, .iload_n 1, 1, .null)] (by decide +kernel) rfl ?_
    obtain ⟨g19, hm⟩ := gd_x hm
    refine aw_ial a 22 h0 rfl g19 (by decide +kernel) ?_
    obtain rfl := Option.some.inj hm
    subst hQ
    exact aw_iret rfl (Nat.zero_le _) (Nat.zero_le _) (by decide +kernel) ⟨rfl, hs, h0⟩
  · have hm := (if_neg hc).symm.trans hm
    refine aw_ldcw (v := (-2000000000 : Int32)) kwX7_302 (by decide +kernel) ?_
    obtain rfl := Option.some.inj hm
    subst hQ
    exact aw_iret rfl (Nat.zero_le _) (Nat.zero_le _) (by decide +kernel) ⟨rfl, hs, h0⟩
def mX7_worst : mt_ := (yX7_worst, cX7_worst, 1, some .int, [], { frames := 4, locals := 104, cells := 0, slots := 0 })
theorem ckX7_worst : cokV_ mX7_worst := ⟨⟨(uw_mem 1427 (by decide +kernel) (by decide +kernel)), (uw_mem 29 (by decide +kernel) (by decide +kernel)), by decide +kernel, by decide +kernel⟩, (uw_mem 1425 (by decide +kernel) (by decide +kernel)), (uw_mem 1426 (by decide +kernel) (by decide +kernel))⟩
theorem nkX7_worst : nok_ mX7_worst 0 := by decide +kernel
theorem lkX7_368 : Cond.methodLink RX7 368 yX1_mostHurtful ∈ uw_ := (uw_mem 1428 (by decide +kernel) (by decide +kernel))
def gX7_worst (s : st_) : Option (st_ × Int32) :=
  bn_ (fX1_isFull (sb_ s 9)) fun r1 =>
  if r1 = (0 : Int32) then (bn_ (fX1_comingRule (sb_ s 9)) fun r5 =>
  bn_ (fX1_foreseeHurts (sb_ s 9) r5) fun r9 =>
  bd_ (mg_ s 9 33 r9) fun s13 =>
  bn_ (fX1_mostHurtful (sb_ s13 9)) fun r15 =>
  some (s13, r15))
  else (some (s, (-1 : Int32)))
theorem kX7_worst {E : ev_} {H : Heap} {a : Nat} {s : st_} {r : st_ × Int32} (hm : gX7_worst s = some r) (h0 : has_ E H a ly_M s) (hf : ev_fr E a) : sp_ E mX7_worst [.ref a] H (po1 (.inl (some (.int r.2))) (fun Hn => sm_ H Hn a 119 ∧ has_ E Hn a ly_M r.1)) := by
  refine sp_of (by decide +kernel) rfl rfl ?_
  generalize hQ : po1 _ _ = Q
  have hs : sm_ H H a 119 := sm_.rfl'
  unfold gX7_worst at hm
  refine aw_lv (lv' := [(0, .ref a)]) [0] rfl ?_
  refine aw_b (pc' := 1) (lv' := [(0, .ref a)]) (st' := [.ref a]) [(0, .aload_n 0, 1, .null)] (by decide +kernel) rfl ?_
  refine aw_gl (v := .ref (a + 8)) a 0 h0 eo_M_0 fgX7_30 rfl (by decide +kernel) ?_
  refine aw_gl (v := .ref (a + 9)) a 8 h0 eo_M_8 fgX7_80 rfl (by decide +kernel) ?_
  obtain ⟨r1, e2, hm⟩ := bn_x hm
  refine aw_cv (rest := []) (st1 := [.int r1]) a 9 (kX1_isFull e2 (h0.sub su_M_9_D)) rfl rfl ckX1_isFull lkX7_182 h0 eo_M_9 ⟨_, _, rfl⟩ nkX1_isFull rfl rfl rfl (Nat.le_of_ble_eq_true rfl) (Nat.zero_le _) (Nat.zero_le _) (by decide +kernel) (fun H3 z4 => ?_)
  have h0 := h0.kept0 z4
  have hs := hs.step0 z4
  refine aw_if_eq (off := 5) 15 (by decide) (by decide +kernel) (fun hc => ?_) (fun hc => ?_)
  · have hm := (if_pos hc).symm.trans hm
    refine aw_b (pc' := 16) (lv' := [(0, .ref a)]) (st' := [.ref a]) [(15, .aload_n 0, 1, .null)] (by decide +kernel) rfl ?_
    refine aw_gl (v := .ref (a + 8)) a 0 h0 eo_M_0 fgX7_30 rfl (by decide +kernel) ?_
    refine aw_gl (v := .ref (a + 9)) a 8 h0 eo_M_8 fgX7_80 rfl (by decide +kernel) ?_
    refine aw_b (pc' := 23) (lv' := [(0, .ref a)]) (st' := [.ref a, .ref (a + 9)]) [(22, .aload_n 0, 1, .null)] (by decide +kernel) rfl ?_
    refine aw_gl (v := .ref (a + 8)) a 0 h0 eo_M_0 fgX7_30 rfl (by decide +kernel) ?_
    refine aw_gl (v := .ref (a + 9)) a 8 h0 eo_M_8 fgX7_80 rfl (by decide +kernel) ?_
    obtain ⟨r5, e6, hm⟩ := bn_x hm
    refine aw_cv (rest := [.ref (a + 9)]) (st1 := [.int r5, .ref (a + 9)]) a 9 (kX1_comingRule e6 (h0.sub su_M_9_D)) rfl rfl ckX1_comingRule lkX7_261 h0 eo_M_9 ⟨_, _, rfl⟩ nkX1_comingRule rfl rfl rfl (Nat.le_of_ble_eq_true rfl) (Nat.zero_le _) (Nat.zero_le _) (by decide +kernel) (fun H7 z8 => ?_)
    have h0 := h0.kept0 z8
    have hs := hs.step0 z8
    obtain ⟨r9, e10, hm⟩ := bn_x hm
    refine aw_cv (rest := []) (st1 := []) a 9 (kX1_foreseeHurts e10 (h0.sub su_M_9_D) (Nat.le_trans hf (Nat.le_add_right _ _))) rfl rfl ckX1_foreseeHurts lkX7_362 h0 eo_M_9 ⟨_, _, rfl⟩ nkX1_foreseeHurts rfl rfl rfl (Nat.le_of_ble_eq_true rfl) (Nat.zero_le _) (Nat.zero_le _) (by decide +kernel) (fun H11 z12 => ?_)
    obtain ⟨z12, hn⟩ := z12
    obtain ⟨s13, e14, hm⟩ := bd_x hm
    have h0 := h0.mg su_M_9_D hn z12 rfl e14
    have hs := hs.step z12 (by omega) (by omega)
    refine aw_b (pc' := 36) (lv' := [(0, .ref a)]) (st' := [.ref a]) [(35, .aload_n 0, 1, .null)] (by decide +kernel) rfl ?_
    refine aw_gl (v := .ref (a + 8)) a 0 h0 eo_M_0 fgX7_30 rfl (by decide +kernel) ?_
    refine aw_gl (v := .ref (a + 9)) a 8 h0 eo_M_8 fgX7_80 rfl (by decide +kernel) ?_
    obtain ⟨r15, e16, hm⟩ := bn_x hm
    refine aw_cv (rest := []) (st1 := [.int r15]) a 9 (kX1_mostHurtful e16 (h0.sub su_M_9_D)) rfl rfl ckX1_mostHurtful lkX7_368 h0 eo_M_9 ⟨_, _, rfl⟩ nkX1_mostHurtful rfl rfl rfl (Nat.le_of_ble_eq_true rfl) (Nat.zero_le _) (Nat.zero_le _) (by decide +kernel) (fun H17 z18 => ?_)
    have h0 := h0.kept0 z18
    have hs := hs.step0 z18
    obtain rfl := Option.some.inj hm
    subst hQ
    exact aw_iret rfl (Nat.zero_le _) (Nat.zero_le _) (by decide +kernel) ⟨rfl, hs, h0⟩
  · have hm := (if_neg hc).symm.trans hm
    refine aw_b (pc' := 14) (lv' := [(0, .ref a)]) (st' := [.int (-1 : Int32)]) [(13, .iconst (-1), 1, .int (-1 : Int32))] (by decide +kernel) rfl ?_
    obtain rfl := Option.some.inj hm
    subst hQ
    exact aw_iret rfl (Nat.zero_le _) (Nat.zero_le _) (by decide +kernel) ⟨rfl, hs, h0⟩
def mX7_regretIn : mt_ := (yX7_regretIn, cX7_regretIn, 2, some .int, [], { frames := 6, locals := 147, cells := 0, slots := 0 })
theorem ckX7_regretIn : cokV_ mX7_regretIn := ⟨⟨(uw_mem 1379 (by decide +kernel) (by decide +kernel)), (uw_mem 29 (by decide +kernel) (by decide +kernel)), by decide +kernel, by decide +kernel⟩, (uw_mem 1377 (by decide +kernel) (by decide +kernel)), (uw_mem 1378 (by decide +kernel) (by decide +kernel))⟩
theorem nkX7_regretIn : nok_ mX7_regretIn 1 := by decide +kernel
theorem fgX7_37 : fok_ RX7 37 7 5 := ⟨_, _, _, rfl, by decide, (uw_mem 470 (by decide +kernel) (by decide +kernel)), wkX7⟩
theorem lkX7_371 : Cond.methodLink RX7 371 yX1_copyFrom ∈ uw_ := (uw_mem 1380 (by decide +kernel) (by decide +kernel))
theorem su_M_83_D : sub_ ly_M 83 ly_D := sub_of rfl
theorem eo_M_83 : eo_ ly_M 83 1 fsX1 := rfl
theorem lkX7_375 : Cond.methodLink RX7 375 yX1_letPass ∈ uw_ := (uw_mem 1390 (by decide +kernel) (by decide +kernel))
def gX7_regretIn (s : st_) (i0 : Int32) : Option (st_ × Int32) :=
  bn_ (gX7_requireWithin i0 (1 : Int32) (200 : Int32)) fun r1 =>
  bn_ (fX1_copyFrom (sb_ s 83) (sb_ s 9)) fun r5 =>
  bd_ (mg_ s 83 33 r5) fun s9 =>
  bn_ (fX1_letPass (sb_ s9 83) i0) fun r11 =>
  bd_ (mg_ s9 83 33 r11) fun s15 =>
  bn_ (fX1_regretNow (sb_ s15 83)) fun r17 =>
  some (s15, r17)
theorem kX7_regretIn {E : ev_} {H : Heap} {a : Nat} {s : st_} {i0 : Int32} {r : st_ × Int32} (hm : gX7_regretIn s i0 = some r) (h0 : has_ E H a ly_M s) (hf : ev_fr E a) : sp_ E mX7_regretIn [.ref a, .int i0] H (po1 (.inl (some (.int r.2))) (fun Hn => sm_ H Hn a 119 ∧ has_ E Hn a ly_M r.1)) := by
  refine sp_of (by decide +kernel) rfl rfl ?_
  generalize hQ : po1 _ _ = Q
  have hs : sm_ H H a 119 := sm_.rfl'
  unfold gX7_regretIn at hm
  refine aw_lv (lv' := [(0, .ref a), (1, .int i0)]) [0, 1] rfl ?_
  refine aw_b (pc' := 5) (lv' := [(0, .ref a), (1, .int i0)]) (st' := [.int (200 : Int32), .int (1 : Int32), .int i0]) [(0, .iload_n 1, 1, .null), (1, .iconst 1, 1, .int (1 : Int32)), (2, .sipush 200, 3, .int (200 : Int32))] (by decide +kernel) rfl ?_
  obtain ⟨r1, e2, hm⟩ := bn_x hm
  refine aw_cs (rest := []) (st1 := []) (kX7_requireWithin e2) rfl rfl ckX7_requireWithin lkX7_196 nkX7_requireWithin rfl rfl rfl (Nat.le_of_ble_eq_true rfl) (Nat.zero_le _) (Nat.zero_le _) (by decide +kernel) (fun H3 z4 => ?_)
  have h0 := h0.kept0 z4
  have hs := hs.step0 z4
  refine aw_b (pc' := 9) (lv' := [(0, .ref a), (1, .int i0)]) (st' := [.ref a]) [(8, .aload_n 0, 1, .null)] (by decide +kernel) rfl ?_
  refine aw_gl (v := .ref (a + 83)) a 0 h0 eo_M_0 fgX7_37 rfl (by decide +kernel) ?_
  refine aw_b (pc' := 13) (lv' := [(0, .ref a), (1, .int i0)]) (st' := [.ref a, .ref (a + 83)]) [(12, .aload_n 0, 1, .null)] (by decide +kernel) rfl ?_
  refine aw_gl (v := .ref (a + 8)) a 0 h0 eo_M_0 fgX7_30 rfl (by decide +kernel) ?_
  refine aw_gl (v := .ref (a + 9)) a 8 h0 eo_M_8 fgX7_80 rfl (by decide +kernel) ?_
  obtain ⟨r5, e6, hm⟩ := bn_x hm
  refine aw_cv (rest := []) (st1 := []) a 83 (kX1_copyFrom e6 (h0.sub su_M_83_D) (h0.sub su_M_9_D) (Nat.le_trans hf (Nat.le_add_right _ _)) (by omega)) rfl rfl ckX1_copyFrom lkX7_371 h0 eo_M_83 ⟨_, _, rfl⟩ nkX1_copyFrom rfl rfl rfl (Nat.le_of_ble_eq_true rfl) (Nat.zero_le _) (Nat.zero_le _) (by decide +kernel) (fun H7 z8 => ?_)
  obtain ⟨z8, hn⟩ := z8
  obtain ⟨s9, e10, hm⟩ := bd_x hm
  have h0 := h0.mg su_M_83_D hn z8 rfl e10
  have hs := hs.step z8 (by omega) (by omega)
  refine aw_b (pc' := 23) (lv' := [(0, .ref a), (1, .int i0)]) (st' := [.ref a]) [(22, .aload_n 0, 1, .null)] (by decide +kernel) rfl ?_
  refine aw_gl (v := .ref (a + 83)) a 0 h0 eo_M_0 fgX7_37 rfl (by decide +kernel) ?_
  refine aw_b (pc' := 27) (lv' := [(0, .ref a), (1, .int i0)]) (st' := [.int i0, .ref (a + 83)]) [(26, .iload_n 1, 1, .null)] (by decide +kernel) rfl ?_
  obtain ⟨r11, e12, hm⟩ := bn_x hm
  refine aw_cv (rest := []) (st1 := []) a 83 (kX1_letPass e12 (h0.sub su_M_83_D) (Nat.le_trans hf (Nat.le_add_right _ _))) rfl rfl ckX1_letPass lkX7_375 h0 eo_M_83 ⟨_, _, rfl⟩ nkX1_letPass rfl rfl rfl (Nat.le_of_ble_eq_true rfl) (Nat.zero_le _) (Nat.zero_le _) (by decide +kernel) (fun H13 z14 => ?_)
  obtain ⟨z14, hn⟩ := z14
  obtain ⟨s15, e16, hm⟩ := bd_x hm
  have h0 := h0.mg su_M_83_D hn z14 rfl e16
  have hs := hs.step z14 (by omega) (by omega)
  refine aw_b (pc' := 31) (lv' := [(0, .ref a), (1, .int i0)]) (st' := [.ref a]) [(30, .aload_n 0, 1, .null)] (by decide +kernel) rfl ?_
  refine aw_gl (v := .ref (a + 83)) a 0 h0 eo_M_0 fgX7_37 rfl (by decide +kernel) ?_
  obtain ⟨r17, e18, hm⟩ := bn_x hm
  refine aw_cv (rest := []) (st1 := [.int r17]) a 83 (kX1_regretNow e18 (h0.sub su_M_83_D)) rfl rfl ckX1_regretNow lkX7_272 h0 eo_M_83 ⟨_, _, rfl⟩ nkX1_regretNow rfl rfl rfl (Nat.le_of_ble_eq_true rfl) (Nat.zero_le _) (Nat.zero_le _) (by decide +kernel) (fun H19 z20 => ?_)
  have h0 := h0.kept0 z20
  have hs := hs.step0 z20
  obtain rfl := Option.some.inj hm
  subst hQ
  exact aw_iret rfl (Nat.zero_le _) (Nat.zero_le _) (by decide +kernel) ⟨rfl, hs, h0⟩
def mX7_costIn : mt_ := (yX7_costIn, cX7_costIn, 3, some .int, [], { frames := 6, locals := 147, cells := 0, slots := 0 })
theorem ckX7_costIn : cokV_ mX7_costIn := ⟨⟨(uw_mem 1400 (by decide +kernel) (by decide +kernel)), (uw_mem 29 (by decide +kernel) (by decide +kernel)), by decide +kernel, by decide +kernel⟩, (uw_mem 1398 (by decide +kernel) (by decide +kernel)), (uw_mem 1399 (by decide +kernel) (by decide +kernel))⟩
theorem nkX7_costIn : nok_ mX7_costIn 2 := by decide +kernel
theorem eoa_M_83 : ∀ r, aro_ r → eo_ ly_M (83 + r) 0 fsX0 := by
  intro r h
  rcases h with rfl | ⟨k, hk, rfl⟩
  · rfl
  · match k, hk with
    | 0, _ => rfl
    | 1, _ => rfl
    | 2, _ => rfl
    | 3, _ => rfl
    | 4, _ => rfl
    | 5, _ => rfl
theorem wta_M_83 : ∀ r, aro_ r → ly_M[(83 + r) + 1]? = some (ia_ 20) ∧ ly_M[(83 + r) + 2]? = some (ia_ 20) := by
  intro r h
  rcases h with rfl | ⟨k, hk, rfl⟩
  · exact ⟨rfl, rfl⟩
  · match k, hk with
    | 0, _ => exact ⟨rfl, rfl⟩
    | 1, _ => exact ⟨rfl, rfl⟩
    | 2, _ => exact ⟨rfl, rfl⟩
    | 3, _ => exact ⟨rfl, rfl⟩
    | 4, _ => exact ⟨rfl, rfl⟩
    | 5, _ => exact ⟨rfl, rfl⟩
theorem soa_M_83 : ∀ r, aro_ r → sub_ ly_M (83 + r) ly_A := by
  intro r h
  rcases h with rfl | ⟨k, hk, rfl⟩
  · exact sub_of rfl
  · match k, hk with
    | 0, _ => exact sub_of rfl
    | 1, _ => exact sub_of rfl
    | 2, _ => exact sub_of rfl
    | 3, _ => exact sub_of rfl
    | 4, _ => exact sub_of rfl
    | 5, _ => exact sub_of rfl
def gX7_costIn (s : st_) (i0 : Int32) (i1 : Int32) : Option (st_ × Int32) :=
  bn_ (gX7_requireArm s i0) fun r1 =>
  bn_ (gX7_requireWithin i1 (1 : Int32) (200 : Int32)) fun r5 =>
  bn_ (fX1_copyFrom (sb_ s 83) (sb_ s 9)) fun r9 =>
  bd_ (mg_ s 83 33 r9) fun s13 =>
  bn_ (fX1_letPass (sb_ s13 83) i1) fun r15 =>
  bd_ (mg_ s13 83 33 r15) fun s19 =>
  bn_ (fX1_armOf (sb_ s19 83) i0) fun r21 =>
  bn_ (fX1_armOf (sb_ s19 9) i0) fun r25 =>
  some (s19, ((s19 (83 + r21) 5) - (s19 (9 + r25) 5)))
theorem kX7_costIn {E : ev_} {H : Heap} {a : Nat} {s : st_} {i0 : Int32} {i1 : Int32} {r : st_ × Int32} (hm : gX7_costIn s i0 i1 = some r) (h0 : has_ E H a ly_M s) (hf : ev_fr E a) : sp_ E mX7_costIn [.ref a, .int i0, .int i1] H (po1 (.inl (some (.int r.2))) (fun Hn => sm_ H Hn a 119 ∧ has_ E Hn a ly_M r.1)) := by
  refine sp_of (by decide +kernel) rfl rfl ?_
  generalize hQ : po1 _ _ = Q
  have hs : sm_ H H a 119 := sm_.rfl'
  unfold gX7_costIn at hm
  refine aw_lv (lv' := [(0, .ref a), (1, .int i0), (2, .int i1)]) [0, 1, 2] rfl ?_
  refine aw_b (pc' := 2) (lv' := [(0, .ref a), (1, .int i0), (2, .int i1)]) (st' := [.int i0, .ref a]) [(0, .aload_n 0, 1, .null), (1, .iload_n 1, 1, .null)] (by decide +kernel) rfl ?_
  obtain ⟨r1, e2, hm⟩ := bn_x hm
  refine aw_cv (rest := []) (st1 := []) a 0 (kX7_requireArm e2 h0) rfl rfl ckX7_requireArm lkX7_214 h0 eo_M_0 ⟨_, _, rfl⟩ nkX7_requireArm rfl rfl rfl (Nat.le_of_ble_eq_true rfl) (Nat.zero_le _) (Nat.zero_le _) (by decide +kernel) (fun H3 z4 => ?_)
  have h0 := h0.kept0 z4
  have hs := hs.step0 z4
  refine aw_b (pc' := 10) (lv' := [(0, .ref a), (1, .int i0), (2, .int i1)]) (st' := [.int (200 : Int32), .int (1 : Int32), .int i1]) [(5, .iload_n 2, 1, .null), (6, .iconst 1, 1, .int (1 : Int32)), (7, .sipush 200, 3, .int (200 : Int32))] (by decide +kernel) rfl ?_
  obtain ⟨r5, e6, hm⟩ := bn_x hm
  refine aw_cs (rest := []) (st1 := []) (kX7_requireWithin e6) rfl rfl ckX7_requireWithin lkX7_196 nkX7_requireWithin rfl rfl rfl (Nat.le_of_ble_eq_true rfl) (Nat.zero_le _) (Nat.zero_le _) (by decide +kernel) (fun H7 z8 => ?_)
  have h0 := h0.kept0 z8
  have hs := hs.step0 z8
  refine aw_b (pc' := 14) (lv' := [(0, .ref a), (1, .int i0), (2, .int i1)]) (st' := [.ref a]) [(13, .aload_n 0, 1, .null)] (by decide +kernel) rfl ?_
  refine aw_gl (v := .ref (a + 83)) a 0 h0 eo_M_0 fgX7_37 rfl (by decide +kernel) ?_
  refine aw_b (pc' := 18) (lv' := [(0, .ref a), (1, .int i0), (2, .int i1)]) (st' := [.ref a, .ref (a + 83)]) [(17, .aload_n 0, 1, .null)] (by decide +kernel) rfl ?_
  refine aw_gl (v := .ref (a + 8)) a 0 h0 eo_M_0 fgX7_30 rfl (by decide +kernel) ?_
  refine aw_gl (v := .ref (a + 9)) a 8 h0 eo_M_8 fgX7_80 rfl (by decide +kernel) ?_
  obtain ⟨r9, e10, hm⟩ := bn_x hm
  refine aw_cv (rest := []) (st1 := []) a 83 (kX1_copyFrom e10 (h0.sub su_M_83_D) (h0.sub su_M_9_D) (Nat.le_trans hf (Nat.le_add_right _ _)) (by omega)) rfl rfl ckX1_copyFrom lkX7_371 h0 eo_M_83 ⟨_, _, rfl⟩ nkX1_copyFrom rfl rfl rfl (Nat.le_of_ble_eq_true rfl) (Nat.zero_le _) (Nat.zero_le _) (by decide +kernel) (fun H11 z12 => ?_)
  obtain ⟨z12, hn⟩ := z12
  obtain ⟨s13, e14, hm⟩ := bd_x hm
  have h0 := h0.mg su_M_83_D hn z12 rfl e14
  have hs := hs.step z12 (by omega) (by omega)
  refine aw_b (pc' := 28) (lv' := [(0, .ref a), (1, .int i0), (2, .int i1)]) (st' := [.ref a]) [(27, .aload_n 0, 1, .null)] (by decide +kernel) rfl ?_
  refine aw_gl (v := .ref (a + 83)) a 0 h0 eo_M_0 fgX7_37 rfl (by decide +kernel) ?_
  refine aw_b (pc' := 32) (lv' := [(0, .ref a), (1, .int i0), (2, .int i1)]) (st' := [.int i1, .ref (a + 83)]) [(31, .iload_n 2, 1, .null)] (by decide +kernel) rfl ?_
  obtain ⟨r15, e16, hm⟩ := bn_x hm
  refine aw_cv (rest := []) (st1 := []) a 83 (kX1_letPass e16 (h0.sub su_M_83_D) (Nat.le_trans hf (Nat.le_add_right _ _))) rfl rfl ckX1_letPass lkX7_375 h0 eo_M_83 ⟨_, _, rfl⟩ nkX1_letPass rfl rfl rfl (Nat.le_of_ble_eq_true rfl) (Nat.zero_le _) (Nat.zero_le _) (by decide +kernel) (fun H17 z18 => ?_)
  obtain ⟨z18, hn⟩ := z18
  obtain ⟨s19, e20, hm⟩ := bd_x hm
  have h0 := h0.mg su_M_83_D hn z18 rfl e20
  have hs := hs.step z18 (by omega) (by omega)
  refine aw_b (pc' := 36) (lv' := [(0, .ref a), (1, .int i0), (2, .int i1)]) (st' := [.ref a]) [(35, .aload_n 0, 1, .null)] (by decide +kernel) rfl ?_
  refine aw_gl (v := .ref (a + 83)) a 0 h0 eo_M_0 fgX7_37 rfl (by decide +kernel) ?_
  refine aw_b (pc' := 40) (lv' := [(0, .ref a), (1, .int i0), (2, .int i1)]) (st' := [.int i0, .ref (a + 83)]) [(39, .iload_n 1, 1, .null)] (by decide +kernel) rfl ?_
  obtain ⟨r21, e22, hm⟩ := bn_x hm
  refine aw_cv (rest := []) (st1 := [.ref (a + (83 + r21))]) a 83 (kX1_armOf e22 (h0.sub su_M_83_D)) rfl (by rw [Nat.add_assoc]; rfl) ckX1_armOf lkX7_217 h0 eo_M_83 ⟨_, _, rfl⟩ nkX1_armOf rfl rfl rfl (Nat.le_of_ble_eq_true rfl) (Nat.zero_le _) (Nat.zero_le _) (by decide +kernel) (fun H23 z24 => ?_)
  obtain ⟨z24, hor21⟩ := z24
  have h0 := h0.kept0 z24
  have hs := hs.step0 z24
  refine aw_gl (v := .int (s19 (83 + r21) 5)) a (83 + r21) h0 (eoa_M_83 _ hor21) fgX7_166 rfl (by decide +kernel) ?_
  refine aw_b (pc' := 47) (lv' := [(0, .ref a), (1, .int i0), (2, .int i1)]) (st' := [.ref a, .int (s19 (83 + r21) 5)]) [(46, .aload_n 0, 1, .null)] (by decide +kernel) rfl ?_
  refine aw_gl (v := .ref (a + 8)) a 0 h0 eo_M_0 fgX7_30 rfl (by decide +kernel) ?_
  refine aw_gl (v := .ref (a + 9)) a 8 h0 eo_M_8 fgX7_80 rfl (by decide +kernel) ?_
  refine aw_b (pc' := 54) (lv' := [(0, .ref a), (1, .int i0), (2, .int i1)]) (st' := [.int i0, .ref (a + 9), .int (s19 (83 + r21) 5)]) [(53, .iload_n 1, 1, .null)] (by decide +kernel) rfl ?_
  obtain ⟨r25, e26, hm⟩ := bn_x hm
  refine aw_cv (rest := [.int (s19 (83 + r21) 5)]) (st1 := [.ref (a + (9 + r25)), .int (s19 (83 + r21) 5)]) a 9 (kX1_armOf e26 (h0.sub su_M_9_D)) rfl (by rw [Nat.add_assoc]; rfl) ckX1_armOf lkX7_217 h0 eo_M_9 ⟨_, _, rfl⟩ nkX1_armOf rfl rfl rfl (Nat.le_of_ble_eq_true rfl) (Nat.zero_le _) (Nat.zero_le _) (by decide +kernel) (fun H27 z28 => ?_)
  obtain ⟨z28, hor25⟩ := z28
  have h0 := h0.kept0 z28
  have hs := hs.step0 z28
  refine aw_gl (v := .int (s19 (9 + r25) 5)) a (9 + r25) h0 (eoa_M_9 _ hor25) fgX7_166 rfl (by decide +kernel) ?_
  refine aw_b (pc' := 61) (lv' := [(0, .ref a), (1, .int i0), (2, .int i1)]) (st' := [.int ((s19 (83 + r21) 5) - (s19 (9 + r25) 5))]) [(60, .isub, 1, .null)] (by decide +kernel) rfl ?_
  obtain rfl := Option.some.inj hm
  subst hQ
  exact aw_iret rfl (Nat.zero_le _) (Nat.zero_le _) (by decide +kernel) ⟨rfl, hs, h0⟩
def mX7_breachIn : mt_ := (yX7_breachIn, cX7_breachIn, 2, some .int, [], { frames := 6, locals := 147, cells := 0, slots := 0 })
theorem ckX7_breachIn : cokV_ mX7_breachIn := ⟨⟨(uw_mem 1412 (by decide +kernel) (by decide +kernel)), (uw_mem 29 (by decide +kernel) (by decide +kernel)), by decide +kernel, by decide +kernel⟩, (uw_mem 1410 (by decide +kernel) (by decide +kernel)), (uw_mem 1411 (by decide +kernel) (by decide +kernel))⟩
theorem nkX7_breachIn : nok_ mX7_breachIn 0 := by decide +kernel
theorem lkX7_359 : Cond.methodLink RX7 359 yX1_isBreach ∈ uw_ := (uw_mem 1413 (by decide +kernel) (by decide +kernel))
def gX7_breachIn_x35_68 (s_x35_68 : st_) : Option (st_ × Int32) :=
  some (s_x35_68, (-1 : Int32))
def gX7_breachIn_x35_60 (v1_x35_60 : Int32) (s_x35_60 : st_) : Option (st_ × Int32) :=
  some (s_x35_60, v1_x35_60)
def gX7_breachIn_k35 (x : (Int32 × st_) ⊕ (st_)) : Option (st_ × Int32) :=
  Sum.elim (fun z => gX7_breachIn_x35_60 z.1 z.2) (fun z => gX7_breachIn_x35_68 z) x
def gX7_breachIn_b35 (v1_b35 : Int32) (s_b35 : st_) : Option ((Int32 × st_) ⊕ ((Int32 × st_) ⊕ (st_))) :=
  if (200 : Int32) < v1_b35 then (some (.inr (.inr s_b35)))
  else (bn_ (fX1_letPass (sb_ s_b35 83) (1 : Int32)) fun r7 =>
  bd_ (mg_ s_b35 83 33 r7) fun s11 =>
  bn_ (fX1_isBreach (sb_ s11 83)) fun r13 =>
  if r13 = (0 : Int32) then (some (.inl ((v1_b35 + (1 : Int32)), s11)))
  else (some (.inr (.inl (v1_b35, s11)))))
def gX7_breachIn_l35 : Nat → (Int32 × st_) → Option ((Int32 × st_) ⊕ (st_)) :=
  it_ (fun v => gX7_breachIn_b35 v.1 v.2)
def gX7_breachIn (s : st_) : Option (st_ × Int32) :=
  if (s 10 17) = (-1 : Int32) then (some (s, (-1 : Int32)))
  else (bn_ (fX1_copyFrom (sb_ s 83) (sb_ s 9)) fun r1 =>
  bd_ (mg_ s 83 33 r1) fun s5 =>
  bn_ (gX7_breachIn_l35 FU_ ((1 : Int32), s5)) (gX7_breachIn_k35))
theorem kX7_breachIn {E : ev_} {H : Heap} {a : Nat} {s : st_} {r : st_ × Int32} (hm : gX7_breachIn s = some r) (h0 : has_ E H a ly_M s) (hf : ev_fr E a) : sp_ E mX7_breachIn [.ref a] H (po1 (.inl (some (.int r.2))) (fun Hn => sm_ H Hn a 119 ∧ has_ E Hn a ly_M r.1)) := by
  refine sp_of (by decide +kernel) rfl rfl ?_
  generalize hQ : po1 _ _ = Q
  have hs : sm_ H H a 119 := sm_.rfl'
  unfold gX7_breachIn at hm
  refine aw_lv (lv' := [(0, .ref a)]) [0] rfl ?_
  refine aw_b (pc' := 1) (lv' := [(0, .ref a)]) (st' := [.ref a]) [(0, .aload_n 0, 1, .null)] (by decide +kernel) rfl ?_
  refine aw_gl (v := .ref (a + 8)) a 0 h0 eo_M_0 fgX7_30 rfl (by decide +kernel) ?_
  refine aw_gl (v := .ref (a + 9)) a 8 h0 eo_M_8 fgX7_80 rfl (by decide +kernel) ?_
  refine aw_gl (v := .ref (a + 10)) a 9 h0 eo_M_9 fgX7_83 rfl (by decide +kernel) ?_
  refine aw_gl (v := .int (s 10 17)) a 10 h0 eo_M_10 fgX7_119 rfl (by decide +kernel) ?_
  refine aw_b (pc' := 14) (lv' := [(0, .ref a)]) (st' := [.int (-1 : Int32), .int (s 10 17)]) [(13, .iconst (-1), 1, .int (-1 : Int32))] (by decide +kernel) rfl ?_
  refine aw_ic_ne (off := 5) 19 (by decide) (by decide +kernel) (fun hc => ?_) (fun hc => ?_)
  · have hm := (if_neg hc).symm.trans hm
    refine aw_b (pc' := 20) (lv' := [(0, .ref a)]) (st' := [.ref a]) [(19, .aload_n 0, 1, .null)] (by decide +kernel) rfl ?_
    refine aw_gl (v := .ref (a + 83)) a 0 h0 eo_M_0 fgX7_37 rfl (by decide +kernel) ?_
    refine aw_b (pc' := 24) (lv' := [(0, .ref a)]) (st' := [.ref a, .ref (a + 83)]) [(23, .aload_n 0, 1, .null)] (by decide +kernel) rfl ?_
    refine aw_gl (v := .ref (a + 8)) a 0 h0 eo_M_0 fgX7_30 rfl (by decide +kernel) ?_
    refine aw_gl (v := .ref (a + 9)) a 8 h0 eo_M_8 fgX7_80 rfl (by decide +kernel) ?_
    obtain ⟨r1, e2, hm⟩ := bn_x hm
    refine aw_cv (rest := []) (st1 := []) a 83 (kX1_copyFrom e2 (h0.sub su_M_83_D) (h0.sub su_M_9_D) (Nat.le_trans hf (Nat.le_add_right _ _)) (by omega)) rfl rfl ckX1_copyFrom lkX7_371 h0 eo_M_83 ⟨_, _, rfl⟩ nkX1_copyFrom rfl rfl rfl (Nat.le_of_ble_eq_true rfl) (Nat.zero_le _) (Nat.zero_le _) (by decide +kernel) (fun H3 z4 => ?_)
    obtain ⟨z4, hn⟩ := z4
    obtain ⟨s5, e6, hm⟩ := bd_x hm
    have h0 := h0.mg su_M_83_D hn z4 rfl e6
    have hs := hs.step z4 (by omega) (by omega)
    refine aw_b (pc' := 35) (lv' := [(1, .int (1 : Int32)), (0, .ref a)]) (st' := []) [(33, .iconst 1, 1, .int (1 : Int32)), (34, .istore_n 1, 1, .null)] (by decide +kernel) rfl ?_
    obtain ⟨x35, hx35, hr35⟩ := bn_x hm
    have X35_68 : ∀ (s_x35_68 : st_) (H_x35_68 : Heap), has_ E H_x35_68 a ly_M s_x35_68 → sm_ H H_x35_68 a 119 → gX7_breachIn_x35_68 s_x35_68 = some r → aw E mX7_breachIn Q 68 [] [] H_x35_68 0 0 := by
      intro s_x35_68 H_x35_68 h0 hs hm
      unfold gX7_breachIn_x35_68 at hm
      refine aw_b (pc' := 69) (lv' := []) (st' := [.int (-1 : Int32)]) [(68, .iconst (-1), 1, .int (-1 : Int32))] (by decide +kernel) rfl ?_
      obtain rfl := Option.some.inj hm
      subst hQ
      exact aw_iret rfl (Nat.zero_le _) (Nat.zero_le _) (by decide +kernel) ⟨rfl, hs, h0⟩
    have X35_60 : ∀ (v1_x35_60 : Int32) (s_x35_60 : st_) (H_x35_60 : Heap), has_ E H_x35_60 a ly_M s_x35_60 → sm_ H H_x35_60 a 119 → gX7_breachIn_x35_60 v1_x35_60 s_x35_60 = some r → aw E mX7_breachIn Q 60 [(1, .int v1_x35_60)] [] H_x35_60 0 0 := by
      intro v1_x35_60 s_x35_60 H_x35_60 h0 hs hm
      unfold gX7_breachIn_x35_60 at hm
      refine aw_b (pc' := 61) (lv' := [(1, .int v1_x35_60)]) (st' := [.int v1_x35_60]) [(60, .iload_n 1, 1, .null)] (by decide +kernel) rfl ?_
      obtain rfl := Option.some.inj hm
      subst hQ
      exact aw_iret rfl (Nat.zero_le _) (Nat.zero_le _) (by decide +kernel) ⟨rfl, hs, h0⟩
    have L35 : ∀ (fu : Nat) (v1_b35 : Int32) (s_b35 : st_) (H_b35 : Heap), has_ E H_b35 a ly_M s_b35 → sm_ H H_b35 a 119 → gX7_breachIn_l35 fu (v1_b35, s_b35) = some x35 → aw E mX7_breachIn Q 35 [(0, .ref a), (1, .int v1_b35)] [] H_b35 0 0 := by
      intro fu
      induction fu with
      | zero =>
        intro v1_b35 s_b35 H_b35 h0 hs hm
        exact (it_0 hm).elim
      | succ fu ih35 =>
        intro v1_b35 s_b35 H_b35 h0 hs hm
        obtain ⟨y35, hm, hk35⟩ := it_s hm
        have hm : gX7_breachIn_b35 v1_b35 s_b35 = some y35 := hm
        unfold gX7_breachIn_b35 at hm
        refine aw_b (pc' := 39) (lv' := [(0, .ref a), (1, .int v1_b35)]) (st' := [.int (200 : Int32), .int v1_b35]) [(35, .iload_n 1, 1, .null), (36, .sipush 200, 3, .int (200 : Int32))] (by decide +kernel) rfl ?_
        refine aw_ic_gt (off := 29) 68 (by decide) (by decide +kernel) (fun hc => ?_) (fun hc => ?_)
        · have hm := (if_pos hc).symm.trans hm
          cases hm
          refine aw_lv (lv' := []) [] rfl ?_
          exact X35_68 s_b35 H_b35 h0 hs ((congrArg gX7_breachIn_k35 (show (.inr s_b35) = x35 from hk35)).trans hr35)
        · have hm := (if_neg hc).symm.trans hm
          refine aw_b (pc' := 43) (lv' := [(0, .ref a), (1, .int v1_b35)]) (st' := [.ref a]) [(42, .aload_n 0, 1, .null)] (by decide +kernel) rfl ?_
          refine aw_gl (v := .ref (a + 83)) a 0 h0 eo_M_0 fgX7_37 rfl (by decide +kernel) ?_
          refine aw_b (pc' := 47) (lv' := [(0, .ref a), (1, .int v1_b35)]) (st' := [.int (1 : Int32), .ref (a + 83)]) [(46, .iconst 1, 1, .int (1 : Int32))] (by decide +kernel) rfl ?_
          obtain ⟨r7, e8, hm⟩ := bn_x hm
          refine aw_cv (rest := []) (st1 := []) a 83 (kX1_letPass e8 (h0.sub su_M_83_D) (Nat.le_trans hf (Nat.le_add_right _ _))) rfl rfl ckX1_letPass lkX7_375 h0 eo_M_83 ⟨_, _, rfl⟩ nkX1_letPass rfl rfl rfl (Nat.le_of_ble_eq_true rfl) (Nat.zero_le _) (Nat.zero_le _) (by decide +kernel) (fun H9 z10 => ?_)
          obtain ⟨z10, hn⟩ := z10
          obtain ⟨s11, e12, hm⟩ := bd_x hm
          have h0 := h0.mg su_M_83_D hn z10 rfl e12
          have hs := hs.step z10 (by omega) (by omega)
          refine aw_b (pc' := 51) (lv' := [(0, .ref a), (1, .int v1_b35)]) (st' := [.ref a]) [(50, .aload_n 0, 1, .null)] (by decide +kernel) rfl ?_
          refine aw_gl (v := .ref (a + 83)) a 0 h0 eo_M_0 fgX7_37 rfl (by decide +kernel) ?_
          obtain ⟨r13, e14, hm⟩ := bn_x hm
          refine aw_cv (rest := []) (st1 := [.int r13]) a 83 (kX1_isBreach e14 (h0.sub su_M_83_D)) rfl rfl ckX1_isBreach lkX7_359 h0 eo_M_83 ⟨_, _, rfl⟩ nkX1_isBreach rfl rfl rfl (Nat.le_of_ble_eq_true rfl) (Nat.zero_le _) (Nat.zero_le _) (by decide +kernel) (fun H15 z16 => ?_)
          have h0 := h0.kept0 z16
          have hs := hs.step0 z16
          refine aw_if_eq (off := 5) 62 (by decide) (by decide +kernel) (fun hc => ?_) (fun hc => ?_)
          · have hm := (if_pos hc).symm.trans hm
            refine aw_b (pc' := 35) (lv' := [(1, .int (v1_b35 + (1 : Int32))), (0, .ref a)]) (st' := []) [(62, .iinc 1 1, 3, .int (1 : Int32)), (65, .goto (-30), 3, .null)] (by decide +kernel) rfl ?_
            cases hm
            refine aw_lv (lv' := [(0, .ref a), (1, .int (v1_b35 + (1 : Int32)))]) [1, 0] rfl ?_
            exact ih35 (v1_b35 + (1 : Int32)) s11 H15 h0 hs hk35
          · have hm := (if_neg hc).symm.trans hm
            cases hm
            refine aw_lv (lv' := [(1, .int v1_b35)]) [1] rfl ?_
            exact X35_60 v1_b35 s11 H15 h0 hs ((congrArg gX7_breachIn_k35 (show (.inl (v1_b35, s11)) = x35 from hk35)).trans hr35)
    refine aw_lv (lv' := [(0, .ref a), (1, .int (1 : Int32))]) [1, 0] rfl ?_
    exact L35 FU_ (1 : Int32) s5 H3 h0 hs hx35
  · have hm := (if_pos hc).symm.trans hm
    refine aw_b (pc' := 18) (lv' := [(0, .ref a)]) (st' := [.int (-1 : Int32)]) [(17, .iconst (-1), 1, .int (-1 : Int32))] (by decide +kernel) rfl ?_
    obtain rfl := Option.some.inj hm
    subst hQ
    exact aw_iret rfl (Nat.zero_le _) (Nat.zero_le _) (by decide +kernel) ⟨rfl, hs, h0⟩
def mX7_regretKeeping : mt_ := (yX7_regretKeeping, cX7_regretKeeping, 3, some .int, [], { frames := 6, locals := 147, cells := 0, slots := 0 })
theorem ckX7_regretKeeping : cokV_ mX7_regretKeeping := ⟨⟨(uw_mem 1404 (by decide +kernel) (by decide +kernel)), (uw_mem 29 (by decide +kernel) (by decide +kernel)), by decide +kernel, by decide +kernel⟩, (uw_mem 1402 (by decide +kernel) (by decide +kernel)), (uw_mem 1403 (by decide +kernel) (by decide +kernel))⟩
theorem nkX7_regretKeeping : nok_ mX7_regretKeeping 2 := by decide +kernel
theorem su_M_84_S : sub_ ly_M 84 ly_S := sub_of rfl
theorem eo_M_84 : eo_ ly_M 84 5 fsX5 := rfl
def gX7_regretKeeping (s : st_) (i0 : Int32) (i1 : Int32) : Option (st_ × Int32) :=
  bn_ (gX7_requireRule s i0) fun r1 =>
  bn_ (gX7_requireWithin i1 (1 : Int32) (200 : Int32)) fun r5 =>
  bn_ (fX1_copyFrom (sb_ s 83) (sb_ s 9)) fun r9 =>
  bd_ (mg_ s 83 33 r9) fun s13 =>
  bn_ (fX5_takeMaster (sb_ s13 84) (2 : Int32) i0) fun r15 =>
  bd_ (mg_ s13 84 4 r15) fun s19 =>
  bn_ (fX1_letPass (sb_ s19 83) i1) fun r21 =>
  bd_ (mg_ s19 83 33 r21) fun s25 =>
  bn_ (fX1_regretNow (sb_ s25 83)) fun r27 =>
  some (s25, r27)
theorem kX7_regretKeeping {E : ev_} {H : Heap} {a : Nat} {s : st_} {i0 : Int32} {i1 : Int32} {r : st_ × Int32} (hm : gX7_regretKeeping s i0 i1 = some r) (h0 : has_ E H a ly_M s) (hf : ev_fr E a) : sp_ E mX7_regretKeeping [.ref a, .int i0, .int i1] H (po1 (.inl (some (.int r.2))) (fun Hn => sm_ H Hn a 119 ∧ has_ E Hn a ly_M r.1)) := by
  refine sp_of (by decide +kernel) rfl rfl ?_
  generalize hQ : po1 _ _ = Q
  have hs : sm_ H H a 119 := sm_.rfl'
  unfold gX7_regretKeeping at hm
  refine aw_lv (lv' := [(0, .ref a), (1, .int i0), (2, .int i1)]) [0, 1, 2] rfl ?_
  refine aw_b (pc' := 2) (lv' := [(0, .ref a), (1, .int i0), (2, .int i1)]) (st' := [.int i0, .ref a]) [(0, .aload_n 0, 1, .null), (1, .iload_n 1, 1, .null)] (by decide +kernel) rfl ?_
  obtain ⟨r1, e2, hm⟩ := bn_x hm
  refine aw_cv (rest := []) (st1 := []) a 0 (kX7_requireRule e2 h0) rfl rfl ckX7_requireRule lkX7_138 h0 eo_M_0 ⟨_, _, rfl⟩ nkX7_requireRule rfl rfl rfl (Nat.le_of_ble_eq_true rfl) (Nat.zero_le _) (Nat.zero_le _) (by decide +kernel) (fun H3 z4 => ?_)
  have h0 := h0.kept0 z4
  have hs := hs.step0 z4
  refine aw_b (pc' := 10) (lv' := [(0, .ref a), (1, .int i0), (2, .int i1)]) (st' := [.int (200 : Int32), .int (1 : Int32), .int i1]) [(5, .iload_n 2, 1, .null), (6, .iconst 1, 1, .int (1 : Int32)), (7, .sipush 200, 3, .int (200 : Int32))] (by decide +kernel) rfl ?_
  obtain ⟨r5, e6, hm⟩ := bn_x hm
  refine aw_cs (rest := []) (st1 := []) (kX7_requireWithin e6) rfl rfl ckX7_requireWithin lkX7_196 nkX7_requireWithin rfl rfl rfl (Nat.le_of_ble_eq_true rfl) (Nat.zero_le _) (Nat.zero_le _) (by decide +kernel) (fun H7 z8 => ?_)
  have h0 := h0.kept0 z8
  have hs := hs.step0 z8
  refine aw_b (pc' := 14) (lv' := [(0, .ref a), (1, .int i0), (2, .int i1)]) (st' := [.ref a]) [(13, .aload_n 0, 1, .null)] (by decide +kernel) rfl ?_
  refine aw_gl (v := .ref (a + 83)) a 0 h0 eo_M_0 fgX7_37 rfl (by decide +kernel) ?_
  refine aw_b (pc' := 18) (lv' := [(0, .ref a), (1, .int i0), (2, .int i1)]) (st' := [.ref a, .ref (a + 83)]) [(17, .aload_n 0, 1, .null)] (by decide +kernel) rfl ?_
  refine aw_gl (v := .ref (a + 8)) a 0 h0 eo_M_0 fgX7_30 rfl (by decide +kernel) ?_
  refine aw_gl (v := .ref (a + 9)) a 8 h0 eo_M_8 fgX7_80 rfl (by decide +kernel) ?_
  obtain ⟨r9, e10, hm⟩ := bn_x hm
  refine aw_cv (rest := []) (st1 := []) a 83 (kX1_copyFrom e10 (h0.sub su_M_83_D) (h0.sub su_M_9_D) (Nat.le_trans hf (Nat.le_add_right _ _)) (by omega)) rfl rfl ckX1_copyFrom lkX7_371 h0 eo_M_83 ⟨_, _, rfl⟩ nkX1_copyFrom rfl rfl rfl (Nat.le_of_ble_eq_true rfl) (Nat.zero_le _) (Nat.zero_le _) (by decide +kernel) (fun H11 z12 => ?_)
  obtain ⟨z12, hn⟩ := z12
  obtain ⟨s13, e14, hm⟩ := bd_x hm
  have h0 := h0.mg su_M_83_D hn z12 rfl e14
  have hs := hs.step z12 (by omega) (by omega)
  refine aw_b (pc' := 28) (lv' := [(0, .ref a), (1, .int i0), (2, .int i1)]) (st' := [.ref a]) [(27, .aload_n 0, 1, .null)] (by decide +kernel) rfl ?_
  refine aw_gl (v := .ref (a + 83)) a 0 h0 eo_M_0 fgX7_37 rfl (by decide +kernel) ?_
  refine aw_gl (v := .ref (a + 84)) a 83 h0 eo_M_83 fgX7_83 rfl (by decide +kernel) ?_
  refine aw_b (pc' := 36) (lv' := [(0, .ref a), (1, .int i0), (2, .int i1)]) (st' := [.int i0, .int (2 : Int32), .ref (a + 84)]) [(34, .iconst 2, 1, .int (2 : Int32)), (35, .iload_n 1, 1, .null)] (by decide +kernel) rfl ?_
  obtain ⟨r15, e16, hm⟩ := bn_x hm
  refine aw_cv (rest := []) (st1 := []) a 84 (kX5_takeMaster e16 (h0.sub su_M_84_S) (Nat.le_trans hf (Nat.le_add_right _ _))) rfl rfl ckX5_takeMaster lkX7_200 h0 eo_M_84 ⟨_, _, rfl⟩ nkX5_takeMaster rfl rfl rfl (Nat.le_of_ble_eq_true rfl) (Nat.zero_le _) (Nat.zero_le _) (by decide +kernel) (fun H17 z18 => ?_)
  obtain ⟨z18, hn⟩ := z18
  obtain ⟨s19, e20, hm⟩ := bd_x hm
  have h0 := h0.mg su_M_84_S hn z18 rfl e20
  have hs := hs.step z18 (by omega) (by omega)
  refine aw_b (pc' := 40) (lv' := [(0, .ref a), (1, .int i0), (2, .int i1)]) (st' := [.ref a]) [(39, .aload_n 0, 1, .null)] (by decide +kernel) rfl ?_
  refine aw_gl (v := .ref (a + 83)) a 0 h0 eo_M_0 fgX7_37 rfl (by decide +kernel) ?_
  refine aw_b (pc' := 44) (lv' := [(0, .ref a), (1, .int i0), (2, .int i1)]) (st' := [.int i1, .ref (a + 83)]) [(43, .iload_n 2, 1, .null)] (by decide +kernel) rfl ?_
  obtain ⟨r21, e22, hm⟩ := bn_x hm
  refine aw_cv (rest := []) (st1 := []) a 83 (kX1_letPass e22 (h0.sub su_M_83_D) (Nat.le_trans hf (Nat.le_add_right _ _))) rfl rfl ckX1_letPass lkX7_375 h0 eo_M_83 ⟨_, _, rfl⟩ nkX1_letPass rfl rfl rfl (Nat.le_of_ble_eq_true rfl) (Nat.zero_le _) (Nat.zero_le _) (by decide +kernel) (fun H23 z24 => ?_)
  obtain ⟨z24, hn⟩ := z24
  obtain ⟨s25, e26, hm⟩ := bd_x hm
  have h0 := h0.mg su_M_83_D hn z24 rfl e26
  have hs := hs.step z24 (by omega) (by omega)
  refine aw_b (pc' := 48) (lv' := [(0, .ref a), (1, .int i0), (2, .int i1)]) (st' := [.ref a]) [(47, .aload_n 0, 1, .null)] (by decide +kernel) rfl ?_
  refine aw_gl (v := .ref (a + 83)) a 0 h0 eo_M_0 fgX7_37 rfl (by decide +kernel) ?_
  obtain ⟨r27, e28, hm⟩ := bn_x hm
  refine aw_cv (rest := []) (st1 := [.int r27]) a 83 (kX1_regretNow e28 (h0.sub su_M_83_D)) rfl rfl ckX1_regretNow lkX7_272 h0 eo_M_83 ⟨_, _, rfl⟩ nkX1_regretNow rfl rfl rfl (Nat.le_of_ble_eq_true rfl) (Nat.zero_le _) (Nat.zero_le _) (by decide +kernel) (fun H29 z30 => ?_)
  have h0 := h0.kept0 z30
  have hs := hs.step0 z30
  obtain rfl := Option.some.inj hm
  subst hQ
  exact aw_iret rfl (Nat.zero_le _) (Nat.zero_le _) (by decide +kernel) ⟨rfl, hs, h0⟩
def mX7_regretAgainst : mt_ := (yX7_regretAgainst, cX7_regretAgainst, 3, some .int, [], { frames := 6, locals := 147, cells := 0, slots := 0 })
theorem ckX7_regretAgainst : cokV_ mX7_regretAgainst := ⟨⟨(uw_mem 1408 (by decide +kernel) (by decide +kernel)), (uw_mem 29 (by decide +kernel) (by decide +kernel)), by decide +kernel, by decide +kernel⟩, (uw_mem 1406 (by decide +kernel) (by decide +kernel)), (uw_mem 1407 (by decide +kernel) (by decide +kernel))⟩
theorem nkX7_regretAgainst : nok_ mX7_regretAgainst 2 := by decide +kernel
def gX7_regretAgainst (s : st_) (i0 : Int32) (i1 : Int32) : Option (st_ × Int32) :=
  bn_ (gX7_requireWithin i0 (0 : Int32) (5 : Int32)) fun r1 =>
  bn_ (gX7_requireWithin i1 (1 : Int32) (200 : Int32)) fun r5 =>
  bn_ (fX1_copyFrom (sb_ s 83) (sb_ s 9)) fun r9 =>
  bd_ (mg_ s 83 33 r9) fun s13 =>
  bd_ (pt_ s13 84 11 i0) fun s15 =>
  bn_ (fX1_letPass (sb_ s15 83) i1) fun r19 =>
  bd_ (mg_ s15 83 33 r19) fun s23 =>
  bn_ (fX1_regretNow (sb_ s23 83)) fun r25 =>
  some (s23, r25)
theorem kX7_regretAgainst {E : ev_} {H : Heap} {a : Nat} {s : st_} {i0 : Int32} {i1 : Int32} {r : st_ × Int32} (hm : gX7_regretAgainst s i0 i1 = some r) (h0 : has_ E H a ly_M s) (hf : ev_fr E a) : sp_ E mX7_regretAgainst [.ref a, .int i0, .int i1] H (po1 (.inl (some (.int r.2))) (fun Hn => sm_ H Hn a 119 ∧ has_ E Hn a ly_M r.1)) := by
  refine sp_of (by decide +kernel) rfl rfl ?_
  generalize hQ : po1 _ _ = Q
  have hs : sm_ H H a 119 := sm_.rfl'
  unfold gX7_regretAgainst at hm
  refine aw_lv (lv' := [(0, .ref a), (1, .int i0), (2, .int i1)]) [0, 1, 2] rfl ?_
  refine aw_b (pc' := 3) (lv' := [(0, .ref a), (1, .int i0), (2, .int i1)]) (st' := [.int (5 : Int32), .int (0 : Int32), .int i0]) [(0, .iload_n 1, 1, .null), (1, .iconst 0, 1, .int (0 : Int32)), (2, .iconst 5, 1, .int (5 : Int32))] (by decide +kernel) rfl ?_
  obtain ⟨r1, e2, hm⟩ := bn_x hm
  refine aw_cs (rest := []) (st1 := []) (kX7_requireWithin e2) rfl rfl ckX7_requireWithin lkX7_196 nkX7_requireWithin rfl rfl rfl (Nat.le_of_ble_eq_true rfl) (Nat.zero_le _) (Nat.zero_le _) (by decide +kernel) (fun H3 z4 => ?_)
  have h0 := h0.kept0 z4
  have hs := hs.step0 z4
  refine aw_b (pc' := 11) (lv' := [(0, .ref a), (1, .int i0), (2, .int i1)]) (st' := [.int (200 : Int32), .int (1 : Int32), .int i1]) [(6, .iload_n 2, 1, .null), (7, .iconst 1, 1, .int (1 : Int32)), (8, .sipush 200, 3, .int (200 : Int32))] (by decide +kernel) rfl ?_
  obtain ⟨r5, e6, hm⟩ := bn_x hm
  refine aw_cs (rest := []) (st1 := []) (kX7_requireWithin e6) rfl rfl ckX7_requireWithin lkX7_196 nkX7_requireWithin rfl rfl rfl (Nat.le_of_ble_eq_true rfl) (Nat.zero_le _) (Nat.zero_le _) (by decide +kernel) (fun H7 z8 => ?_)
  have h0 := h0.kept0 z8
  have hs := hs.step0 z8
  refine aw_b (pc' := 15) (lv' := [(0, .ref a), (1, .int i0), (2, .int i1)]) (st' := [.ref a]) [(14, .aload_n 0, 1, .null)] (by decide +kernel) rfl ?_
  refine aw_gl (v := .ref (a + 83)) a 0 h0 eo_M_0 fgX7_37 rfl (by decide +kernel) ?_
  refine aw_b (pc' := 19) (lv' := [(0, .ref a), (1, .int i0), (2, .int i1)]) (st' := [.ref a, .ref (a + 83)]) [(18, .aload_n 0, 1, .null)] (by decide +kernel) rfl ?_
  refine aw_gl (v := .ref (a + 8)) a 0 h0 eo_M_0 fgX7_30 rfl (by decide +kernel) ?_
  refine aw_gl (v := .ref (a + 9)) a 8 h0 eo_M_8 fgX7_80 rfl (by decide +kernel) ?_
  obtain ⟨r9, e10, hm⟩ := bn_x hm
  refine aw_cv (rest := []) (st1 := []) a 83 (kX1_copyFrom e10 (h0.sub su_M_83_D) (h0.sub su_M_9_D) (Nat.le_trans hf (Nat.le_add_right _ _)) (by omega)) rfl rfl ckX1_copyFrom lkX7_371 h0 eo_M_83 ⟨_, _, rfl⟩ nkX1_copyFrom rfl rfl rfl (Nat.le_of_ble_eq_true rfl) (Nat.zero_le _) (Nat.zero_le _) (by decide +kernel) (fun H11 z12 => ?_)
  obtain ⟨z12, hn⟩ := z12
  obtain ⟨s13, e14, hm⟩ := bd_x hm
  have h0 := h0.mg su_M_83_D hn z12 rfl e14
  have hs := hs.step z12 (by omega) (by omega)
  refine aw_b (pc' := 29) (lv' := [(0, .ref a), (1, .int i0), (2, .int i1)]) (st' := [.ref a]) [(28, .aload_n 0, 1, .null)] (by decide +kernel) rfl ?_
  refine aw_gl (v := .ref (a + 83)) a 0 h0 eo_M_0 fgX7_37 rfl (by decide +kernel) ?_
  refine aw_gl (v := .ref (a + 84)) a 83 h0 eo_M_83 fgX7_83 rfl (by decide +kernel) ?_
  refine aw_b (pc' := 36) (lv' := [(0, .ref a), (1, .int i0), (2, .int i1)]) (st' := [.int i0, .ref (a + 84)]) [(35, .iload_n 1, 1, .null)] (by decide +kernel) rfl ?_
  obtain ⟨s15, e16, hm⟩ := bd_x hm
  refine aw_pl a 84 h0 eo_M_84 fsq_5_11 fpX7_113 hf rfl rfl e16 (by decide +kernel) (fun H17 h0 z18 => ?_)
  have hs := hs.step z18 (by omega) (by omega)
  refine aw_b (pc' := 40) (lv' := [(0, .ref a), (1, .int i0), (2, .int i1)]) (st' := [.ref a]) [(39, .aload_n 0, 1, .null)] (by decide +kernel) rfl ?_
  refine aw_gl (v := .ref (a + 83)) a 0 h0 eo_M_0 fgX7_37 rfl (by decide +kernel) ?_
  refine aw_b (pc' := 44) (lv' := [(0, .ref a), (1, .int i0), (2, .int i1)]) (st' := [.int i1, .ref (a + 83)]) [(43, .iload_n 2, 1, .null)] (by decide +kernel) rfl ?_
  obtain ⟨r19, e20, hm⟩ := bn_x hm
  refine aw_cv (rest := []) (st1 := []) a 83 (kX1_letPass e20 (h0.sub su_M_83_D) (Nat.le_trans hf (Nat.le_add_right _ _))) rfl rfl ckX1_letPass lkX7_375 h0 eo_M_83 ⟨_, _, rfl⟩ nkX1_letPass rfl rfl rfl (Nat.le_of_ble_eq_true rfl) (Nat.zero_le _) (Nat.zero_le _) (by decide +kernel) (fun H21 z22 => ?_)
  obtain ⟨z22, hn⟩ := z22
  obtain ⟨s23, e24, hm⟩ := bd_x hm
  have h0 := h0.mg su_M_83_D hn z22 rfl e24
  have hs := hs.step z22 (by omega) (by omega)
  refine aw_b (pc' := 48) (lv' := [(0, .ref a), (1, .int i0), (2, .int i1)]) (st' := [.ref a]) [(47, .aload_n 0, 1, .null)] (by decide +kernel) rfl ?_
  refine aw_gl (v := .ref (a + 83)) a 0 h0 eo_M_0 fgX7_37 rfl (by decide +kernel) ?_
  obtain ⟨r25, e26, hm⟩ := bn_x hm
  refine aw_cv (rest := []) (st1 := [.int r25]) a 83 (kX1_regretNow e26 (h0.sub su_M_83_D)) rfl rfl ckX1_regretNow lkX7_272 h0 eo_M_83 ⟨_, _, rfl⟩ nkX1_regretNow rfl rfl rfl (Nat.le_of_ble_eq_true rfl) (Nat.zero_le _) (Nat.zero_le _) (by decide +kernel) (fun H27 z28 => ?_)
  have h0 := h0.kept0 z28
  have hs := hs.step0 z28
  obtain rfl := Option.some.inj hm
  subst hQ
  exact aw_iret rfl (Nat.zero_le _) (Nat.zero_le _) (by decide +kernel) ⟨rfl, hs, h0⟩
def mX7_rivalIn : mt_ := (yX7_rivalIn, cX7_rivalIn, 2, some .int, [], { frames := 6, locals := 147, cells := 0, slots := 0 })
theorem ckX7_rivalIn : cokV_ mX7_rivalIn := ⟨⟨(uw_mem 1432 (by decide +kernel) (by decide +kernel)), (uw_mem 29 (by decide +kernel) (by decide +kernel)), by decide +kernel, by decide +kernel⟩, (uw_mem 1430 (by decide +kernel) (by decide +kernel)), (uw_mem 1431 (by decide +kernel) (by decide +kernel))⟩
theorem nkX7_rivalIn : nok_ mX7_rivalIn 1 := by decide +kernel
theorem eo_M_88 : eo_ ly_M 88 0 fsX0 := rfl
theorem eo_M_91 : eo_ ly_M 91 0 fsX0 := rfl
def gX7_rivalIn (s : st_) (i0 : Int32) : Option (st_ × Int32) :=
  bn_ (gX7_requireWithin i0 (1 : Int32) (200 : Int32)) fun r1 =>
  bn_ (fX5_hasRival (sb_ s 10)) fun r5 =>
  if r5 = (0 : Int32) then (some (s, (-2000000000 : Int32)))
  else (bn_ (fX1_copyFrom (sb_ s 83) (sb_ s 9)) fun r9 =>
  bd_ (mg_ s 83 33 r9) fun s13 =>
  bn_ (fX1_letPass (sb_ s13 83) i0) fun r15 =>
  bd_ (mg_ s13 83 33 r15) fun s19 =>
  some (s19, ((s19 88 5) - (s19 91 5))))
theorem kX7_rivalIn {E : ev_} {H : Heap} {a : Nat} {s : st_} {i0 : Int32} {r : st_ × Int32} (hm : gX7_rivalIn s i0 = some r) (h0 : has_ E H a ly_M s) (hf : ev_fr E a) : sp_ E mX7_rivalIn [.ref a, .int i0] H (po1 (.inl (some (.int r.2))) (fun Hn => sm_ H Hn a 119 ∧ has_ E Hn a ly_M r.1)) := by
  refine sp_of (by decide +kernel) rfl rfl ?_
  generalize hQ : po1 _ _ = Q
  have hs : sm_ H H a 119 := sm_.rfl'
  unfold gX7_rivalIn at hm
  refine aw_lv (lv' := [(0, .ref a), (1, .int i0)]) [0, 1] rfl ?_
  refine aw_b (pc' := 5) (lv' := [(0, .ref a), (1, .int i0)]) (st' := [.int (200 : Int32), .int (1 : Int32), .int i0]) [(0, .iload_n 1, 1, .null), (1, .iconst 1, 1, .int (1 : Int32)), (2, .sipush 200, 3, .int (200 : Int32))] (by decide +kernel) rfl ?_
  obtain ⟨r1, e2, hm⟩ := bn_x hm
  refine aw_cs (rest := []) (st1 := []) (kX7_requireWithin e2) rfl rfl ckX7_requireWithin lkX7_196 nkX7_requireWithin rfl rfl rfl (Nat.le_of_ble_eq_true rfl) (Nat.zero_le _) (Nat.zero_le _) (by decide +kernel) (fun H3 z4 => ?_)
  have h0 := h0.kept0 z4
  have hs := hs.step0 z4
  refine aw_b (pc' := 9) (lv' := [(0, .ref a), (1, .int i0)]) (st' := [.ref a]) [(8, .aload_n 0, 1, .null)] (by decide +kernel) rfl ?_
  refine aw_gl (v := .ref (a + 8)) a 0 h0 eo_M_0 fgX7_30 rfl (by decide +kernel) ?_
  refine aw_gl (v := .ref (a + 9)) a 8 h0 eo_M_8 fgX7_80 rfl (by decide +kernel) ?_
  refine aw_gl (v := .ref (a + 10)) a 9 h0 eo_M_9 fgX7_83 rfl (by decide +kernel) ?_
  obtain ⟨r5, e6, hm⟩ := bn_x hm
  refine aw_cv (rest := []) (st1 := [.int r5]) a 10 (kX5_hasRival e6 (h0.sub su_M_10_S)) rfl rfl ckX5_hasRival lkX7_299 h0 eo_M_10 ⟨_, _, rfl⟩ nkX5_hasRival rfl rfl rfl (Nat.le_of_ble_eq_true rfl) (Nat.zero_le _) (Nat.zero_le _) (by decide +kernel) (fun H7 z8 => ?_)
  have h0 := h0.kept0 z8
  have hs := hs.step0 z8
  refine aw_if_ne (off := 7) 28 (by decide) (by decide +kernel) (fun hc => ?_) (fun hc => ?_)
  · have hm := (if_neg hc).symm.trans hm
    refine aw_b (pc' := 29) (lv' := [(0, .ref a), (1, .int i0)]) (st' := [.ref a]) [(28, .aload_n 0, 1, .null)] (by decide +kernel) rfl ?_
    refine aw_gl (v := .ref (a + 83)) a 0 h0 eo_M_0 fgX7_37 rfl (by decide +kernel) ?_
    refine aw_b (pc' := 33) (lv' := [(0, .ref a), (1, .int i0)]) (st' := [.ref a, .ref (a + 83)]) [(32, .aload_n 0, 1, .null)] (by decide +kernel) rfl ?_
    refine aw_gl (v := .ref (a + 8)) a 0 h0 eo_M_0 fgX7_30 rfl (by decide +kernel) ?_
    refine aw_gl (v := .ref (a + 9)) a 8 h0 eo_M_8 fgX7_80 rfl (by decide +kernel) ?_
    obtain ⟨r9, e10, hm⟩ := bn_x hm
    refine aw_cv (rest := []) (st1 := []) a 83 (kX1_copyFrom e10 (h0.sub su_M_83_D) (h0.sub su_M_9_D) (Nat.le_trans hf (Nat.le_add_right _ _)) (by omega)) rfl rfl ckX1_copyFrom lkX7_371 h0 eo_M_83 ⟨_, _, rfl⟩ nkX1_copyFrom rfl rfl rfl (Nat.le_of_ble_eq_true rfl) (Nat.zero_le _) (Nat.zero_le _) (by decide +kernel) (fun H11 z12 => ?_)
    obtain ⟨z12, hn⟩ := z12
    obtain ⟨s13, e14, hm⟩ := bd_x hm
    have h0 := h0.mg su_M_83_D hn z12 rfl e14
    have hs := hs.step z12 (by omega) (by omega)
    refine aw_b (pc' := 43) (lv' := [(0, .ref a), (1, .int i0)]) (st' := [.ref a]) [(42, .aload_n 0, 1, .null)] (by decide +kernel) rfl ?_
    refine aw_gl (v := .ref (a + 83)) a 0 h0 eo_M_0 fgX7_37 rfl (by decide +kernel) ?_
    refine aw_b (pc' := 47) (lv' := [(0, .ref a), (1, .int i0)]) (st' := [.int i0, .ref (a + 83)]) [(46, .iload_n 1, 1, .null)] (by decide +kernel) rfl ?_
    obtain ⟨r15, e16, hm⟩ := bn_x hm
    refine aw_cv (rest := []) (st1 := []) a 83 (kX1_letPass e16 (h0.sub su_M_83_D) (Nat.le_trans hf (Nat.le_add_right _ _))) rfl rfl ckX1_letPass lkX7_375 h0 eo_M_83 ⟨_, _, rfl⟩ nkX1_letPass rfl rfl rfl (Nat.le_of_ble_eq_true rfl) (Nat.zero_le _) (Nat.zero_le _) (by decide +kernel) (fun H17 z18 => ?_)
    obtain ⟨z18, hn⟩ := z18
    obtain ⟨s19, e20, hm⟩ := bd_x hm
    have h0 := h0.mg su_M_83_D hn z18 rfl e20
    have hs := hs.step z18 (by omega) (by omega)
    refine aw_b (pc' := 51) (lv' := [(0, .ref a), (1, .int i0)]) (st' := [.ref a]) [(50, .aload_n 0, 1, .null)] (by decide +kernel) rfl ?_
    refine aw_gl (v := .ref (a + 83)) a 0 h0 eo_M_0 fgX7_37 rfl (by decide +kernel) ?_
    refine aw_gl (v := .ref (a + 88)) a 83 h0 eo_M_83 fgX7_189 rfl (by decide +kernel) ?_
    refine aw_gl (v := .int (s19 88 5)) a 88 h0 eo_M_88 fgX7_166 rfl (by decide +kernel) ?_
    refine aw_b (pc' := 61) (lv' := [(0, .ref a), (1, .int i0)]) (st' := [.ref a, .int (s19 88 5)]) [(60, .aload_n 0, 1, .null)] (by decide +kernel) rfl ?_
    refine aw_gl (v := .ref (a + 83)) a 0 h0 eo_M_0 fgX7_37 rfl (by decide +kernel) ?_
    refine aw_gl (v := .ref (a + 91)) a 83 h0 eo_M_83 fgX7_306 rfl (by decide +kernel) ?_
    refine aw_gl (v := .int (s19 91 5)) a 91 h0 eo_M_91 fgX7_166 rfl (by decide +kernel) ?_
    refine aw_b (pc' := 71) (lv' := [(0, .ref a), (1, .int i0)]) (st' := [.int ((s19 88 5) - (s19 91 5))]) [(70, .isub, 1, .null)] (by decide +kernel) rfl ?_
    obtain rfl := Option.some.inj hm
    subst hQ
    exact aw_iret rfl (Nat.zero_le _) (Nat.zero_le _) (by decide +kernel) ⟨rfl, hs, h0⟩
  · have hm := (if_pos hc).symm.trans hm
    refine aw_ldcw (v := (-2000000000 : Int32)) kwX7_302 (by decide +kernel) ?_
    obtain rfl := Option.some.inj hm
    subst hQ
    exact aw_iret rfl (Nat.zero_le _) (Nat.zero_le _) (by decide +kernel) ⟨rfl, hs, h0⟩
def mX7_saveSnapshot : mt_ := (yX7_saveSnapshot, cX7_saveSnapshot, 2, some .int, [], { frames := 4, locals := 112, cells := 0, slots := 0 })
theorem ckX7_saveSnapshot : cokV_ mX7_saveSnapshot := ⟨⟨(uw_mem 1459 (by decide +kernel) (by decide +kernel)), (uw_mem 29 (by decide +kernel) (by decide +kernel)), by decide +kernel, by decide +kernel⟩, (uw_mem 1457 (by decide +kernel) (by decide +kernel)), (uw_mem 1458 (by decide +kernel) (by decide +kernel))⟩
theorem nkX7_saveSnapshot : nok_ mX7_saveSnapshot 1 := by decide +kernel
theorem fgX7_48 : fok_ RX7 48 7 7 := ⟨_, _, _, rfl, by decide, (uw_mem 472 (by decide +kernel) (by decide +kernel)), wkX7⟩
def mX7_restoreSnapshot : mt_ := (yX7_restoreSnapshot, cX7_restoreSnapshot, 2, some .int, [], { frames := 4, locals := 112, cells := 0, slots := 0 })
theorem ckX7_restoreSnapshot : cokV_ mX7_restoreSnapshot := ⟨⟨(uw_mem 1473 (by decide +kernel) (by decide +kernel)), (uw_mem 29 (by decide +kernel) (by decide +kernel)), by decide +kernel, by decide +kernel⟩, (uw_mem 1471 (by decide +kernel) (by decide +kernel)), (uw_mem 1472 (by decide +kernel) (by decide +kernel))⟩
theorem nkX7_restoreSnapshot : nok_ mX7_restoreSnapshot 1 := by decide +kernel
