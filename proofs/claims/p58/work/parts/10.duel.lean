/-! mirrors of methods, and that the methods do as they say: printed by wip/whole/gen_parts.py out of the listing -/
def mX1_resetWeights : mt_ := (yX1_resetWeights, cX1_resetWeights, 2, none, [], { frames := 0, locals := 0, cells := 0, slots := 0 })
theorem ckX1_resetWeights : cokV_ mX1_resetWeights := ⟨⟨(uw_mem 459 (by decide +kernel) (by decide +kernel)), (uw_mem 33 (by decide +kernel) (by decide +kernel)), by decide +kernel, by decide +kernel⟩, (uw_mem 457 (by decide +kernel) (by decide +kernel)), (uw_mem 458 (by decide +kernel) (by decide +kernel))⟩
theorem nkX1_resetWeights : nok_ mX1_resetWeights 0 := by decide +kernel
theorem fgX1_32 : fok_ RX1 32 1 4 := ⟨_, _, _, rfl, by decide, (uw_mem 290 (by decide +kernel) (by decide +kernel)), wkX1⟩
theorem eo_D_0 : eo_ ly_D 0 1 fsX1 := rfl
theorem kwX1_90 : Cond.constant RX1 90 (1000000 : Int32) ∈ uw_ := (uw_mem 460 (by decide +kernel) (by decide +kernel))
theorem kX1_resetWeights {E : ev_} {H : Heap} {a : Nat} {s : st_} {r : st_} (hm : fX1_resetWeights s = some r) (h0 : has_ E H a ly_D s) (hf : ev_fr E a) : sp_ E mX1_resetWeights [.ref a] H (po1 (.inl (none)) (fun Hn => sm_ H Hn a 33 ∧ has_ E Hn a ly_D r)) := by
  refine sp_of (by decide +kernel) rfl rfl ?_
  generalize hQ : po1 _ _ = Q
  have hs : sm_ H H a 33 := sm_.rfl'
  unfold fX1_resetWeights at hm
  refine aw_lv (lv' := [(0, .ref a)]) [0] rfl ?_
  refine aw_b (pc' := 2) (lv' := [(1, .int (0 : Int32)), (0, .ref a)]) (st' := []) [(0, .iconst 0, 1, .int (0 : Int32)), (1, .istore_n 1, 1, .null)] (by decide +kernel) rfl ?_
  obtain ⟨x2, hx2, hr2⟩ := bn_x hm
  have X2_25 : ∀ (s_x2_25 : st_) (H_x2_25 : Heap), has_ E H_x2_25 a ly_D s_x2_25 → sm_ H H_x2_25 a 33 → fX1_resetWeights_x2_25 s_x2_25 = some r → aw E mX1_resetWeights Q 25 [] [] H_x2_25 0 0 := by
    intro s_x2_25 H_x2_25 h0 hs hm
    unfold fX1_resetWeights_x2_25 at hm
    obtain rfl := Option.some.inj hm
    subst hQ
    exact aw_vret rfl (Nat.zero_le _) (Nat.zero_le _) (by decide +kernel) ⟨rfl, hs, h0⟩
  have L2 : ∀ (fu : Nat) (v1_b2 : Int32) (s_b2 : st_) (H_b2 : Heap), has_ E H_b2 a ly_D s_b2 → sm_ H H_b2 a 33 → fX1_resetWeights_l2 fu (v1_b2, s_b2) = some x2 → aw E mX1_resetWeights Q 2 [(0, .ref a), (1, .int v1_b2)] [] H_b2 0 0 := by
    intro fu
    induction fu with
    | zero =>
      intro v1_b2 s_b2 H_b2 h0 hs hm
      exact (it_0 hm).elim
    | succ fu ih2 =>
      intro v1_b2 s_b2 H_b2 h0 hs hm
      obtain ⟨y2, hm, hk2⟩ := it_s hm
      have hm : fX1_resetWeights_b2 v1_b2 s_b2 = some y2 := hm
      unfold fX1_resetWeights_b2 at hm
      refine aw_b (pc' := 4) (lv' := [(0, .ref a), (1, .int v1_b2)]) (st' := [.ref a, .int v1_b2]) [(2, .iload_n 1, 1, .null), (3, .aload_n 0, 1, .null)] (by decide +kernel) rfl ?_
      refine aw_gl (v := .ref (a + 12)) a 0 h0 eo_D_0 fgX1_32 rfl (by decide +kernel) ?_
      refine aw_all (ci := 0) (N := 6) (v := (6 : Int32)) a 12 h0 rfl (x := fun _ _ c => .inl c) (fun _ _ => rfl) rfl (by decide +kernel) (by decide +kernel) ?_
      refine aw_ic_ge (off := 17) 25 (by decide) (by decide +kernel) (fun hc => ?_) (fun hc => ?_)
      · have hm := (if_pos hc).symm.trans hm
        cases hm
        refine aw_lv (lv' := []) [] rfl ?_
        exact X2_25 s_b2 H_b2 h0 hs ((congrArg fX1_resetWeights_k2 (show (s_b2) = x2 from hk2)).trans hr2)
      · have hm := (if_neg hc).symm.trans hm
        refine aw_b (pc' := 12) (lv' := [(0, .ref a), (1, .int v1_b2)]) (st' := [.ref a]) [(11, .aload_n 0, 1, .null)] (by decide +kernel) rfl ?_
        refine aw_gl (v := .ref (a + 12)) a 0 h0 eo_D_0 fgX1_32 rfl (by decide +kernel) ?_
        refine aw_b (pc' := 16) (lv' := [(0, .ref a), (1, .int v1_b2)]) (st' := [.int v1_b2, .ref (a + 12)]) [(15, .iload_n 1, 1, .null)] (by decide +kernel) rfl ?_
        refine aw_ldc (v := (1000000 : Int32)) kwX1_90 (by decide +kernel) ?_
        obtain ⟨g1, hm⟩ := gd_x hm
        obtain ⟨s2, e3, hm⟩ := bd_x hm
        refine aw_isl a 12 h0 rfl hf g1 e3 (by decide +kernel) (fun H4 h0 z5 => ?_)
        have hs := hs.step z5 (by omega) (by omega)
        refine aw_b (pc' := 2) (lv' := [(1, .int (v1_b2 + (1 : Int32))), (0, .ref a)]) (st' := []) [(19, .iinc 1 1, 3, .int (1 : Int32)), (22, .goto (-20), 3, .null)] (by decide +kernel) rfl ?_
        cases hm
        refine aw_lv (lv' := [(0, .ref a), (1, .int (v1_b2 + (1 : Int32)))]) [1, 0] rfl ?_
        exact ih2 (v1_b2 + (1 : Int32)) s2 H4 h0 hs hk2
  refine aw_lv (lv' := [(0, .ref a), (1, .int (0 : Int32))]) [1, 0] rfl ?_
  exact L2 FU_ (0 : Int32) s H h0 hs hx2
def mX1_begin : mt_ := (yX1_begin, cX1_begin, 3, none, [], { frames := 2, locals := 69, cells := 0, slots := 0 })
theorem ckX1_begin : cokV_ mX1_begin := ⟨⟨(uw_mem 444 (by decide +kernel) (by decide +kernel)), (uw_mem 33 (by decide +kernel) (by decide +kernel)), by decide +kernel, by decide +kernel⟩, (uw_mem 442 (by decide +kernel) (by decide +kernel)), (uw_mem 443 (by decide +kernel) (by decide +kernel))⟩
theorem nkX1_begin : nok_ mX1_begin 1 := by decide +kernel
theorem fgX1_12 : fok_ RX1 12 1 0 := ⟨_, _, _, rfl, by decide, (uw_mem 279 (by decide +kernel) (by decide +kernel)), wkX1⟩
theorem lkX1_42 : Cond.methodLink RX1 42 yX5_copyFrom ∈ uw_ := (uw_mem 445 (by decide +kernel) (by decide +kernel))
theorem su_D_1_S : sub_ ly_D 1 ly_S := sub_of rfl
theorem eo_D_1 : eo_ ly_D 1 5 fsX5 := rfl
theorem fgX1_21 : fok_ RX1 21 1 1 := ⟨_, _, _, rfl, by decide, (uw_mem 282 (by decide +kernel) (by decide +kernel)), wkX1⟩
theorem fgX1_46 : fok_ RX1 46 5 1 := ⟨_, _, _, rfl, by decide, (uw_mem 79 (by decide +kernel) (by decide +kernel)), wkX5⟩
theorem lkX1_50 : Cond.methodLink RX1 50 yX0_begin ∈ uw_ := (uw_mem 452 (by decide +kernel) (by decide +kernel))
theorem su_D_5_A : sub_ ly_D 5 ly_A := sub_of rfl
theorem eo_D_5 : eo_ ly_D 5 0 fsX0 := rfl
theorem fgX1_25 : fok_ RX1 25 1 2 := ⟨_, _, _, rfl, by decide, (uw_mem 285 (by decide +kernel) (by decide +kernel)), wkX1⟩
theorem su_D_8_A : sub_ ly_D 8 ly_A := sub_of rfl
theorem eo_D_8 : eo_ ly_D 8 0 fsX0 := rfl
theorem lkX1_54 : Cond.methodLink RX1 54 yX1_resetWeights ∈ uw_ := (uw_mem 456 (by decide +kernel) (by decide +kernel))
theorem fgX1_57 : fok_ RX1 57 5 10 := ⟨_, _, _, rfl, by decide, (uw_mem 106 (by decide +kernel) (by decide +kernel)), wkX5⟩
theorem fpX1_60 : fpk_ RX1 60 1 7 .int := ⟨_, _, _, tyX1, rfl, by decide, (uw_mem 295 (by decide +kernel) (by decide +kernel)), wkX1, tyX1_ok, nmX1, rfl, by decide +kernel⟩
theorem fsq_1_7 : fsp_ fsX1 7 := ⟨fun _ _ => rfl, fun _ _ _ => rfl⟩
theorem fpX1_63 : fpk_ RX1 63 1 8 .int := ⟨_, _, _, tyX1, rfl, by decide, (uw_mem 297 (by decide +kernel) (by decide +kernel)), wkX1, tyX1_ok, nmX1, rfl, by decide +kernel⟩
theorem fsq_1_8 : fsp_ fsX1 8 := ⟨fun _ _ => rfl, fun _ _ _ => rfl⟩
theorem fpX1_66 : fpk_ RX1 66 1 9 .int := ⟨_, _, _, tyX1, rfl, by decide, (uw_mem 298 (by decide +kernel) (by decide +kernel)), wkX1, tyX1_ok, nmX1, rfl, by decide +kernel⟩
theorem fsq_1_9 : fsp_ fsX1 9 := ⟨fun _ _ => rfl, fun _ _ _ => rfl⟩
theorem fpX1_69 : fpk_ RX1 69 1 10 .int := ⟨_, _, _, tyX1, rfl, by decide, (uw_mem 300 (by decide +kernel) (by decide +kernel)), wkX1, tyX1_ok, nmX1, rfl, by decide +kernel⟩
theorem fsq_1_10 : fsp_ fsX1 10 := ⟨fun _ _ => rfl, fun _ _ _ => rfl⟩
theorem fpX1_72 : fpk_ RX1 72 1 11 .int := ⟨_, _, _, tyX1, rfl, by decide, (uw_mem 301 (by decide +kernel) (by decide +kernel)), wkX1, tyX1_ok, nmX1, rfl, by decide +kernel⟩
theorem fsq_1_11 : fsp_ fsX1 11 := ⟨fun _ _ => rfl, fun _ _ _ => rfl⟩
theorem fpX1_75 : fpk_ RX1 75 1 12 .int := ⟨_, _, _, tyX1, rfl, by decide, (uw_mem 303 (by decide +kernel) (by decide +kernel)), wkX1, tyX1_ok, nmX1, rfl, by decide +kernel⟩
theorem fsq_1_12 : fsp_ fsX1 12 := ⟨fun _ _ => rfl, fun _ _ _ => rfl⟩
theorem fpX1_78 : fpk_ RX1 78 1 13 .int := ⟨_, _, _, tyX1, rfl, by decide, (uw_mem 305 (by decide +kernel) (by decide +kernel)), wkX1, tyX1_ok, nmX1, rfl, by decide +kernel⟩
theorem fsq_1_13 : fsp_ fsX1 13 := ⟨fun _ _ => rfl, fun _ _ _ => rfl⟩
theorem fgX1_28 : fok_ RX1 28 1 3 := ⟨_, _, _, rfl, by decide, (uw_mem 288 (by decide +kernel) (by decide +kernel)), wkX1⟩
theorem ra_D_11 : ral_ ly_D 11 5 6 3 15 := ⟨_, rfl, fun a k h => (if_pos h).trans (congrArg some (by omega))⟩
theorem so_D_15 : ∀ k, k < 6 → sub_ ly_D (3 * k + 15) ly_A := by
  intro k hk
  match k, hk with
  | 0, _ => exact sub_of rfl
  | 1, _ => exact sub_of rfl
  | 2, _ => exact sub_of rfl
  | 3, _ => exact sub_of rfl
  | 4, _ => exact sub_of rfl
  | 5, _ => exact sub_of rfl
theorem eow_D_15 : ∀ k, k < 6 → eo_ ly_D (3 * k + 15) 0 fsX0 := by
  intro k hk
  match k, hk with
  | 0, _ => rfl
  | 1, _ => rfl
  | 2, _ => rfl
  | 3, _ => rfl
  | 4, _ => rfl
  | 5, _ => rfl
theorem kX1_begin {E : ev_} {H : Heap} {a b : Nat} {s : st_} {t : st_} {r : st_} (hm : fX1_begin s t = some r) (h0 : has_ E H a ly_D s) (h1 : has_ E H b ly_S t) (hf : ev_fr E a) (d1 : a + 33 ≤ b ∨ b + 4 ≤ a) : sp_ E mX1_begin [.ref a, .ref b] H (po1 (.inl (none)) (fun Hn => sm_ H Hn a 33 ∧ has_ E Hn a ly_D r)) := by
  refine sp_of (by decide +kernel) rfl rfl ?_
  generalize hQ : po1 _ _ = Q
  have hs : sm_ H H a 33 := sm_.rfl'
  unfold fX1_begin at hm
  refine aw_lv (lv' := [(0, .ref a), (1, .ref b)]) [0, 1] rfl ?_
  refine aw_b (pc' := 1) (lv' := [(0, .ref a), (1, .ref b)]) (st' := [.ref a]) [(0, .aload_n 0, 1, .null)] (by decide +kernel) rfl ?_
  refine aw_gl (v := .ref (a + 1)) a 0 h0 eo_D_0 fgX1_12 rfl (by decide +kernel) ?_
  refine aw_b (pc' := 5) (lv' := [(0, .ref a), (1, .ref b)]) (st' := [.ref b, .ref (a + 1)]) [(4, .aload_n 1, 1, .null)] (by decide +kernel) rfl ?_
  obtain ⟨r1, e2, hm⟩ := bn_x hm
  refine aw_cv (rest := []) (st1 := []) a 1 (kX5_copyFrom e2 (h0.sub su_D_1_S) h1 (Nat.le_trans hf (Nat.le_add_right _ _)) (by omega)) rfl rfl ckX5_copyFrom lkX1_42 h0 eo_D_1 ⟨_, _, rfl⟩ nkX5_copyFrom rfl rfl rfl (Nat.le_of_ble_eq_true rfl) (Nat.zero_le _) (Nat.zero_le _) (by decide +kernel) (fun H3 z4 => ?_)
  obtain ⟨z4, hn⟩ := z4
  obtain ⟨s5, e6, hm⟩ := bd_x hm
  have h0 := h0.mg su_D_1_S hn z4 rfl e6
  have h1 := h1.kept (n := 4) z4 rfl (by omega)
  have hs := hs.step z4 (by omega) (by omega)
  refine aw_b (pc' := 9) (lv' := [(0, .ref a), (1, .ref b)]) (st' := [.ref a]) [(8, .aload_n 0, 1, .null)] (by decide +kernel) rfl ?_
  refine aw_gl (v := .ref (a + 5)) a 0 h0 eo_D_0 fgX1_21 rfl (by decide +kernel) ?_
  refine aw_b (pc' := 13) (lv' := [(0, .ref a), (1, .ref b)]) (st' := [.ref a, .ref (a + 5)]) [(12, .aload_n 0, 1, .null)] (by decide +kernel) rfl ?_
  refine aw_gl (v := .ref (a + 1)) a 0 h0 eo_D_0 fgX1_12 rfl (by decide +kernel) ?_
  refine aw_gl (v := .int (s5 1 1)) a 1 h0 eo_D_1 fgX1_46 rfl (by decide +kernel) ?_
  obtain ⟨r7, e8, hm⟩ := bn_x hm
  refine aw_cv (rest := []) (st1 := []) a 5 (kX0_begin e8 (h0.sub su_D_5_A) (Nat.le_trans hf (Nat.le_add_right _ _))) rfl rfl ckX0_begin lkX1_50 h0 eo_D_5 ⟨_, _, rfl⟩ nkX0_begin rfl rfl rfl (Nat.le_of_ble_eq_true rfl) (Nat.zero_le _) (Nat.zero_le _) (by decide +kernel) (fun H9 z10 => ?_)
  obtain ⟨z10, hn⟩ := z10
  obtain ⟨s11, e12, hm⟩ := bd_x hm
  have h0 := h0.mg su_D_5_A hn z10 rfl e12
  have h1 := h1.kept (n := 4) z10 rfl (by omega)
  have hs := hs.step z10 (by omega) (by omega)
  refine aw_b (pc' := 23) (lv' := [(0, .ref a), (1, .ref b)]) (st' := [.ref a]) [(22, .aload_n 0, 1, .null)] (by decide +kernel) rfl ?_
  refine aw_gl (v := .ref (a + 8)) a 0 h0 eo_D_0 fgX1_25 rfl (by decide +kernel) ?_
  refine aw_b (pc' := 27) (lv' := [(0, .ref a), (1, .ref b)]) (st' := [.ref a, .ref (a + 8)]) [(26, .aload_n 0, 1, .null)] (by decide +kernel) rfl ?_
  refine aw_gl (v := .ref (a + 1)) a 0 h0 eo_D_0 fgX1_12 rfl (by decide +kernel) ?_
  refine aw_gl (v := .int (s11 1 1)) a 1 h0 eo_D_1 fgX1_46 rfl (by decide +kernel) ?_
  obtain ⟨r13, e14, hm⟩ := bn_x hm
  refine aw_cv (rest := []) (st1 := []) a 8 (kX0_begin e14 (h0.sub su_D_8_A) (Nat.le_trans hf (Nat.le_add_right _ _))) rfl rfl ckX0_begin lkX1_50 h0 eo_D_8 ⟨_, _, rfl⟩ nkX0_begin rfl rfl rfl (Nat.le_of_ble_eq_true rfl) (Nat.zero_le _) (Nat.zero_le _) (by decide +kernel) (fun H15 z16 => ?_)
  obtain ⟨z16, hn⟩ := z16
  obtain ⟨s17, e18, hm⟩ := bd_x hm
  have h0 := h0.mg su_D_8_A hn z16 rfl e18
  have h1 := h1.kept (n := 4) z16 rfl (by omega)
  have hs := hs.step z16 (by omega) (by omega)
  refine aw_b (pc' := 38) (lv' := [(2, .int (0 : Int32)), (0, .ref a), (1, .ref b)]) (st' := []) [(36, .iconst 0, 1, .int (0 : Int32)), (37, .istore_n 2, 1, .null)] (by decide +kernel) rfl ?_
  obtain ⟨x38, hx38, hr38⟩ := bn_x hm
  have X38_69 : ∀ (s_x38_69 : st_) (H_x38_69 : Heap), has_ E H_x38_69 a ly_D s_x38_69 → has_ E H_x38_69 b ly_S t → sm_ H H_x38_69 a 33 → fX1_begin_x38_69 s_x38_69 = some r → aw E mX1_begin Q 69 [(0, .ref a)] [] H_x38_69 0 0 := by
    intro s_x38_69 H_x38_69 h0 h1 hs hm
    unfold fX1_begin_x38_69 at hm
    refine aw_b (pc' := 70) (lv' := [(0, .ref a)]) (st' := [.ref a]) [(69, .aload_n 0, 1, .null)] (by decide +kernel) rfl ?_
    obtain ⟨r19, e20, hm⟩ := bn_x hm
    refine aw_cv (rest := []) (st1 := []) a 0 (kX1_resetWeights e20 h0 hf) rfl rfl ckX1_resetWeights lkX1_54 h0 eo_D_0 ⟨_, _, rfl⟩ nkX1_resetWeights rfl rfl rfl (Nat.le_of_ble_eq_true rfl) (Nat.zero_le _) (Nat.zero_le _) (by decide +kernel) (fun H21 z22 => ?_)
    obtain ⟨z22, hn⟩ := z22
    have h0 := hn
    have h1 := h1.kept (n := 4) z22 rfl (by omega)
    have hs := hs.step z22 (by omega) (by omega)
    refine aw_b (pc' := 75) (lv' := [(0, .ref a)]) (st' := [.ref a, .ref a]) [(73, .aload_n 0, 1, .null), (74, .aload_n 0, 1, .null)] (by decide +kernel) rfl ?_
    refine aw_gl (v := .ref (a + 1)) a 0 h0 eo_D_0 fgX1_12 rfl (by decide +kernel) ?_
    refine aw_gl (v := .int (r19 1 10)) a 1 h0 eo_D_1 fgX1_57 rfl (by decide +kernel) ?_
    obtain ⟨s23, e24, hm⟩ := bd_x hm
    refine aw_pl a 0 h0 eo_D_0 fsq_1_7 fpX1_60 hf rfl rfl e24 (by decide +kernel) (fun H25 h0 z26 => ?_)
    have h1 := h1.kept (n := 4) z26 rfl (by omega)
    have hs := hs.step z26 (by omega) (by omega)
    refine aw_b (pc' := 86) (lv' := [(0, .ref a)]) (st' := [.ref a, .ref a]) [(84, .aload_n 0, 1, .null), (85, .aload_n 0, 1, .null)] (by decide +kernel) rfl ?_
    refine aw_gl (v := .ref (a + 1)) a 0 h0 eo_D_0 fgX1_12 rfl (by decide +kernel) ?_
    refine aw_gl (v := .int (s23 1 10)) a 1 h0 eo_D_1 fgX1_57 rfl (by decide +kernel) ?_
    obtain ⟨s27, e28, hm⟩ := bd_x hm
    refine aw_pl a 0 h0 eo_D_0 fsq_1_8 fpX1_63 hf rfl rfl e28 (by decide +kernel) (fun H29 h0 z30 => ?_)
    have h1 := h1.kept (n := 4) z30 rfl (by omega)
    have hs := hs.step z30 (by omega) (by omega)
    refine aw_b (pc' := 97) (lv' := [(0, .ref a)]) (st' := [.int (0 : Int32), .ref a]) [(95, .aload_n 0, 1, .null), (96, .iconst 0, 1, .int (0 : Int32))] (by decide +kernel) rfl ?_
    obtain ⟨s31, e32, hm⟩ := bd_x hm
    refine aw_pl a 0 h0 eo_D_0 fsq_1_9 fpX1_66 hf rfl rfl e32 (by decide +kernel) (fun H33 h0 z34 => ?_)
    have h1 := h1.kept (n := 4) z34 rfl (by omega)
    have hs := hs.step z34 (by omega) (by omega)
    refine aw_b (pc' := 102) (lv' := [(0, .ref a)]) (st' := [.int (-1 : Int32), .ref a]) [(100, .aload_n 0, 1, .null), (101, .iconst (-1), 1, .int (-1 : Int32))] (by decide +kernel) rfl ?_
    obtain ⟨s35, e36, hm⟩ := bd_x hm
    refine aw_pl a 0 h0 eo_D_0 fsq_1_10 fpX1_69 hf rfl rfl e36 (by decide +kernel) (fun H37 h0 z38 => ?_)
    have h1 := h1.kept (n := 4) z38 rfl (by omega)
    have hs := hs.step z38 (by omega) (by omega)
    refine aw_b (pc' := 107) (lv' := [(0, .ref a)]) (st' := [.int (0 : Int32), .ref a]) [(105, .aload_n 0, 1, .null), (106, .iconst 0, 1, .int (0 : Int32))] (by decide +kernel) rfl ?_
    obtain ⟨s39, e40, hm⟩ := bd_x hm
    refine aw_pl a 0 h0 eo_D_0 fsq_1_11 fpX1_72 hf rfl rfl e40 (by decide +kernel) (fun H41 h0 z42 => ?_)
    have h1 := h1.kept (n := 4) z42 rfl (by omega)
    have hs := hs.step z42 (by omega) (by omega)
    refine aw_b (pc' := 112) (lv' := [(0, .ref a)]) (st' := [.int (-1 : Int32), .ref a]) [(110, .aload_n 0, 1, .null), (111, .iconst (-1), 1, .int (-1 : Int32))] (by decide +kernel) rfl ?_
    obtain ⟨s43, e44, hm⟩ := bd_x hm
    refine aw_pl a 0 h0 eo_D_0 fsq_1_12 fpX1_75 hf rfl rfl e44 (by decide +kernel) (fun H45 h0 z46 => ?_)
    have h1 := h1.kept (n := 4) z46 rfl (by omega)
    have hs := hs.step z46 (by omega) (by omega)
    refine aw_b (pc' := 117) (lv' := [(0, .ref a)]) (st' := [.int (-1 : Int32), .ref a]) [(115, .aload_n 0, 1, .null), (116, .iconst (-1), 1, .int (-1 : Int32))] (by decide +kernel) rfl ?_
    obtain ⟨s47, e48, hm⟩ := bd_x hm
    refine aw_pl a 0 h0 eo_D_0 fsq_1_13 fpX1_78 hf rfl rfl e48 (by decide +kernel) (fun H49 h0 z50 => ?_)
    have h1 := h1.kept (n := 4) z50 rfl (by omega)
    have hs := hs.step z50 (by omega) (by omega)
    obtain rfl := Option.some.inj hm
    subst hQ
    exact aw_vret rfl (Nat.zero_le _) (Nat.zero_le _) (by decide +kernel) ⟨rfl, hs, h0⟩
  have L38 : ∀ (fu : Nat) (v2_b38 : Int32) (s_b38 : st_) (H_b38 : Heap), has_ E H_b38 a ly_D s_b38 → has_ E H_b38 b ly_S t → sm_ H H_b38 a 33 → fX1_begin_l38 fu (v2_b38, s_b38) = some x38 → aw E mX1_begin Q 38 [(0, .ref a), (2, .int v2_b38)] [] H_b38 0 0 := by
    intro fu
    induction fu with
    | zero =>
      intro v2_b38 s_b38 H_b38 h0 h1 hs hm
      exact (it_0 hm).elim
    | succ fu ih38 =>
      intro v2_b38 s_b38 H_b38 h0 h1 hs hm
      obtain ⟨y38, hm, hk38⟩ := it_s hm
      have hm : fX1_begin_b38 v2_b38 s_b38 = some y38 := hm
      unfold fX1_begin_b38 at hm
      refine aw_b (pc' := 40) (lv' := [(0, .ref a), (2, .int v2_b38)]) (st' := [.ref a, .int v2_b38]) [(38, .iload_n 2, 1, .null), (39, .aload_n 0, 1, .null)] (by decide +kernel) rfl ?_
      refine aw_gl (v := .ref (a + 11)) a 0 h0 eo_D_0 fgX1_28 rfl (by decide +kernel) ?_
      refine aw_all (ci := 5) (N := 6) (v := (6 : Int32)) a 11 h0 rfl (x := fun _ a _ => .inr (.inr (.inr (.inr fun k => if k < 6 then some (a + (3 * k + 15)) else none)))) (fun _ _ => rfl) rfl (by decide +kernel) (by decide +kernel) ?_
      refine aw_ic_ge (off := 25) 69 (by decide) (by decide +kernel) (fun hc => ?_) (fun hc => ?_)
      · have hm := (if_pos hc).symm.trans hm
        cases hm
        refine aw_lv (lv' := [(0, .ref a)]) [0] rfl ?_
        exact X38_69 s_b38 H_b38 h0 h1 hs ((congrArg fX1_begin_k38 (show (s_b38) = x38 from hk38)).trans hr38)
      · have hm := (if_neg hc).symm.trans hm
        refine aw_b (pc' := 48) (lv' := [(0, .ref a), (2, .int v2_b38)]) (st' := [.ref a]) [(47, .aload_n 0, 1, .null)] (by decide +kernel) rfl ?_
        refine aw_gl (v := .ref (a + 11)) a 0 h0 eo_D_0 fgX1_28 rfl (by decide +kernel) ?_
        refine aw_b (pc' := 52) (lv' := [(0, .ref a), (2, .int v2_b38)]) (st' := [.int v2_b38, .ref (a + 11)]) [(51, .iload_n 2, 1, .null)] (by decide +kernel) rfl ?_
        obtain ⟨g51, hm⟩ := gd_x hm
        refine aw_rall a 11 h0 ra_D_11 g51 (by decide +kernel) ?_
        refine aw_b (pc' := 54) (lv' := [(0, .ref a), (2, .int v2_b38)]) (st' := [.ref a, .ref (a + (3 * ix_ v2_b38 + 15))]) [(53, .aload_n 0, 1, .null)] (by decide +kernel) rfl ?_
        refine aw_gl (v := .ref (a + 1)) a 0 h0 eo_D_0 fgX1_12 rfl (by decide +kernel) ?_
        refine aw_gl (v := .int (s_b38 1 1)) a 1 h0 eo_D_1 fgX1_46 rfl (by decide +kernel) ?_
        obtain ⟨r52, e53, hm⟩ := bn_x hm
        have q54 := ib_lt g51
        refine aw_cv (rest := []) (st1 := []) a (3 * ix_ v2_b38 + 15) (kX0_begin e53 (h0.sub (so_D_15 _ (ib_lt g51))) (Nat.le_trans hf (Nat.le_add_right _ _))) rfl rfl ckX0_begin lkX1_50 h0 (eow_D_15 _ (ib_lt g51)) ⟨_, _, rfl⟩ nkX0_begin rfl rfl rfl (Nat.le_of_ble_eq_true rfl) (Nat.zero_le _) (Nat.zero_le _) (by decide +kernel) (fun H55 z56 => ?_)
        obtain ⟨z56, hn⟩ := z56
        obtain ⟨s57, e58, hm⟩ := bd_x hm
        have h0 := h0.mg (so_D_15 _ (ib_lt g51)) hn z56 rfl e58
        have h1 := h1.kept (n := 4) z56 rfl (by omega)
        have hs := hs.step z56 (by omega) (by omega)
        refine aw_b (pc' := 38) (lv' := [(2, .int (v2_b38 + (1 : Int32))), (0, .ref a)]) (st' := []) [(63, .iinc 2 1, 3, .int (1 : Int32)), (66, .goto (-28), 3, .null)] (by decide +kernel) rfl ?_
        cases hm
        refine aw_lv (lv' := [(0, .ref a), (2, .int (v2_b38 + (1 : Int32)))]) [1, 0] rfl ?_
        exact ih38 (v2_b38 + (1 : Int32)) s57 H55 h0 h1 hs hk38
  refine aw_lv (lv' := [(0, .ref a), (2, .int (0 : Int32))]) [1, 0] rfl ?_
  exact L38 FU_ (0 : Int32) s17 H15 h0 h1 hs hx38
def mX1_copyFrom : mt_ := (yX1_copyFrom, cX1_copyFrom, 3, none, [], { frames := 2, locals := 69, cells := 0, slots := 0 })
theorem ckX1_copyFrom : cokV_ mX1_copyFrom := ⟨⟨(uw_mem 1383 (by decide +kernel) (by decide +kernel)), (uw_mem 33 (by decide +kernel) (by decide +kernel)), by decide +kernel, by decide +kernel⟩, (uw_mem 1381 (by decide +kernel) (by decide +kernel)), (uw_mem 1382 (by decide +kernel) (by decide +kernel))⟩
theorem nkX1_copyFrom : nok_ mX1_copyFrom 1 := by decide +kernel
theorem lkX1_81 : Cond.methodLink RX1 81 yX0_copyFrom ∈ uw_ := (uw_mem 1384 (by decide +kernel) (by decide +kernel))
theorem cpX1_84 : al_ RX1 84 := ⟨(uw_mem 1389 (by decide +kernel) (by decide +kernel)), (uw_mem 451 (by decide +kernel) (by decide +kernel)), (uw_mem 450 (by decide +kernel) (by decide +kernel)), (uw_mem 37 (by decide +kernel) (by decide +kernel))⟩
theorem fgX1_60 : fok_ RX1 60 1 7 := ⟨_, _, _, rfl, by decide, (uw_mem 295 (by decide +kernel) (by decide +kernel)), wkX1⟩
theorem fgX1_63 : fok_ RX1 63 1 8 := ⟨_, _, _, rfl, by decide, (uw_mem 297 (by decide +kernel) (by decide +kernel)), wkX1⟩
theorem fgX1_66 : fok_ RX1 66 1 9 := ⟨_, _, _, rfl, by decide, (uw_mem 298 (by decide +kernel) (by decide +kernel)), wkX1⟩
theorem fgX1_69 : fok_ RX1 69 1 10 := ⟨_, _, _, rfl, by decide, (uw_mem 300 (by decide +kernel) (by decide +kernel)), wkX1⟩
theorem fgX1_72 : fok_ RX1 72 1 11 := ⟨_, _, _, rfl, by decide, (uw_mem 301 (by decide +kernel) (by decide +kernel)), wkX1⟩
theorem fgX1_75 : fok_ RX1 75 1 12 := ⟨_, _, _, rfl, by decide, (uw_mem 303 (by decide +kernel) (by decide +kernel)), wkX1⟩
theorem fgX1_78 : fok_ RX1 78 1 13 := ⟨_, _, _, rfl, by decide, (uw_mem 305 (by decide +kernel) (by decide +kernel)), wkX1⟩
theorem kX1_copyFrom {E : ev_} {H : Heap} {a b : Nat} {s : st_} {t : st_} {r : st_} (hm : fX1_copyFrom s t = some r) (h0 : has_ E H a ly_D s) (h1 : has_ E H b ly_D t) (hf : ev_fr E a) (d1 : a + 33 ≤ b ∨ b + 33 ≤ a) : sp_ E mX1_copyFrom [.ref a, .ref b] H (po1 (.inl (none)) (fun Hn => sm_ H Hn a 33 ∧ has_ E Hn a ly_D r)) := by
  refine sp_of (by decide +kernel) rfl rfl ?_
  generalize hQ : po1 _ _ = Q
  have hs : sm_ H H a 33 := sm_.rfl'
  unfold fX1_copyFrom at hm
  refine aw_lv (lv' := [(0, .ref a), (1, .ref b)]) [0, 1] rfl ?_
  refine aw_b (pc' := 1) (lv' := [(0, .ref a), (1, .ref b)]) (st' := [.ref a]) [(0, .aload_n 0, 1, .null)] (by decide +kernel) rfl ?_
  refine aw_gl (v := .ref (a + 1)) a 0 h0 eo_D_0 fgX1_12 rfl (by decide +kernel) ?_
  refine aw_b (pc' := 5) (lv' := [(0, .ref a), (1, .ref b)]) (st' := [.ref b, .ref (a + 1)]) [(4, .aload_n 1, 1, .null)] (by decide +kernel) rfl ?_
  refine aw_gl (v := .ref (b + 1)) b 0 h1 eo_D_0 fgX1_12 rfl (by decide +kernel) ?_
  obtain ⟨r1, e2, hm⟩ := bn_x hm
  refine aw_cv (rest := []) (st1 := []) a 1 (kX5_copyFrom e2 (h0.sub su_D_1_S) (h1.sub su_D_1_S) (Nat.le_trans hf (Nat.le_add_right _ _)) (by omega)) rfl rfl ckX5_copyFrom lkX1_42 h0 eo_D_1 ⟨_, _, rfl⟩ nkX5_copyFrom rfl rfl rfl (Nat.le_of_ble_eq_true rfl) (Nat.zero_le _) (Nat.zero_le _) (by decide +kernel) (fun H3 z4 => ?_)
  obtain ⟨z4, hn⟩ := z4
  obtain ⟨s5, e6, hm⟩ := bd_x hm
  have h0 := h0.mg su_D_1_S hn z4 rfl e6
  have h1 := h1.kept (n := 33) z4 rfl (by omega)
  have hs := hs.step z4 (by omega) (by omega)
  refine aw_b (pc' := 12) (lv' := [(0, .ref a), (1, .ref b)]) (st' := [.ref a]) [(11, .aload_n 0, 1, .null)] (by decide +kernel) rfl ?_
  refine aw_gl (v := .ref (a + 5)) a 0 h0 eo_D_0 fgX1_21 rfl (by decide +kernel) ?_
  refine aw_b (pc' := 16) (lv' := [(0, .ref a), (1, .ref b)]) (st' := [.ref b, .ref (a + 5)]) [(15, .aload_n 1, 1, .null)] (by decide +kernel) rfl ?_
  refine aw_gl (v := .ref (b + 5)) b 0 h1 eo_D_0 fgX1_21 rfl (by decide +kernel) ?_
  obtain ⟨r7, e8, hm⟩ := bn_x hm
  refine aw_cv (rest := []) (st1 := []) a 5 (kX0_copyFrom e8 (h0.sub su_D_5_A) (h1.sub su_D_5_A) (Nat.le_trans hf (Nat.le_add_right _ _)) (by omega)) rfl rfl ckX0_copyFrom lkX1_81 h0 eo_D_5 ⟨_, _, rfl⟩ nkX0_copyFrom rfl rfl rfl (Nat.le_of_ble_eq_true rfl) (Nat.zero_le _) (Nat.zero_le _) (by decide +kernel) (fun H9 z10 => ?_)
  obtain ⟨z10, hn⟩ := z10
  obtain ⟨s11, e12, hm⟩ := bd_x hm
  have h0 := h0.mg su_D_5_A hn z10 rfl e12
  have h1 := h1.kept (n := 33) z10 rfl (by omega)
  have hs := hs.step z10 (by omega) (by omega)
  refine aw_b (pc' := 23) (lv' := [(0, .ref a), (1, .ref b)]) (st' := [.ref a]) [(22, .aload_n 0, 1, .null)] (by decide +kernel) rfl ?_
  refine aw_gl (v := .ref (a + 8)) a 0 h0 eo_D_0 fgX1_25 rfl (by decide +kernel) ?_
  refine aw_b (pc' := 27) (lv' := [(0, .ref a), (1, .ref b)]) (st' := [.ref b, .ref (a + 8)]) [(26, .aload_n 1, 1, .null)] (by decide +kernel) rfl ?_
  refine aw_gl (v := .ref (b + 8)) b 0 h1 eo_D_0 fgX1_25 rfl (by decide +kernel) ?_
  obtain ⟨r13, e14, hm⟩ := bn_x hm
  refine aw_cv (rest := []) (st1 := []) a 8 (kX0_copyFrom e14 (h0.sub su_D_8_A) (h1.sub su_D_8_A) (Nat.le_trans hf (Nat.le_add_right _ _)) (by omega)) rfl rfl ckX0_copyFrom lkX1_81 h0 eo_D_8 ⟨_, _, rfl⟩ nkX0_copyFrom rfl rfl rfl (Nat.le_of_ble_eq_true rfl) (Nat.zero_le _) (Nat.zero_le _) (by decide +kernel) (fun H15 z16 => ?_)
  obtain ⟨z16, hn⟩ := z16
  obtain ⟨s17, e18, hm⟩ := bd_x hm
  have h0 := h0.mg su_D_8_A hn z16 rfl e18
  have h1 := h1.kept (n := 33) z16 rfl (by omega)
  have hs := hs.step z16 (by omega) (by omega)
  refine aw_b (pc' := 35) (lv' := [(2, .int (0 : Int32)), (0, .ref a), (1, .ref b)]) (st' := []) [(33, .iconst 0, 1, .int (0 : Int32)), (34, .istore_n 2, 1, .null)] (by decide +kernel) rfl ?_
  obtain ⟨x35, hx35, hr35⟩ := bn_x hm
  have X35_65 : ∀ (s_x35_65 : st_) (H_x35_65 : Heap), has_ E H_x35_65 a ly_D s_x35_65 → has_ E H_x35_65 b ly_D t → sm_ H H_x35_65 a 33 → fX1_copyFrom_x35_65 t s_x35_65 = some r → aw E mX1_copyFrom Q 65 [(0, .ref a), (1, .ref b)] [] H_x35_65 0 0 := by
    intro s_x35_65 H_x35_65 h0 h1 hs hm
    unfold fX1_copyFrom_x35_65 at hm
    refine aw_b (pc' := 66) (lv' := [(0, .ref a), (1, .ref b)]) (st' := [.ref b]) [(65, .aload_n 1, 1, .null)] (by decide +kernel) rfl ?_
    refine aw_gl (v := .ref (b + 12)) b 0 h1 eo_D_0 fgX1_32 rfl (by decide +kernel) ?_
    refine aw_b (pc' := 71) (lv' := [(0, .ref a), (1, .ref b)]) (st' := [.ref a, .int (0 : Int32), .ref (b + 12)]) [(69, .iconst 0, 1, .int (0 : Int32)), (70, .aload_n 0, 1, .null)] (by decide +kernel) rfl ?_
    refine aw_gl (v := .ref (a + 12)) a 0 h0 eo_D_0 fgX1_32 rfl (by decide +kernel) ?_
    refine aw_b (pc' := 76) (lv' := [(0, .ref a), (1, .ref b)]) (st' := [.ref a, .int (0 : Int32), .ref (a + 12), .int (0 : Int32), .ref (b + 12)]) [(74, .iconst 0, 1, .int (0 : Int32)), (75, .aload_n 0, 1, .null)] (by decide +kernel) rfl ?_
    refine aw_gl (v := .ref (a + 12)) a 0 h0 eo_D_0 fgX1_32 rfl (by decide +kernel) ?_
    refine aw_all (ci := 0) (N := 6) (v := (6 : Int32)) a 12 h0 rfl (x := fun _ _ c => .inl c) (fun _ _ => rfl) rfl (by decide +kernel) (by decide +kernel) ?_
    obtain ⟨s19, e20, hm⟩ := bd_x hm
    refine aw_cpl (rest := []) b 12 a 12 h0 rfl h1 rfl cpX1_84 hf (by decide) (by decide +kernel) e20 rfl (Nat.le_of_ble_eq_true rfl) (by decide +kernel) (fun H21 h0 z22 => ?_)
    have h1 := h1.kept (n := 33) z22 rfl (by omega)
    have hs := hs.step z22 (by omega) (by omega)
    refine aw_b (pc' := 85) (lv' := [(0, .ref a), (1, .ref b)]) (st' := [.ref b, .ref a]) [(83, .aload_n 0, 1, .null), (84, .aload_n 1, 1, .null)] (by decide +kernel) rfl ?_
    refine aw_gl (v := .int (t 0 7)) b 0 h1 eo_D_0 fgX1_60 rfl (by decide +kernel) ?_
    obtain ⟨s23, e24, hm⟩ := bd_x hm
    refine aw_pl a 0 h0 eo_D_0 fsq_1_7 fpX1_60 hf rfl rfl e24 (by decide +kernel) (fun H25 h0 z26 => ?_)
    have h1 := h1.kept (n := 33) z26 rfl (by omega)
    have hs := hs.step z26 (by omega) (by omega)
    refine aw_b (pc' := 93) (lv' := [(0, .ref a), (1, .ref b)]) (st' := [.ref b, .ref a]) [(91, .aload_n 0, 1, .null), (92, .aload_n 1, 1, .null)] (by decide +kernel) rfl ?_
    refine aw_gl (v := .int (t 0 8)) b 0 h1 eo_D_0 fgX1_63 rfl (by decide +kernel) ?_
    obtain ⟨s27, e28, hm⟩ := bd_x hm
    refine aw_pl a 0 h0 eo_D_0 fsq_1_8 fpX1_63 hf rfl rfl e28 (by decide +kernel) (fun H29 h0 z30 => ?_)
    have h1 := h1.kept (n := 33) z30 rfl (by omega)
    have hs := hs.step z30 (by omega) (by omega)
    refine aw_b (pc' := 101) (lv' := [(0, .ref a), (1, .ref b)]) (st' := [.ref b, .ref a]) [(99, .aload_n 0, 1, .null), (100, .aload_n 1, 1, .null)] (by decide +kernel) rfl ?_
    refine aw_gl (v := .int (t 0 9)) b 0 h1 eo_D_0 fgX1_66 rfl (by decide +kernel) ?_
    obtain ⟨s31, e32, hm⟩ := bd_x hm
    refine aw_pl a 0 h0 eo_D_0 fsq_1_9 fpX1_66 hf rfl rfl e32 (by decide +kernel) (fun H33 h0 z34 => ?_)
    have h1 := h1.kept (n := 33) z34 rfl (by omega)
    have hs := hs.step z34 (by omega) (by omega)
    refine aw_b (pc' := 109) (lv' := [(0, .ref a), (1, .ref b)]) (st' := [.ref b, .ref a]) [(107, .aload_n 0, 1, .null), (108, .aload_n 1, 1, .null)] (by decide +kernel) rfl ?_
    refine aw_gl (v := .int (t 0 10)) b 0 h1 eo_D_0 fgX1_69 rfl (by decide +kernel) ?_
    obtain ⟨s35, e36, hm⟩ := bd_x hm
    refine aw_pl a 0 h0 eo_D_0 fsq_1_10 fpX1_69 hf rfl rfl e36 (by decide +kernel) (fun H37 h0 z38 => ?_)
    have h1 := h1.kept (n := 33) z38 rfl (by omega)
    have hs := hs.step z38 (by omega) (by omega)
    refine aw_b (pc' := 117) (lv' := [(0, .ref a), (1, .ref b)]) (st' := [.ref b, .ref a]) [(115, .aload_n 0, 1, .null), (116, .aload_n 1, 1, .null)] (by decide +kernel) rfl ?_
    refine aw_gl (v := .int (t 0 11)) b 0 h1 eo_D_0 fgX1_72 rfl (by decide +kernel) ?_
    obtain ⟨s39, e40, hm⟩ := bd_x hm
    refine aw_pl a 0 h0 eo_D_0 fsq_1_11 fpX1_72 hf rfl rfl e40 (by decide +kernel) (fun H41 h0 z42 => ?_)
    have h1 := h1.kept (n := 33) z42 rfl (by omega)
    have hs := hs.step z42 (by omega) (by omega)
    refine aw_b (pc' := 125) (lv' := [(0, .ref a), (1, .ref b)]) (st' := [.ref b, .ref a]) [(123, .aload_n 0, 1, .null), (124, .aload_n 1, 1, .null)] (by decide +kernel) rfl ?_
    refine aw_gl (v := .int (t 0 12)) b 0 h1 eo_D_0 fgX1_75 rfl (by decide +kernel) ?_
    obtain ⟨s43, e44, hm⟩ := bd_x hm
    refine aw_pl a 0 h0 eo_D_0 fsq_1_12 fpX1_75 hf rfl rfl e44 (by decide +kernel) (fun H45 h0 z46 => ?_)
    have h1 := h1.kept (n := 33) z46 rfl (by omega)
    have hs := hs.step z46 (by omega) (by omega)
    refine aw_b (pc' := 133) (lv' := [(0, .ref a), (1, .ref b)]) (st' := [.ref b, .ref a]) [(131, .aload_n 0, 1, .null), (132, .aload_n 1, 1, .null)] (by decide +kernel) rfl ?_
    refine aw_gl (v := .int (t 0 13)) b 0 h1 eo_D_0 fgX1_78 rfl (by decide +kernel) ?_
    obtain ⟨s47, e48, hm⟩ := bd_x hm
    refine aw_pl a 0 h0 eo_D_0 fsq_1_13 fpX1_78 hf rfl rfl e48 (by decide +kernel) (fun H49 h0 z50 => ?_)
    have h1 := h1.kept (n := 33) z50 rfl (by omega)
    have hs := hs.step z50 (by omega) (by omega)
    obtain rfl := Option.some.inj hm
    subst hQ
    exact aw_vret rfl (Nat.zero_le _) (Nat.zero_le _) (by decide +kernel) ⟨rfl, hs, h0⟩
  have L35 : ∀ (fu : Nat) (v2_b35 : Int32) (s_b35 : st_) (H_b35 : Heap), has_ E H_b35 a ly_D s_b35 → has_ E H_b35 b ly_D t → sm_ H H_b35 a 33 → fX1_copyFrom_l35 t fu (v2_b35, s_b35) = some x35 → aw E mX1_copyFrom Q 35 [(0, .ref a), (1, .ref b), (2, .int v2_b35)] [] H_b35 0 0 := by
    intro fu
    induction fu with
    | zero =>
      intro v2_b35 s_b35 H_b35 h0 h1 hs hm
      exact (it_0 hm).elim
    | succ fu ih35 =>
      intro v2_b35 s_b35 H_b35 h0 h1 hs hm
      obtain ⟨y35, hm, hk35⟩ := it_s hm
      have hm : fX1_copyFrom_b35 t v2_b35 s_b35 = some y35 := hm
      unfold fX1_copyFrom_b35 at hm
      refine aw_b (pc' := 37) (lv' := [(0, .ref a), (1, .ref b), (2, .int v2_b35)]) (st' := [.ref a, .int v2_b35]) [(35, .iload_n 2, 1, .null), (36, .aload_n 0, 1, .null)] (by decide +kernel) rfl ?_
      refine aw_gl (v := .ref (a + 11)) a 0 h0 eo_D_0 fgX1_28 rfl (by decide +kernel) ?_
      refine aw_all (ci := 5) (N := 6) (v := (6 : Int32)) a 11 h0 rfl (x := fun _ a _ => .inr (.inr (.inr (.inr fun k => if k < 6 then some (a + (3 * k + 15)) else none)))) (fun _ _ => rfl) rfl (by decide +kernel) (by decide +kernel) ?_
      refine aw_ic_ge (off := 24) 65 (by decide) (by decide +kernel) (fun hc => ?_) (fun hc => ?_)
      · have hm := (if_pos hc).symm.trans hm
        cases hm
        refine aw_lv (lv' := [(0, .ref a), (1, .ref b)]) [0, 1] rfl ?_
        exact X35_65 s_b35 H_b35 h0 h1 hs ((congrArg (fX1_copyFrom_k35 t) (show (s_b35) = x35 from hk35)).trans hr35)
      · have hm := (if_neg hc).symm.trans hm
        refine aw_b (pc' := 45) (lv' := [(0, .ref a), (1, .ref b), (2, .int v2_b35)]) (st' := [.ref a]) [(44, .aload_n 0, 1, .null)] (by decide +kernel) rfl ?_
        refine aw_gl (v := .ref (a + 11)) a 0 h0 eo_D_0 fgX1_28 rfl (by decide +kernel) ?_
        refine aw_b (pc' := 49) (lv' := [(0, .ref a), (1, .ref b), (2, .int v2_b35)]) (st' := [.int v2_b35, .ref (a + 11)]) [(48, .iload_n 2, 1, .null)] (by decide +kernel) rfl ?_
        obtain ⟨g51, hm⟩ := gd_x hm
        refine aw_rall a 11 h0 ra_D_11 g51 (by decide +kernel) ?_
        refine aw_b (pc' := 51) (lv' := [(0, .ref a), (1, .ref b), (2, .int v2_b35)]) (st' := [.ref b, .ref (a + (3 * ix_ v2_b35 + 15))]) [(50, .aload_n 1, 1, .null)] (by decide +kernel) rfl ?_
        refine aw_gl (v := .ref (b + 11)) b 0 h1 eo_D_0 fgX1_28 rfl (by decide +kernel) ?_
        refine aw_b (pc' := 55) (lv' := [(0, .ref a), (1, .ref b), (2, .int v2_b35)]) (st' := [.int v2_b35, .ref (b + 11), .ref (a + (3 * ix_ v2_b35 + 15))]) [(54, .iload_n 2, 1, .null)] (by decide +kernel) rfl ?_
        obtain ⟨g52, hm⟩ := gd_x hm
        refine aw_rall b 11 h1 ra_D_11 g52 (by decide +kernel) ?_
        obtain ⟨r53, e54, hm⟩ := bn_x hm
        have q55 := ib_lt g51
        have q56 := ib_lt g52
        refine aw_cv (rest := []) (st1 := []) a (3 * ix_ v2_b35 + 15) (kX0_copyFrom e54 (h0.sub (so_D_15 _ (ib_lt g51))) (h1.sub (so_D_15 _ (ib_lt g52))) (Nat.le_trans hf (Nat.le_add_right _ _)) (by omega)) rfl rfl ckX0_copyFrom lkX1_81 h0 (eow_D_15 _ (ib_lt g51)) ⟨_, _, rfl⟩ nkX0_copyFrom rfl rfl rfl (Nat.le_of_ble_eq_true rfl) (Nat.zero_le _) (Nat.zero_le _) (by decide +kernel) (fun H57 z58 => ?_)
        obtain ⟨z58, hn⟩ := z58
        obtain ⟨s59, e60, hm⟩ := bd_x hm
        have h0 := h0.mg (so_D_15 _ (ib_lt g51)) hn z58 rfl e60
        have h1 := h1.kept (n := 33) z58 rfl (by omega)
        have hs := hs.step z58 (by omega) (by omega)
        refine aw_b (pc' := 35) (lv' := [(2, .int (v2_b35 + (1 : Int32))), (0, .ref a), (1, .ref b)]) (st' := []) [(59, .iinc 2 1, 3, .int (1 : Int32)), (62, .goto (-27), 3, .null)] (by decide +kernel) rfl ?_
        cases hm
        refine aw_lv (lv' := [(0, .ref a), (1, .ref b), (2, .int (v2_b35 + (1 : Int32)))]) [1, 2, 0] rfl ?_
        exact ih35 (v2_b35 + (1 : Int32)) s59 H57 h0 h1 hs hk35
  refine aw_lv (lv' := [(0, .ref a), (1, .ref b), (2, .int (0 : Int32))]) [1, 2, 0] rfl ?_
  exact L35 FU_ (0 : Int32) s17 H15 h0 h1 hs hx35
def mX1_takeBudget : mt_ := (yX1_takeBudget, cX1_takeBudget, 2, none, [], { frames := 0, locals := 0, cells := 0, slots := 0 })
theorem ckX1_takeBudget : cokV_ mX1_takeBudget := ⟨⟨(uw_mem 1051 (by decide +kernel) (by decide +kernel)), (uw_mem 33 (by decide +kernel) (by decide +kernel)), by decide +kernel, by decide +kernel⟩, (uw_mem 1049 (by decide +kernel) (by decide +kernel)), (uw_mem 1050 (by decide +kernel) (by decide +kernel))⟩
theorem nkX1_takeBudget : nok_ mX1_takeBudget 1 := by decide +kernel
theorem fpX1_91 : fpk_ RX1 91 5 16 .int := ⟨_, _, _, tyX5, rfl, by decide, (uw_mem 125 (by decide +kernel) (by decide +kernel)), wkX5, tyX5_ok, nmX5, rfl, by decide +kernel⟩
theorem kX1_takeBudget {E : ev_} {H : Heap} {a : Nat} {s : st_} {i0 : Int32} {r : st_} (hm : fX1_takeBudget s i0 = some r) (h0 : has_ E H a ly_D s) (hf : ev_fr E a) : sp_ E mX1_takeBudget [.ref a, .int i0] H (po1 (.inl (none)) (fun Hn => sm_ H Hn a 33 ∧ has_ E Hn a ly_D r)) := by
  refine sp_of (by decide +kernel) rfl rfl ?_
  generalize hQ : po1 _ _ = Q
  have hs : sm_ H H a 33 := sm_.rfl'
  unfold fX1_takeBudget at hm
  refine aw_lv (lv' := [(0, .ref a), (1, .int i0)]) [0, 1] rfl ?_
  refine aw_b (pc' := 1) (lv' := [(0, .ref a), (1, .int i0)]) (st' := [.ref a]) [(0, .aload_n 0, 1, .null)] (by decide +kernel) rfl ?_
  refine aw_gl (v := .ref (a + 1)) a 0 h0 eo_D_0 fgX1_12 rfl (by decide +kernel) ?_
  refine aw_b (pc' := 5) (lv' := [(0, .ref a), (1, .int i0)]) (st' := [.int i0, .ref (a + 1)]) [(4, .iload_n 1, 1, .null)] (by decide +kernel) rfl ?_
  obtain ⟨s1, e2, hm⟩ := bd_x hm
  refine aw_pl a 1 h0 eo_D_1 fsq_5_16 fpX1_91 hf rfl rfl e2 (by decide +kernel) (fun H3 h0 z4 => ?_)
  have hs := hs.step z4 (by omega) (by omega)
  refine aw_b (pc' := 10) (lv' := [(0, .ref a), (1, .int i0)]) (st' := [.int (0 : Int32), .ref a]) [(8, .aload_n 0, 1, .null), (9, .iconst 0, 1, .int (0 : Int32))] (by decide +kernel) rfl ?_
  obtain ⟨s5, e6, hm⟩ := bd_x hm
  refine aw_pl a 0 h0 eo_D_0 fsq_1_11 fpX1_72 hf rfl rfl e6 (by decide +kernel) (fun H7 h0 z8 => ?_)
  have hs := hs.step z8 (by omega) (by omega)
  obtain rfl := Option.some.inj hm
  subst hQ
  exact aw_vret rfl (Nat.zero_le _) (Nat.zero_le _) (by decide +kernel) ⟨rfl, hs, h0⟩
def mX1_armOf : mt_ := (yX1_armOf, cX1_armOf, 2, some (.object "ArmDuel$Arm"), [], { frames := 1, locals := 21, cells := 0, slots := 0 })
theorem ckX1_armOf : cokV_ mX1_armOf := ⟨⟨(uw_mem 1206 (by decide +kernel) (by decide +kernel)), (uw_mem 33 (by decide +kernel) (by decide +kernel)), by decide +kernel, by decide +kernel⟩, (uw_mem 1204 (by decide +kernel) (by decide +kernel)), (uw_mem 1205 (by decide +kernel) (by decide +kernel))⟩
theorem nkX1_armOf : nok_ mX1_armOf 1 := by decide +kernel
theorem lkX1_94 : Cond.methodLink RX1 94 yX5_hasRule ∈ uw_ := (uw_mem 1103 (by decide +kernel) (by decide +kernel))
theorem kX1_armOf {E : ev_} {H : Heap} {a : Nat} {s : st_} {i0 : Int32} {r : Nat} (hm : fX1_armOf s i0 = some r) (h0 : has_ E H a ly_D s) : sp_ E mX1_armOf [.ref a, .int i0] H (po1 (.inl (some (.ref (a + r)))) (fun Hn => sm_ H Hn 0 0 ∧ aro_ r)) := by
  refine sp_of (by decide +kernel) rfl rfl ?_
  generalize hQ : po1 _ _ = Q
  have hs : sm_ H H 0 0 := sm_.rfl'
  unfold fX1_armOf at hm
  refine aw_lv (lv' := [(0, .ref a), (1, .int i0)]) [0, 1] rfl ?_
  refine aw_b (pc' := 1) (lv' := [(0, .ref a), (1, .int i0)]) (st' := [.ref a]) [(0, .aload_n 0, 1, .null)] (by decide +kernel) rfl ?_
  refine aw_gl (v := .ref (a + 1)) a 0 h0 eo_D_0 fgX1_12 rfl (by decide +kernel) ?_
  refine aw_b (pc' := 5) (lv' := [(0, .ref a), (1, .int i0)]) (st' := [.int i0, .ref (a + 1)]) [(4, .iload_n 1, 1, .null)] (by decide +kernel) rfl ?_
  obtain ⟨r1, e2, hm⟩ := bn_x hm
  refine aw_cv (rest := []) (st1 := [.int r1]) a 1 (kX5_hasRule e2 (h0.sub su_D_1_S)) rfl rfl ckX5_hasRule lkX1_94 h0 eo_D_1 ⟨_, _, rfl⟩ nkX5_hasRule rfl rfl rfl (Nat.le_of_ble_eq_true rfl) (Nat.zero_le _) (Nat.zero_le _) (by decide +kernel) (fun H3 z4 => ?_)
  have h0 := h0.kept0 z4
  have hs := hs.step0 z4
  refine aw_if_eq (off := 12) 20 (by decide) (by decide +kernel) (fun hc => ?_) (fun hc => ?_)
  · have hm := (if_pos hc).symm.trans hm
    refine aw_b (pc' := 21) (lv' := [(0, .ref a), (1, .int i0)]) (st' := [.ref a]) [(20, .aload_n 0, 1, .null)] (by decide +kernel) rfl ?_
    refine aw_gl (v := .ref (a + 5)) a 0 h0 eo_D_0 fgX1_21 rfl (by decide +kernel) ?_
    obtain rfl := Option.some.inj hm
    subst hQ
    exact aw_aret rfl (Nat.zero_le _) (Nat.zero_le _) (by decide +kernel) ⟨rfl, hs, (Or.inl rfl)⟩
  · have hm := (if_neg hc).symm.trans hm
    refine aw_b (pc' := 12) (lv' := [(0, .ref a), (1, .int i0)]) (st' := [.ref a]) [(11, .aload_n 0, 1, .null)] (by decide +kernel) rfl ?_
    refine aw_gl (v := .ref (a + 11)) a 0 h0 eo_D_0 fgX1_28 rfl (by decide +kernel) ?_
    refine aw_b (pc' := 16) (lv' := [(0, .ref a), (1, .int i0)]) (st' := [.int i0, .ref (a + 11)]) [(15, .iload_n 1, 1, .null)] (by decide +kernel) rfl ?_
    obtain ⟨g5, hm⟩ := gd_x hm
    refine aw_rall a 11 h0 ra_D_11 g5 (by decide +kernel) ?_
    refine aw_b (pc' := 24) (lv' := [(0, .ref a), (1, .int i0)]) (st' := [.ref (a + (3 * ix_ i0 + 15))]) [(17, .goto 7, 3, .null)] (by decide +kernel) rfl ?_
    obtain rfl := Option.some.inj hm
    subst hQ
    exact aw_aret rfl (Nat.zero_le _) (Nat.zero_le _) (by decide +kernel) ⟨rfl, hs, (Or.inr ⟨_, ib_lt g5, rfl⟩)⟩
def mX1_isFull : mt_ := (yX1_isFull, cX1_isFull, 1, some .boolean, [], { frames := 0, locals := 0, cells := 0, slots := 0 })
theorem ckX1_isFull : cokV_ mX1_isFull := ⟨⟨(uw_mem 989 (by decide +kernel) (by decide +kernel)), (uw_mem 33 (by decide +kernel) (by decide +kernel)), by decide +kernel, by decide +kernel⟩, (uw_mem 987 (by decide +kernel) (by decide +kernel)), (uw_mem 988 (by decide +kernel) (by decide +kernel))⟩
theorem nkX1_isFull : nok_ mX1_isFull 0 := by decide +kernel
theorem fgX1_98 : fok_ RX1 98 0 2 := ⟨_, _, _, rfl, by decide, (uw_mem 229 (by decide +kernel) (by decide +kernel)), wkX0⟩
theorem kX1_isFull {E : ev_} {H : Heap} {a : Nat} {s : st_} {r : Int32} (hm : fX1_isFull s = some r) (h0 : has_ E H a ly_D s) : sp_ E mX1_isFull [.ref a] H (po1 (.inl (some (.int r))) (fun Hn => sm_ H Hn 0 0)) := by
  refine sp_of (by decide +kernel) rfl rfl ?_
  generalize hQ : po1 _ _ = Q
  have hs : sm_ H H 0 0 := sm_.rfl'
  unfold fX1_isFull at hm
  refine aw_lv (lv' := [(0, .ref a)]) [0] rfl ?_
  refine aw_b (pc' := 1) (lv' := [(0, .ref a)]) (st' := [.ref a]) [(0, .aload_n 0, 1, .null)] (by decide +kernel) rfl ?_
  refine aw_gl (v := .ref (a + 5)) a 0 h0 eo_D_0 fgX1_21 rfl (by decide +kernel) ?_
  refine aw_gl (v := .int (s 5 2)) a 5 h0 eo_D_5 fgX1_98 rfl (by decide +kernel) ?_
  refine aw_b (pc' := 9) (lv' := [(0, .ref a)]) (st' := [.int (20 : Int32), .int (s 5 2)]) [(7, .bipush 20, 2, .int (20 : Int32))] (by decide +kernel) rfl ?_
  refine aw_ic_lt (off := 7) 16 (by decide) (by decide +kernel) (fun hc => ?_) (fun hc => ?_)
  · have hm := (if_pos hc).symm.trans hm
    refine aw_b (pc' := 17) (lv' := [(0, .ref a)]) (st' := [.int (0 : Int32)]) [(16, .iconst 0, 1, .int (0 : Int32))] (by decide +kernel) rfl ?_
    obtain rfl := Option.some.inj hm
    subst hQ
    exact aw_zret rfl (by decide +kernel) (Nat.zero_le _) (Nat.zero_le _) (by decide +kernel) ⟨rfl, hs⟩
  · have hm := (if_neg hc).symm.trans hm
    refine aw_b (pc' := 17) (lv' := [(0, .ref a)]) (st' := [.int (1 : Int32)]) [(12, .iconst 1, 1, .int (1 : Int32)), (13, .goto 4, 3, .null)] (by decide +kernel) rfl ?_
    obtain rfl := Option.some.inj hm
    subst hQ
    exact aw_zret rfl (by decide +kernel) (Nat.zero_le _) (Nat.zero_le _) (by decide +kernel) ⟨rfl, hs⟩
def mX1_addForAll : mt_ := (yX1_addForAll, cX1_addForAll, 3, none, [], { frames := 1, locals := 22, cells := 0, slots := 0 })
theorem ckX1_addForAll : cokV_ mX1_addForAll := ⟨⟨(uw_mem 993 (by decide +kernel) (by decide +kernel)), (uw_mem 33 (by decide +kernel) (by decide +kernel)), by decide +kernel, by decide +kernel⟩, (uw_mem 991 (by decide +kernel) (by decide +kernel)), (uw_mem 992 (by decide +kernel) (by decide +kernel))⟩
theorem nkX1_addForAll : nok_ mX1_addForAll 1 := by decide +kernel
theorem lkX1_101 : Cond.methodLink RX1 101 yX0_receive ∈ uw_ := (uw_mem 994 (by decide +kernel) (by decide +kernel))
theorem lkX1_108 : Cond.methodLink RX1 108 yX5_hasRival ∈ uw_ := (uw_mem 998 (by decide +kernel) (by decide +kernel))
theorem fgX1_105 : fok_ RX1 105 5 4 := ⟨_, _, _, rfl, by decide, (uw_mem 92 (by decide +kernel) (by decide +kernel)), wkX5⟩
theorem kX1_addForAll {E : ev_} {H : Heap} {a : Nat} {s : st_} {i0 : Int32} {r : st_} (hm : fX1_addForAll s i0 = some r) (h0 : has_ E H a ly_D s) (hf : ev_fr E a) : sp_ E mX1_addForAll [.ref a, .int i0] H (po1 (.inl (none)) (fun Hn => sm_ H Hn a 33 ∧ has_ E Hn a ly_D r)) := by
  refine sp_of (by decide +kernel) rfl rfl ?_
  generalize hQ : po1 _ _ = Q
  have hs : sm_ H H a 33 := sm_.rfl'
  unfold fX1_addForAll at hm
  refine aw_lv (lv' := [(0, .ref a), (1, .int i0)]) [0, 1] rfl ?_
  refine aw_b (pc' := 1) (lv' := [(0, .ref a), (1, .int i0)]) (st' := [.ref a]) [(0, .aload_n 0, 1, .null)] (by decide +kernel) rfl ?_
  refine aw_gl (v := .ref (a + 5)) a 0 h0 eo_D_0 fgX1_21 rfl (by decide +kernel) ?_
  refine aw_b (pc' := 6) (lv' := [(0, .ref a), (1, .int i0)]) (st' := [.ref a, .int i0, .ref (a + 5)]) [(4, .iload_n 1, 1, .null), (5, .aload_n 0, 1, .null)] (by decide +kernel) rfl ?_
  refine aw_gl (v := .int (s 0 9)) a 0 h0 eo_D_0 fgX1_66 rfl (by decide +kernel) ?_
  obtain ⟨r1, e2, hm⟩ := bn_x hm
  refine aw_cv (rest := []) (st1 := []) a 5 (kX0_receive e2 (h0.sub su_D_5_A) (Nat.le_trans hf (Nat.le_add_right _ _))) rfl rfl ckX0_receive lkX1_101 h0 eo_D_5 ⟨_, _, rfl⟩ nkX0_receive rfl rfl rfl (Nat.le_of_ble_eq_true rfl) (Nat.zero_le _) (Nat.zero_le _) (by decide +kernel) (fun H3 z4 => ?_)
  obtain ⟨z4, hn⟩ := z4
  obtain ⟨s5, e6, hm⟩ := bd_x hm
  have h0 := h0.mg su_D_5_A hn z4 rfl e6
  have hs := hs.step z4 (by omega) (by omega)
  refine aw_b (pc' := 14) (lv' := [(2, .int (0 : Int32)), (0, .ref a), (1, .int i0)]) (st' := []) [(12, .iconst 0, 1, .int (0 : Int32)), (13, .istore_n 2, 1, .null)] (by decide +kernel) rfl ?_
  obtain ⟨x14, hx14, hr14⟩ := bn_x hm
  have X14_45 : ∀ (s_x14_45 : st_) (H_x14_45 : Heap), has_ E H_x14_45 a ly_D s_x14_45 → sm_ H H_x14_45 a 33 → fX1_addForAll_x14_45 i0 s_x14_45 = some r → aw E mX1_addForAll Q 45 [(0, .ref a), (1, .int i0)] [] H_x14_45 0 0 := by
    intro s_x14_45 H_x14_45 h0 hs hm
    unfold fX1_addForAll_x14_45 at hm
    refine aw_b (pc' := 46) (lv' := [(0, .ref a), (1, .int i0)]) (st' := [.ref a]) [(45, .aload_n 0, 1, .null)] (by decide +kernel) rfl ?_
    refine aw_gl (v := .ref (a + 1)) a 0 h0 eo_D_0 fgX1_12 rfl (by decide +kernel) ?_
    obtain ⟨r7, e8, hm⟩ := bn_x hm
    refine aw_cv (rest := []) (st1 := [.int r7]) a 1 (kX5_hasRival e8 (h0.sub su_D_1_S)) rfl rfl ckX5_hasRival lkX1_108 h0 eo_D_1 ⟨_, _, rfl⟩ nkX5_hasRival rfl rfl rfl (Nat.le_of_ble_eq_true rfl) (Nat.zero_le _) (Nat.zero_le _) (by decide +kernel) (fun H9 z10 => ?_)
    have h0 := h0.kept0 z10
    have hs := hs.step0 z10
    refine aw_if_eq (off := 15) 67 (by decide) (by decide +kernel) (fun hc => ?_) (fun hc => ?_)
    · have hm := (if_pos hc).symm.trans hm
      obtain rfl := Option.some.inj hm
      subst hQ
      exact aw_vret rfl (Nat.zero_le _) (Nat.zero_le _) (by decide +kernel) ⟨rfl, hs, h0⟩
    · have hm := (if_neg hc).symm.trans hm
      refine aw_b (pc' := 56) (lv' := [(0, .ref a), (1, .int i0)]) (st' := [.ref a]) [(55, .aload_n 0, 1, .null)] (by decide +kernel) rfl ?_
      refine aw_gl (v := .ref (a + 8)) a 0 h0 eo_D_0 fgX1_25 rfl (by decide +kernel) ?_
      refine aw_b (pc' := 61) (lv' := [(0, .ref a), (1, .int i0)]) (st' := [.ref a, .int i0, .ref (a + 8)]) [(59, .iload_n 1, 1, .null), (60, .aload_n 0, 1, .null)] (by decide +kernel) rfl ?_
      refine aw_gl (v := .int (s_x14_45 0 9)) a 0 h0 eo_D_0 fgX1_66 rfl (by decide +kernel) ?_
      obtain ⟨r11, e12, hm⟩ := bn_x hm
      refine aw_cv (rest := []) (st1 := []) a 8 (kX0_receive e12 (h0.sub su_D_8_A) (Nat.le_trans hf (Nat.le_add_right _ _))) rfl rfl ckX0_receive lkX1_101 h0 eo_D_8 ⟨_, _, rfl⟩ nkX0_receive rfl rfl rfl (Nat.le_of_ble_eq_true rfl) (Nat.zero_le _) (Nat.zero_le _) (by decide +kernel) (fun H13 z14 => ?_)
      obtain ⟨z14, hn⟩ := z14
      obtain ⟨s15, e16, hm⟩ := bd_x hm
      have h0 := h0.mg su_D_8_A hn z14 rfl e16
      have hs := hs.step z14 (by omega) (by omega)
      obtain rfl := Option.some.inj hm
      subst hQ
      exact aw_vret rfl (Nat.zero_le _) (Nat.zero_le _) (by decide +kernel) ⟨rfl, hs, h0⟩
  have L14 : ∀ (fu : Nat) (v2_b14 : Int32) (s_b14 : st_) (H_b14 : Heap), has_ E H_b14 a ly_D s_b14 → sm_ H H_b14 a 33 → fX1_addForAll_l14 i0 fu (v2_b14, s_b14) = some x14 → aw E mX1_addForAll Q 14 [(0, .ref a), (1, .int i0), (2, .int v2_b14)] [] H_b14 0 0 := by
    intro fu
    induction fu with
    | zero =>
      intro v2_b14 s_b14 H_b14 h0 hs hm
      exact (it_0 hm).elim
    | succ fu ih14 =>
      intro v2_b14 s_b14 H_b14 h0 hs hm
      obtain ⟨y14, hm, hk14⟩ := it_s hm
      have hm : fX1_addForAll_b14 i0 v2_b14 s_b14 = some y14 := hm
      unfold fX1_addForAll_b14 at hm
      refine aw_b (pc' := 16) (lv' := [(0, .ref a), (1, .int i0), (2, .int v2_b14)]) (st' := [.ref a, .int v2_b14]) [(14, .iload_n 2, 1, .null), (15, .aload_n 0, 1, .null)] (by decide +kernel) rfl ?_
      refine aw_gl (v := .ref (a + 1)) a 0 h0 eo_D_0 fgX1_12 rfl (by decide +kernel) ?_
      refine aw_gl (v := .int (s_b14 1 4)) a 1 h0 eo_D_1 fgX1_105 rfl (by decide +kernel) ?_
      refine aw_ic_ge (off := 23) 45 (by decide) (by decide +kernel) (fun hc => ?_) (fun hc => ?_)
      · have hm := (if_pos hc).symm.trans hm
        cases hm
        refine aw_lv (lv' := [(0, .ref a), (1, .int i0)]) [0, 1] rfl ?_
        exact X14_45 s_b14 H_b14 h0 hs ((congrArg (fX1_addForAll_k14 i0) (show (s_b14) = x14 from hk14)).trans hr14)
      · have hm := (if_neg hc).symm.trans hm
        refine aw_b (pc' := 26) (lv' := [(0, .ref a), (1, .int i0), (2, .int v2_b14)]) (st' := [.ref a]) [(25, .aload_n 0, 1, .null)] (by decide +kernel) rfl ?_
        refine aw_gl (v := .ref (a + 11)) a 0 h0 eo_D_0 fgX1_28 rfl (by decide +kernel) ?_
        refine aw_b (pc' := 30) (lv' := [(0, .ref a), (1, .int i0), (2, .int v2_b14)]) (st' := [.int v2_b14, .ref (a + 11)]) [(29, .iload_n 2, 1, .null)] (by decide +kernel) rfl ?_
        obtain ⟨g17, hm⟩ := gd_x hm
        refine aw_rall a 11 h0 ra_D_11 g17 (by decide +kernel) ?_
        refine aw_b (pc' := 33) (lv' := [(0, .ref a), (1, .int i0), (2, .int v2_b14)]) (st' := [.ref a, .int i0, .ref (a + (3 * ix_ v2_b14 + 15))]) [(31, .iload_n 1, 1, .null), (32, .aload_n 0, 1, .null)] (by decide +kernel) rfl ?_
        refine aw_gl (v := .int (s_b14 0 9)) a 0 h0 eo_D_0 fgX1_66 rfl (by decide +kernel) ?_
        obtain ⟨r18, e19, hm⟩ := bn_x hm
        have q20 := ib_lt g17
        refine aw_cv (rest := []) (st1 := []) a (3 * ix_ v2_b14 + 15) (kX0_receive e19 (h0.sub (so_D_15 _ (ib_lt g17))) (Nat.le_trans hf (Nat.le_add_right _ _))) rfl rfl ckX0_receive lkX1_101 h0 (eow_D_15 _ (ib_lt g17)) ⟨_, _, rfl⟩ nkX0_receive rfl rfl rfl (Nat.le_of_ble_eq_true rfl) (Nat.zero_le _) (Nat.zero_le _) (by decide +kernel) (fun H21 z22 => ?_)
        obtain ⟨z22, hn⟩ := z22
        obtain ⟨s23, e24, hm⟩ := bd_x hm
        have h0 := h0.mg (so_D_15 _ (ib_lt g17)) hn z22 rfl e24
        have hs := hs.step z22 (by omega) (by omega)
        refine aw_b (pc' := 14) (lv' := [(2, .int (v2_b14 + (1 : Int32))), (0, .ref a), (1, .int i0)]) (st' := []) [(39, .iinc 2 1, 3, .int (1 : Int32)), (42, .goto (-28), 3, .null)] (by decide +kernel) rfl ?_
        cases hm
        refine aw_lv (lv' := [(0, .ref a), (1, .int i0), (2, .int (v2_b14 + (1 : Int32)))]) [1, 2, 0] rfl ?_
        exact ih14 (v2_b14 + (1 : Int32)) s23 H21 h0 hs hk14
  refine aw_lv (lv' := [(0, .ref a), (1, .int i0), (2, .int (0 : Int32))]) [1, 2, 0] rfl ?_
  exact L14 FU_ (0 : Int32) s5 H3 h0 hs hx14
def mX1_foeNow : mt_ := (yX1_foeNow, cX1_foeNow, 2, some .int, [], { frames := 0, locals := 0, cells := 0, slots := 0 })
theorem ckX1_foeNow : cokV_ mX1_foeNow := ⟨⟨(uw_mem 1069 (by decide +kernel) (by decide +kernel)), (uw_mem 33 (by decide +kernel) (by decide +kernel)), by decide +kernel, by decide +kernel⟩, (uw_mem 1068 (by decide +kernel) (by decide +kernel)), (uw_mem 16 (by decide +kernel) (by decide +kernel))⟩
theorem nkX1_foeNow : nok_ mX1_foeNow 0 := by decide +kernel
theorem fgX1_91 : fok_ RX1 91 5 16 := ⟨_, _, _, rfl, by decide, (uw_mem 125 (by decide +kernel) (by decide +kernel)), wkX5⟩
theorem fgX1_149 : fok_ RX1 149 5 11 := ⟨_, _, _, rfl, by decide, (uw_mem 111 (by decide +kernel) (by decide +kernel)), wkX5⟩
theorem kX1_foeNow {E : ev_} {H : Heap} {a : Nat} {s : st_} {r : Int32} (hm : fX1_foeNow s = some r) (h0 : has_ E H a ly_D s) : sp_ E mX1_foeNow [.ref a] H (po1 (.inl (some (.int r))) (fun Hn => sm_ H Hn 0 0)) := by
  refine sp_of (by decide +kernel) rfl rfl ?_
  generalize hQ : po1 _ _ = Q
  have hs : sm_ H H 0 0 := sm_.rfl'
  unfold fX1_foeNow at hm
  refine aw_lv (lv' := [(0, .ref a)]) [0] rfl ?_
  refine aw_b (pc' := 1) (lv' := [(0, .ref a)]) (st' := [.ref a]) [(0, .aload_n 0, 1, .null)] (by decide +kernel) rfl ?_
  refine aw_gl (v := .ref (a + 1)) a 0 h0 eo_D_0 fgX1_12 rfl (by decide +kernel) ?_
  refine aw_gl (v := .int (s 1 16)) a 1 h0 eo_D_1 fgX1_91 rfl (by decide +kernel) ?_
  refine aw_b (pc' := 8) (lv' := [(0, .ref a)]) (st' := [.int (-1 : Int32), .int (s 1 16)]) [(7, .iconst (-1), 1, .int (-1 : Int32))] (by decide +kernel) rfl ?_
  have J30 : ∀ (z0_j30 : Int32) (H_j30 : Heap), has_ E H_j30 a ly_D s → sm_ H H_j30 0 0 → fX1_foeNow_j30 s z0_j30 = some r → aw E mX1_foeNow Q 30 [(0, .ref a)] [.int z0_j30] H_j30 0 0 := by
    intro z0_j30 H_j30 h0 hs hm
    unfold fX1_foeNow_j30 at hm
    refine aw_b (pc' := 32) (lv' := [(1, .int z0_j30), (0, .ref a)]) (st' := [.ref a]) [(30, .istore_n 1, 1, .null), (31, .aload_n 0, 1, .null)] (by decide +kernel) rfl ?_
    refine aw_gl (v := .ref (a + 1)) a 0 h0 eo_D_0 fgX1_12 rfl (by decide +kernel) ?_
    refine aw_gl (v := .int (s 1 11)) a 1 h0 eo_D_1 fgX1_149 rfl (by decide +kernel) ?_
    refine aw_b (pc' := 39) (lv' := [(1, .int z0_j30), (0, .ref a)]) (st' := [.int (5 : Int32), .int (s 1 11)]) [(38, .iconst 5, 1, .int (5 : Int32))] (by decide +kernel) rfl ?_
    have J50 : ∀ (H_j50 : Heap), has_ E H_j50 a ly_D s → sm_ H H_j50 0 0 → fX1_foeNow_j50 s = some r → aw E mX1_foeNow Q 50 [(0, .ref a)] [] H_j50 0 0 := by
      intro H_j50 h0 hs hm
      unfold fX1_foeNow_j50 at hm
      refine aw_b (pc' := 51) (lv' := [(0, .ref a)]) (st' := [.ref a]) [(50, .aload_n 0, 1, .null)] (by decide +kernel) rfl ?_
      refine aw_gl (v := .ref (a + 1)) a 0 h0 eo_D_0 fgX1_12 rfl (by decide +kernel) ?_
      refine aw_gl (v := .int (s 1 11)) a 1 h0 eo_D_1 fgX1_149 rfl (by decide +kernel) ?_
      obtain rfl := Option.some.inj hm
      subst hQ
      exact aw_iret rfl (Nat.zero_le _) (Nat.zero_le _) (by decide +kernel) ⟨rfl, hs⟩
    refine aw_ic_ne (off := 11) 50 (by decide) (by decide +kernel) (fun hc => ?_) (fun hc => ?_)
    · have hm := (if_neg hc).symm.trans hm
      refine aw_lv (lv' := [(0, .ref a)]) [1] rfl ?_
      exact J50 H_j30 h0 hs hm
    · have hm := (if_pos hc).symm.trans hm
      refine aw_b (pc' := 43) (lv' := [(1, .int z0_j30), (0, .ref a)]) (st' := [.int z0_j30]) [(42, .iload_n 1, 1, .null)] (by decide +kernel) rfl ?_
      refine aw_if_eq (off := 7) 50 (by decide) (by decide +kernel) (fun hc => ?_) (fun hc => ?_)
      · have hm := (if_pos hc).symm.trans hm
        refine aw_lv (lv' := [(0, .ref a)]) [1] rfl ?_
        exact J50 H_j30 h0 hs hm
      · have hm := (if_neg hc).symm.trans hm
        refine aw_b (pc' := 57) (lv' := [(1, .int z0_j30), (0, .ref a)]) (st' := [.int (4 : Int32)]) [(46, .iconst 4, 1, .int (4 : Int32)), (47, .goto 10, 3, .null)] (by decide +kernel) rfl ?_
        obtain rfl := Option.some.inj hm
        subst hQ
        exact aw_iret rfl (Nat.zero_le _) (Nat.zero_le _) (by decide +kernel) ⟨rfl, hs⟩
  have J29 : ∀ (H_j29 : Heap), has_ E H_j29 a ly_D s → sm_ H H_j29 0 0 → fX1_foeNow_j29 s = some r → aw E mX1_foeNow Q 29 [(0, .ref a)] [] H_j29 0 0 := by
    intro H_j29 h0 hs hm
    unfold fX1_foeNow_j29 at hm
    refine aw_b (pc' := 30) (lv' := [(0, .ref a)]) (st' := [.int (0 : Int32)]) [(29, .iconst 0, 1, .int (0 : Int32))] (by decide +kernel) rfl ?_
    exact J30 (0 : Int32) H_j29 h0 hs hm
  refine aw_ic_eq (off := 21) 29 (by decide) (by decide +kernel) (fun hc => ?_) (fun hc => ?_)
  · have hm := (if_pos hc).symm.trans hm
    exact J29 H h0 hs hm
  · have hm := (if_neg hc).symm.trans hm
    refine aw_b (pc' := 12) (lv' := [(0, .ref a)]) (st' := [.ref a]) [(11, .aload_n 0, 1, .null)] (by decide +kernel) rfl ?_
    refine aw_gl (v := .int (s 0 11)) a 0 h0 eo_D_0 fgX1_72 rfl (by decide +kernel) ?_
    refine aw_b (pc' := 16) (lv' := [(0, .ref a)]) (st' := [.ref a, .int (s 0 11)]) [(15, .aload_n 0, 1, .null)] (by decide +kernel) rfl ?_
    refine aw_gl (v := .ref (a + 1)) a 0 h0 eo_D_0 fgX1_12 rfl (by decide +kernel) ?_
    refine aw_gl (v := .int (s 1 16)) a 1 h0 eo_D_1 fgX1_91 rfl (by decide +kernel) ?_
    refine aw_ic_lt (off := 7) 29 (by decide) (by decide +kernel) (fun hc => ?_) (fun hc => ?_)
    · have hm := (if_pos hc).symm.trans hm
      exact J29 H h0 hs hm
    · have hm := (if_neg hc).symm.trans hm
      refine aw_b (pc' := 30) (lv' := [(0, .ref a)]) (st' := [.int (1 : Int32)]) [(25, .iconst 1, 1, .int (1 : Int32)), (26, .goto 4, 3, .null)] (by decide +kernel) rfl ?_
      exact J30 (1 : Int32) H h0 hs hm
def mX1_addNextAsk : mt_ := (yX1_addNextAsk, cX1_addNextAsk, 1, none, [], { frames := 2, locals := 44, cells := 0, slots := 0 })
theorem ckX1_addNextAsk : cokV_ mX1_addNextAsk := ⟨⟨(uw_mem 1074 (by decide +kernel) (by decide +kernel)), (uw_mem 33 (by decide +kernel) (by decide +kernel)), by decide +kernel, by decide +kernel⟩, (uw_mem 1073 (by decide +kernel) (by decide +kernel)), (uw_mem 17 (by decide +kernel) (by decide +kernel))⟩
theorem nkX1_addNextAsk : nok_ mX1_addNextAsk 0 := by decide +kernel
theorem fgX1_152 : fok_ RX1 152 5 12 := ⟨_, _, _, rfl, by decide, (uw_mem 115 (by decide +kernel) (by decide +kernel)), wkX5⟩
theorem lkX1_155 : Cond.methodLink RX1 155 yX5_askAt ∈ uw_ := (uw_mem 1075 (by decide +kernel) (by decide +kernel))
theorem lkX1_134 : Cond.methodLink RX1 134 yX1_addForAll ∈ uw_ := (uw_mem 1070 (by decide +kernel) (by decide +kernel))
theorem kX1_addNextAsk {E : ev_} {H : Heap} {a : Nat} {s : st_} {r : st_} (hm : fX1_addNextAsk s = some r) (h0 : has_ E H a ly_D s) (hf : ev_fr E a) : sp_ E mX1_addNextAsk [.ref a] H (po1 (.inl (none)) (fun Hn => sm_ H Hn a 33 ∧ has_ E Hn a ly_D r)) := by
  refine sp_of (by decide +kernel) rfl rfl ?_
  generalize hQ : po1 _ _ = Q
  have hs : sm_ H H a 33 := sm_.rfl'
  unfold fX1_addNextAsk at hm
  refine aw_lv (lv' := [(0, .ref a)]) [0] rfl ?_
  refine aw_b (pc' := 1) (lv' := [(0, .ref a)]) (st' := [.ref a]) [(0, .aload_n 0, 1, .null)] (by decide +kernel) rfl ?_
  refine aw_gl (v := .ref (a + 1)) a 0 h0 eo_D_0 fgX1_12 rfl (by decide +kernel) ?_
  refine aw_gl (v := .int (s 1 12)) a 1 h0 eo_D_1 fgX1_152 rfl (by decide +kernel) ?_
  refine aw_if_le (off := 48) 55 (by decide) (by decide +kernel) (fun hc => ?_) (fun hc => ?_)
  · have hm := (if_pos hc).symm.trans hm
    obtain rfl := Option.some.inj hm
    subst hQ
    exact aw_vret rfl (Nat.zero_le _) (Nat.zero_le _) (by decide +kernel) ⟨rfl, hs, h0⟩
  · have hm := (if_neg hc).symm.trans hm
    refine aw_b (pc' := 12) (lv' := [(0, .ref a)]) (st' := [.ref a, .ref a]) [(10, .aload_n 0, 1, .null), (11, .aload_n 0, 1, .null)] (by decide +kernel) rfl ?_
    refine aw_gl (v := .int (s 0 10)) a 0 h0 eo_D_0 fgX1_69 rfl (by decide +kernel) ?_
    refine aw_b (pc' := 18) (lv' := [(0, .ref a)]) (st' := [.ref a, .int ((s 0 10) + (1 : Int32)), .ref a]) [(15, .iconst 1, 1, .int (1 : Int32)), (16, .iadd, 1, .null), (17, .aload_n 0, 1, .null)] (by decide +kernel) rfl ?_
    refine aw_gl (v := .ref (a + 1)) a 0 h0 eo_D_0 fgX1_12 rfl (by decide +kernel) ?_
    refine aw_gl (v := .int (s 1 12)) a 1 h0 eo_D_1 fgX1_152 rfl (by decide +kernel) ?_
    have J37 : ∀ (z1_j37 : Int32) (H_j37 : Heap), has_ E H_j37 a ly_D s → sm_ H H_j37 a 33 → fX1_addNextAsk_j37 s z1_j37 = some r → aw E mX1_addNextAsk Q 37 [(0, .ref a)] [.int z1_j37, .ref a] H_j37 0 0 := by
      intro z1_j37 H_j37 h0 hs hm
      unfold fX1_addNextAsk_j37 at hm
      obtain ⟨s1, e2, hm⟩ := bd_x hm
      refine aw_pl a 0 h0 eo_D_0 fsq_1_10 fpX1_69 hf rfl rfl e2 (by decide +kernel) (fun H3 h0 z4 => ?_)
      have hs := hs.step z4 (by omega) (by omega)
      refine aw_b (pc' := 42) (lv' := [(0, .ref a)]) (st' := [.ref a, .ref a]) [(40, .aload_n 0, 1, .null), (41, .aload_n 0, 1, .null)] (by decide +kernel) rfl ?_
      refine aw_gl (v := .ref (a + 1)) a 0 h0 eo_D_0 fgX1_12 rfl (by decide +kernel) ?_
      refine aw_b (pc' := 46) (lv' := [(0, .ref a)]) (st' := [.ref a, .ref (a + 1), .ref a]) [(45, .aload_n 0, 1, .null)] (by decide +kernel) rfl ?_
      refine aw_gl (v := .int (s1 0 10)) a 0 h0 eo_D_0 fgX1_69 rfl (by decide +kernel) ?_
      obtain ⟨r5, e6, hm⟩ := bn_x hm
      refine aw_cv (rest := [.ref a]) (st1 := [.int r5, .ref a]) a 1 (kX5_askAt e6 (h0.sub su_D_1_S)) rfl rfl ckX5_askAt lkX1_155 h0 eo_D_1 ⟨_, _, rfl⟩ nkX5_askAt rfl rfl rfl (Nat.le_of_ble_eq_true rfl) (Nat.zero_le _) (Nat.zero_le _) (by decide +kernel) (fun H7 z8 => ?_)
      have h0 := h0.kept0 z8
      have hs := hs.step0 z8
      obtain ⟨r9, e10, hm⟩ := bn_x hm
      refine aw_cv (rest := []) (st1 := []) a 0 (kX1_addForAll e10 h0 hf) rfl rfl ckX1_addForAll lkX1_134 h0 eo_D_0 ⟨_, _, rfl⟩ nkX1_addForAll rfl rfl rfl (Nat.le_of_ble_eq_true rfl) (Nat.zero_le _) (Nat.zero_le _) (by decide +kernel) (fun H11 z12 => ?_)
      obtain ⟨z12, hn⟩ := z12
      have h0 := hn
      have hs := hs.step z12 (by omega) (by omega)
      obtain rfl := Option.some.inj hm
      subst hQ
      exact aw_vret rfl (Nat.zero_le _) (Nat.zero_le _) (by decide +kernel) ⟨rfl, hs, h0⟩
    refine aw_ic_ge (off := 12) 36 (by decide) (by decide +kernel) (fun hc => ?_) (fun hc => ?_)
    · have hm := (if_pos hc).symm.trans hm
      refine aw_b (pc' := 37) (lv' := [(0, .ref a)]) (st' := [.int (0 : Int32), .ref a]) [(36, .iconst 0, 1, .int (0 : Int32))] (by decide +kernel) rfl ?_
      exact J37 (0 : Int32) H h0 hs hm
    · have hm := (if_neg hc).symm.trans hm
      refine aw_b (pc' := 28) (lv' := [(0, .ref a)]) (st' := [.ref a, .ref a]) [(27, .aload_n 0, 1, .null)] (by decide +kernel) rfl ?_
      refine aw_gl (v := .int (s 0 10)) a 0 h0 eo_D_0 fgX1_69 rfl (by decide +kernel) ?_
      refine aw_b (pc' := 37) (lv' := [(0, .ref a)]) (st' := [.int ((s 0 10) + (1 : Int32)), .ref a]) [(31, .iconst 1, 1, .int (1 : Int32)), (32, .iadd, 1, .null), (33, .goto 4, 3, .null)] (by decide +kernel) rfl ?_
      exact J37 ((s 0 10) + (1 : Int32)) H h0 hs hm
def mX1_seedBehind : mt_ := (yX1_seedBehind, cX1_seedBehind, 1, some .int, [], { frames := 0, locals := 0, cells := 0, slots := 0 })
theorem ckX1_seedBehind : cokS_ mX1_seedBehind := ⟨⟨(uw_mem 1085 (by decide +kernel) (by decide +kernel)), (uw_mem 33 (by decide +kernel) (by decide +kernel)), by decide +kernel, by decide +kernel⟩, (uw_mem 1084 (by decide +kernel) (by decide +kernel))⟩
theorem nkX1_seedBehind : nok_ mX1_seedBehind 1 := by decide +kernel
theorem kwX1_188 : Cond.constant RX1 188 (32768 : Int32) ∈ uw_ := (uw_mem 1086 (by decide +kernel) (by decide +kernel))
theorem kX1_seedBehind {E : ev_} {H : Heap} {i0 : Int32} {r : Int32} (hm : fX1_seedBehind i0 = some r) : sp_ E mX1_seedBehind [.int i0] H (po1 (.inl (some (.int r))) (fun Hn => sm_ H Hn 0 0)) := by
  refine sp_of (by decide +kernel) rfl rfl ?_
  generalize hQ : po1 _ _ = Q
  have hs : sm_ H H 0 0 := sm_.rfl'
  unfold fX1_seedBehind at hm
  refine aw_lv (lv' := [(0, .int i0)]) [0] rfl ?_
  refine aw_b (pc' := 9) (lv' := [(0, .int i0)]) (st' := [.int (((1103 : Int32) * i0) + (12345 : Int32))]) [(0, .sipush 1103, 3, .int (1103 : Int32)), (3, .iload_n 0, 1, .null), (4, .imul, 1, .null), (5, .sipush 12345, 3, .int (12345 : Int32)), (8, .iadd, 1, .null)] (by decide +kernel) rfl ?_
  refine aw_ldc (v := (32768 : Int32)) kwX1_188 (by decide +kernel) ?_
  refine aw_irem (by decide) (by decide +kernel) ?_
  obtain rfl := Option.some.inj hm
  subst hQ
  exact aw_iret rfl (Nat.zero_le _) (Nat.zero_le _) (by decide +kernel) ⟨rfl, hs⟩
def mX1_weightSum : mt_ := (yX1_weightSum, cX1_weightSum, 3, some .int, [], { frames := 0, locals := 0, cells := 0, slots := 0 })
theorem ckX1_weightSum : cokV_ mX1_weightSum := ⟨⟨(uw_mem 1098 (by decide +kernel) (by decide +kernel)), (uw_mem 33 (by decide +kernel) (by decide +kernel)), by decide +kernel, by decide +kernel⟩, (uw_mem 1096 (by decide +kernel) (by decide +kernel)), (uw_mem 1097 (by decide +kernel) (by decide +kernel))⟩
theorem nkX1_weightSum : nok_ mX1_weightSum 0 := by decide +kernel
theorem kX1_weightSum {E : ev_} {H : Heap} {a : Nat} {s : st_} {r : Int32} (hm : fX1_weightSum s = some r) (h0 : has_ E H a ly_D s) : sp_ E mX1_weightSum [.ref a] H (po1 (.inl (some (.int r))) (fun Hn => sm_ H Hn 0 0)) := by
  refine sp_of (by decide +kernel) rfl rfl ?_
  generalize hQ : po1 _ _ = Q
  have hs : sm_ H H 0 0 := sm_.rfl'
  unfold fX1_weightSum at hm
  refine aw_lv (lv' := [(0, .ref a)]) [0] rfl ?_
  refine aw_b (pc' := 4) (lv' := [(2, .int (0 : Int32)), (1, .int (0 : Int32)), (0, .ref a)]) (st' := []) [(0, .iconst 0, 1, .int (0 : Int32)), (1, .istore_n 1, 1, .null), (2, .iconst 0, 1, .int (0 : Int32)), (3, .istore_n 2, 1, .null)] (by decide +kernel) rfl ?_
  obtain ⟨x4, hx4, hr4⟩ := bn_x hm
  have X4_30 : ∀ (v1_x4_30 : Int32) (H_x4_30 : Heap), has_ E H_x4_30 a ly_D s → sm_ H H_x4_30 0 0 → fX1_weightSum_x4_30 v1_x4_30 = some r → aw E mX1_weightSum Q 30 [(1, .int v1_x4_30)] [] H_x4_30 0 0 := by
    intro v1_x4_30 H_x4_30 h0 hs hm
    unfold fX1_weightSum_x4_30 at hm
    refine aw_b (pc' := 31) (lv' := [(1, .int v1_x4_30)]) (st' := [.int v1_x4_30]) [(30, .iload_n 1, 1, .null)] (by decide +kernel) rfl ?_
    obtain rfl := Option.some.inj hm
    subst hQ
    exact aw_iret rfl (Nat.zero_le _) (Nat.zero_le _) (by decide +kernel) ⟨rfl, hs⟩
  have L4 : ∀ (fu : Nat) (v1_b4 : Int32) (v2_b4 : Int32) (H_b4 : Heap), has_ E H_b4 a ly_D s → sm_ H H_b4 0 0 → fX1_weightSum_l4 s fu (v1_b4, v2_b4) = some x4 → aw E mX1_weightSum Q 4 [(0, .ref a), (1, .int v1_b4), (2, .int v2_b4)] [] H_b4 0 0 := by
    intro fu
    induction fu with
    | zero =>
      intro v1_b4 v2_b4 H_b4 h0 hs hm
      exact (it_0 hm).elim
    | succ fu ih4 =>
      intro v1_b4 v2_b4 H_b4 h0 hs hm
      obtain ⟨y4, hm, hk4⟩ := it_s hm
      have hm : fX1_weightSum_b4 s v1_b4 v2_b4 = some y4 := hm
      unfold fX1_weightSum_b4 at hm
      refine aw_b (pc' := 6) (lv' := [(0, .ref a), (1, .int v1_b4), (2, .int v2_b4)]) (st' := [.ref a, .int v2_b4]) [(4, .iload_n 2, 1, .null), (5, .aload_n 0, 1, .null)] (by decide +kernel) rfl ?_
      refine aw_gl (v := .ref (a + 1)) a 0 h0 eo_D_0 fgX1_12 rfl (by decide +kernel) ?_
      refine aw_gl (v := .int (s 1 4)) a 1 h0 eo_D_1 fgX1_105 rfl (by decide +kernel) ?_
      refine aw_ic_ge (off := 18) 30 (by decide) (by decide +kernel) (fun hc => ?_) (fun hc => ?_)
      · have hm := (if_pos hc).symm.trans hm
        cases hm
        refine aw_lv (lv' := [(1, .int v1_b4)]) [1] rfl ?_
        exact X4_30 v1_b4 H_b4 h0 hs ((congrArg fX1_weightSum_k4 (show (v1_b4) = x4 from hk4)).trans hr4)
      · have hm := (if_neg hc).symm.trans hm
        refine aw_b (pc' := 17) (lv' := [(0, .ref a), (1, .int v1_b4), (2, .int v2_b4)]) (st' := [.ref a, .int v1_b4]) [(15, .iload_n 1, 1, .null), (16, .aload_n 0, 1, .null)] (by decide +kernel) rfl ?_
        refine aw_gl (v := .ref (a + 12)) a 0 h0 eo_D_0 fgX1_32 rfl (by decide +kernel) ?_
        refine aw_b (pc' := 21) (lv' := [(0, .ref a), (1, .int v1_b4), (2, .int v2_b4)]) (st' := [.int v2_b4, .ref (a + 12), .int v1_b4]) [(20, .iload_n 2, 1, .null)] (by decide +kernel) rfl ?_
        obtain ⟨g1, hm⟩ := gd_x hm
        refine aw_ial a 12 h0 rfl g1 (by decide +kernel) ?_
        refine aw_b (pc' := 4) (lv' := [(2, .int (v2_b4 + (1 : Int32))), (1, .int (v1_b4 + (s 12 (ix_ v2_b4)))), (0, .ref a)]) (st' := []) [(22, .iadd, 1, .null), (23, .istore_n 1, 1, .null), (24, .iinc 2 1, 3, .int (1 : Int32)), (27, .goto (-23), 3, .null)] (by decide +kernel) rfl ?_
        cases hm
        refine aw_lv (lv' := [(0, .ref a), (1, .int (v1_b4 + (s 12 (ix_ v2_b4)))), (2, .int (v2_b4 + (1 : Int32)))]) [2, 1, 0] rfl ?_
        exact ih4 (v1_b4 + (s 12 (ix_ v2_b4))) (v2_b4 + (1 : Int32)) H_b4 h0 hs hk4
  refine aw_lv (lv' := [(0, .ref a), (1, .int (0 : Int32)), (2, .int (0 : Int32))]) [2, 1, 0] rfl ?_
  exact L4 FU_ (0 : Int32) (0 : Int32) H h0 hs hx4
def mX1_ruleDrawn : mt_ := (yX1_ruleDrawn, cX1_ruleDrawn, 5, some .int, [], { frames := 1, locals := 22, cells := 0, slots := 0 })
theorem ckX1_ruleDrawn : cokV_ mX1_ruleDrawn := ⟨⟨(uw_mem 1094 (by decide +kernel) (by decide +kernel)), (uw_mem 33 (by decide +kernel) (by decide +kernel)), by decide +kernel, by decide +kernel⟩, (uw_mem 1093 (by decide +kernel) (by decide +kernel)), (uw_mem 19 (by decide +kernel) (by decide +kernel))⟩
theorem nkX1_ruleDrawn : nok_ mX1_ruleDrawn 1 := by decide +kernel
theorem lkX1_195 : Cond.methodLink RX1 195 yX1_weightSum ∈ uw_ := (uw_mem 1095 (by decide +kernel) (by decide +kernel))
theorem kX1_ruleDrawn {E : ev_} {H : Heap} {a : Nat} {s : st_} {i0 : Int32} {r : Int32} (hm : fX1_ruleDrawn s i0 = some r) (h0 : has_ E H a ly_D s) : sp_ E mX1_ruleDrawn [.ref a, .int i0] H (po1 (.inl (some (.int r))) (fun Hn => sm_ H Hn 0 0)) := by
  refine sp_of (by decide +kernel) rfl rfl ?_
  generalize hQ : po1 _ _ = Q
  have hs : sm_ H H 0 0 := sm_.rfl'
  unfold fX1_ruleDrawn at hm
  refine aw_lv (lv' := [(0, .ref a), (1, .int i0)]) [0, 1] rfl ?_
  refine aw_b (pc' := 1) (lv' := [(0, .ref a), (1, .int i0)]) (st' := [.ref a]) [(0, .aload_n 0, 1, .null)] (by decide +kernel) rfl ?_
  obtain ⟨r1, e2, hm⟩ := bn_x hm
  refine aw_cv (rest := []) (st1 := [.int r1]) a 0 (kX1_weightSum e2 h0) rfl rfl ckX1_weightSum lkX1_195 h0 eo_D_0 ⟨_, _, rfl⟩ nkX1_weightSum rfl rfl rfl (Nat.le_of_ble_eq_true rfl) (Nat.zero_le _) (Nat.zero_le _) (by decide +kernel) (fun H3 z4 => ?_)
  have h0 := h0.kept0 z4
  have hs := hs.step0 z4
  refine aw_b (pc' := 6) (lv' := [(2, .int r1), (0, .ref a), (1, .int i0)]) (st' := [.int r1]) [(4, .istore_n 2, 1, .null), (5, .iload_n 2, 1, .null)] (by decide +kernel) rfl ?_
  have J16 : ∀ (z0_j16 : Int32) (H_j16 : Heap), has_ E H_j16 a ly_D s → sm_ H H_j16 0 0 → fX1_ruleDrawn_j16 s z0_j16 = some r → aw E mX1_ruleDrawn Q 16 [(0, .ref a)] [.int z0_j16] H_j16 0 0 := by
    intro z0_j16 H_j16 h0 hs hm
    unfold fX1_ruleDrawn_j16 at hm
    refine aw_b (pc' := 20) (lv' := [(4, .int (0 : Int32)), (3, .int z0_j16), (0, .ref a)]) (st' := []) [(16, .istore_n 3, 1, .null), (17, .iconst 0, 1, .int (0 : Int32)), (18, .istore 4, 2, .null)] (by decide +kernel) rfl ?_
    obtain ⟨x20, hx20, hr20⟩ := bn_x hm
    have X20_62 : ∀ (H_x20_62 : Heap), has_ E H_x20_62 a ly_D s → sm_ H H_x20_62 0 0 → fX1_ruleDrawn_x20_62 = some r → aw E mX1_ruleDrawn Q 62 [] [] H_x20_62 0 0 := by
      intro H_x20_62 h0 hs hm
      unfold fX1_ruleDrawn_x20_62 at hm
      refine aw_b (pc' := 63) (lv' := []) (st' := [.int (0 : Int32)]) [(62, .iconst 0, 1, .int (0 : Int32))] (by decide +kernel) rfl ?_
      obtain rfl := Option.some.inj hm
      subst hQ
      exact aw_iret rfl (Nat.zero_le _) (Nat.zero_le _) (by decide +kernel) ⟨rfl, hs⟩
    have X20_43 : ∀ (v4_x20_43 : Int32) (H_x20_43 : Heap), has_ E H_x20_43 a ly_D s → sm_ H H_x20_43 0 0 → fX1_ruleDrawn_x20_43 v4_x20_43 = some r → aw E mX1_ruleDrawn Q 43 [(4, .int v4_x20_43)] [] H_x20_43 0 0 := by
      intro v4_x20_43 H_x20_43 h0 hs hm
      unfold fX1_ruleDrawn_x20_43 at hm
      refine aw_b (pc' := 45) (lv' := [(4, .int v4_x20_43)]) (st' := [.int v4_x20_43]) [(43, .iload 4, 2, .null)] (by decide +kernel) rfl ?_
      obtain rfl := Option.some.inj hm
      subst hQ
      exact aw_iret rfl (Nat.zero_le _) (Nat.zero_le _) (by decide +kernel) ⟨rfl, hs⟩
    have L20 : ∀ (fu : Nat) (v3_b20 : Int32) (v4_b20 : Int32) (H_b20 : Heap), has_ E H_b20 a ly_D s → sm_ H H_b20 0 0 → fX1_ruleDrawn_l20 s fu (v3_b20, v4_b20) = some x20 → aw E mX1_ruleDrawn Q 20 [(0, .ref a), (3, .int v3_b20), (4, .int v4_b20)] [] H_b20 0 0 := by
      intro fu
      induction fu with
      | zero =>
        intro v3_b20 v4_b20 H_b20 h0 hs hm
        exact (it_0 hm).elim
      | succ fu ih20 =>
        intro v3_b20 v4_b20 H_b20 h0 hs hm
        obtain ⟨y20, hm, hk20⟩ := it_s hm
        have hm : fX1_ruleDrawn_b20 s v3_b20 v4_b20 = some y20 := hm
        unfold fX1_ruleDrawn_b20 at hm
        refine aw_b (pc' := 23) (lv' := [(0, .ref a), (3, .int v3_b20), (4, .int v4_b20)]) (st' := [.ref a, .int v4_b20]) [(20, .iload 4, 2, .null), (22, .aload_n 0, 1, .null)] (by decide +kernel) rfl ?_
        refine aw_gl (v := .ref (a + 1)) a 0 h0 eo_D_0 fgX1_12 rfl (by decide +kernel) ?_
        refine aw_gl (v := .int (s 1 4)) a 1 h0 eo_D_1 fgX1_105 rfl (by decide +kernel) ?_
        refine aw_ic_ge (off := 33) 62 (by decide) (by decide +kernel) (fun hc => ?_) (fun hc => ?_)
        · have hm := (if_pos hc).symm.trans hm
          cases hm
          refine aw_lv (lv' := []) [] rfl ?_
          exact X20_62 H_b20 h0 hs ((congrArg fX1_ruleDrawn_k20 (show (.inr ()) = x20 from hk20)).trans hr20)
        · have hm := (if_neg hc).symm.trans hm
          refine aw_b (pc' := 34) (lv' := [(0, .ref a), (3, .int v3_b20), (4, .int v4_b20)]) (st' := [.ref a, .int v3_b20]) [(32, .iload_n 3, 1, .null), (33, .aload_n 0, 1, .null)] (by decide +kernel) rfl ?_
          refine aw_gl (v := .ref (a + 12)) a 0 h0 eo_D_0 fgX1_32 rfl (by decide +kernel) ?_
          refine aw_b (pc' := 39) (lv' := [(0, .ref a), (3, .int v3_b20), (4, .int v4_b20)]) (st' := [.int v4_b20, .ref (a + 12), .int v3_b20]) [(37, .iload 4, 2, .null)] (by decide +kernel) rfl ?_
          obtain ⟨g5, hm⟩ := gd_x hm
          refine aw_ial a 12 h0 rfl g5 (by decide +kernel) ?_
          refine aw_ic_ge (off := 6) 46 (by decide) (by decide +kernel) (fun hc => ?_) (fun hc => ?_)
          · have hm := (if_pos hc).symm.trans hm
            refine aw_b (pc' := 48) (lv' := [(0, .ref a), (3, .int v3_b20), (4, .int v4_b20)]) (st' := [.ref a, .int v3_b20]) [(46, .iload_n 3, 1, .null), (47, .aload_n 0, 1, .null)] (by decide +kernel) rfl ?_
            refine aw_gl (v := .ref (a + 12)) a 0 h0 eo_D_0 fgX1_32 rfl (by decide +kernel) ?_
            refine aw_b (pc' := 53) (lv' := [(0, .ref a), (3, .int v3_b20), (4, .int v4_b20)]) (st' := [.int v4_b20, .ref (a + 12), .int v3_b20]) [(51, .iload 4, 2, .null)] (by decide +kernel) rfl ?_
            obtain ⟨g6, hm⟩ := gd_x hm
            refine aw_ial a 12 h0 rfl g6 (by decide +kernel) ?_
            refine aw_b (pc' := 20) (lv' := [(4, .int (v4_b20 + (1 : Int32))), (3, .int (v3_b20 - (s 12 (ix_ v4_b20)))), (0, .ref a)]) (st' := []) [(54, .isub, 1, .null), (55, .istore_n 3, 1, .null), (56, .iinc 4 1, 3, .int (1 : Int32)), (59, .goto (-39), 3, .null)] (by decide +kernel) rfl ?_
            cases hm
            refine aw_lv (lv' := [(0, .ref a), (3, .int (v3_b20 - (s 12 (ix_ v4_b20)))), (4, .int (v4_b20 + (1 : Int32)))]) [2, 1, 0] rfl ?_
            exact ih20 (v3_b20 - (s 12 (ix_ v4_b20))) (v4_b20 + (1 : Int32)) H_b20 h0 hs hk20
          · have hm := (if_neg hc).symm.trans hm
            cases hm
            refine aw_lv (lv' := [(4, .int v4_b20)]) [2] rfl ?_
            exact X20_43 v4_b20 H_b20 h0 hs ((congrArg fX1_ruleDrawn_k20 (show (.inl v4_b20) = x20 from hk20)).trans hr20)
    refine aw_lv (lv' := [(0, .ref a), (3, .int z0_j16), (4, .int (0 : Int32))]) [2, 1, 0] rfl ?_
    exact L20 FU_ z0_j16 (0 : Int32) H_j16 h0 hs hx20
  refine aw_if_le (off := 9) 15 (by decide) (by decide +kernel) (fun hc => ?_) (fun hc => ?_)
  · have hm := (if_pos hc).symm.trans hm
    refine aw_b (pc' := 16) (lv' := [(2, .int r1), (0, .ref a), (1, .int i0)]) (st' := [.int (0 : Int32)]) [(15, .iconst 0, 1, .int (0 : Int32))] (by decide +kernel) rfl ?_
    refine aw_lv (lv' := [(0, .ref a)]) [1] rfl ?_
    exact J16 (0 : Int32) H3 h0 hs hm
  · have hm := (if_neg hc).symm.trans hm
    refine aw_b (pc' := 11) (lv' := [(2, .int r1), (0, .ref a), (1, .int i0)]) (st' := [.int r1, .int i0]) [(9, .iload_n 1, 1, .null), (10, .iload_n 2, 1, .null)] (by decide +kernel) rfl ?_
    obtain ⟨g7, hm⟩ := gd_x hm
    refine aw_irem (nz_x g7) (by decide +kernel) ?_
    refine aw_b (pc' := 16) (lv' := [(2, .int r1), (0, .ref a), (1, .int i0)]) (st' := [.int (i0 - i0 / r1 * r1)]) [(12, .goto 4, 3, .null)] (by decide +kernel) rfl ?_
    refine aw_lv (lv' := [(0, .ref a)]) [1] rfl ?_
    exact J16 (i0 - i0 / r1 * r1) H3 h0 hs hm
def mX1_cheapestRule : mt_ := (yX1_cheapestRule, cX1_cheapestRule, 3, some .int, [], { frames := 0, locals := 0, cells := 0, slots := 0 })
theorem ckX1_cheapestRule : cokV_ mX1_cheapestRule := ⟨⟨(uw_mem 1102 (by decide +kernel) (by decide +kernel)), (uw_mem 33 (by decide +kernel) (by decide +kernel)), by decide +kernel, by decide +kernel⟩, (uw_mem 1100 (by decide +kernel) (by decide +kernel)), (uw_mem 1101 (by decide +kernel) (by decide +kernel))⟩
theorem nkX1_cheapestRule : nok_ mX1_cheapestRule 0 := by decide +kernel
theorem fgX1_198 : fok_ RX1 198 0 5 := ⟨_, _, _, rfl, by decide, (uw_mem 239 (by decide +kernel) (by decide +kernel)), wkX0⟩
theorem kX1_cheapestRule {E : ev_} {H : Heap} {a : Nat} {s : st_} {r : Int32} (hm : fX1_cheapestRule s = some r) (h0 : has_ E H a ly_D s) : sp_ E mX1_cheapestRule [.ref a] H (po1 (.inl (some (.int r))) (fun Hn => sm_ H Hn 0 0)) := by
  refine sp_of (by decide +kernel) rfl rfl ?_
  generalize hQ : po1 _ _ = Q
  have hs : sm_ H H 0 0 := sm_.rfl'
  unfold fX1_cheapestRule at hm
  refine aw_lv (lv' := [(0, .ref a)]) [0] rfl ?_
  refine aw_b (pc' := 4) (lv' := [(2, .int (1 : Int32)), (1, .int (0 : Int32)), (0, .ref a)]) (st' := []) [(0, .iconst 0, 1, .int (0 : Int32)), (1, .istore_n 1, 1, .null), (2, .iconst 1, 1, .int (1 : Int32)), (3, .istore_n 2, 1, .null)] (by decide +kernel) rfl ?_
  obtain ⟨x4, hx4, hr4⟩ := bn_x hm
  have X4_44 : ∀ (v1_x4_44 : Int32) (H_x4_44 : Heap), has_ E H_x4_44 a ly_D s → sm_ H H_x4_44 0 0 → fX1_cheapestRule_x4_44 v1_x4_44 = some r → aw E mX1_cheapestRule Q 44 [(1, .int v1_x4_44)] [] H_x4_44 0 0 := by
    intro v1_x4_44 H_x4_44 h0 hs hm
    unfold fX1_cheapestRule_x4_44 at hm
    refine aw_b (pc' := 45) (lv' := [(1, .int v1_x4_44)]) (st' := [.int v1_x4_44]) [(44, .iload_n 1, 1, .null)] (by decide +kernel) rfl ?_
    obtain rfl := Option.some.inj hm
    subst hQ
    exact aw_iret rfl (Nat.zero_le _) (Nat.zero_le _) (by decide +kernel) ⟨rfl, hs⟩
  have L4 : ∀ (fu : Nat) (v1_b4 : Int32) (v2_b4 : Int32) (H_b4 : Heap), has_ E H_b4 a ly_D s → sm_ H H_b4 0 0 → fX1_cheapestRule_l4 s fu (v1_b4, v2_b4) = some x4 → aw E mX1_cheapestRule Q 4 [(0, .ref a), (1, .int v1_b4), (2, .int v2_b4)] [] H_b4 0 0 := by
    intro fu
    induction fu with
    | zero =>
      intro v1_b4 v2_b4 H_b4 h0 hs hm
      exact (it_0 hm).elim
    | succ fu ih4 =>
      intro v1_b4 v2_b4 H_b4 h0 hs hm
      obtain ⟨y4, hm, hk4⟩ := it_s hm
      have hm : fX1_cheapestRule_b4 s v1_b4 v2_b4 = some y4 := hm
      unfold fX1_cheapestRule_b4 at hm
      refine aw_b (pc' := 6) (lv' := [(0, .ref a), (1, .int v1_b4), (2, .int v2_b4)]) (st' := [.ref a, .int v2_b4]) [(4, .iload_n 2, 1, .null), (5, .aload_n 0, 1, .null)] (by decide +kernel) rfl ?_
      refine aw_gl (v := .ref (a + 1)) a 0 h0 eo_D_0 fgX1_12 rfl (by decide +kernel) ?_
      refine aw_gl (v := .int (s 1 4)) a 1 h0 eo_D_1 fgX1_105 rfl (by decide +kernel) ?_
      refine aw_ic_ge (off := 32) 44 (by decide) (by decide +kernel) (fun hc => ?_) (fun hc => ?_)
      · have hm := (if_pos hc).symm.trans hm
        cases hm
        refine aw_lv (lv' := [(1, .int v1_b4)]) [1] rfl ?_
        exact X4_44 v1_b4 H_b4 h0 hs ((congrArg fX1_cheapestRule_k4 (show (v1_b4) = x4 from hk4)).trans hr4)
      · have hm := (if_neg hc).symm.trans hm
        refine aw_b (pc' := 16) (lv' := [(0, .ref a), (1, .int v1_b4), (2, .int v2_b4)]) (st' := [.ref a]) [(15, .aload_n 0, 1, .null)] (by decide +kernel) rfl ?_
        refine aw_gl (v := .ref (a + 11)) a 0 h0 eo_D_0 fgX1_28 rfl (by decide +kernel) ?_
        refine aw_b (pc' := 20) (lv' := [(0, .ref a), (1, .int v1_b4), (2, .int v2_b4)]) (st' := [.int v2_b4, .ref (a + 11)]) [(19, .iload_n 2, 1, .null)] (by decide +kernel) rfl ?_
        obtain ⟨g1, hm⟩ := gd_x hm
        refine aw_rall a 11 h0 ra_D_11 g1 (by decide +kernel) ?_
        refine aw_gl (v := .int (s (3 * ix_ v2_b4 + 15) 5)) a (3 * ix_ v2_b4 + 15) h0 (eow_D_15 _ (ib_lt g1)) fgX1_198 rfl (by decide +kernel) ?_
        refine aw_b (pc' := 25) (lv' := [(0, .ref a), (1, .int v1_b4), (2, .int v2_b4)]) (st' := [.ref a, .int (s (3 * ix_ v2_b4 + 15) 5)]) [(24, .aload_n 0, 1, .null)] (by decide +kernel) rfl ?_
        refine aw_gl (v := .ref (a + 11)) a 0 h0 eo_D_0 fgX1_28 rfl (by decide +kernel) ?_
        refine aw_b (pc' := 29) (lv' := [(0, .ref a), (1, .int v1_b4), (2, .int v2_b4)]) (st' := [.int v1_b4, .ref (a + 11), .int (s (3 * ix_ v2_b4 + 15) 5)]) [(28, .iload_n 1, 1, .null)] (by decide +kernel) rfl ?_
        obtain ⟨g2, hm⟩ := gd_x hm
        refine aw_rall a 11 h0 ra_D_11 g2 (by decide +kernel) ?_
        refine aw_gl (v := .int (s (3 * ix_ v1_b4 + 15) 5)) a (3 * ix_ v1_b4 + 15) h0 (eow_D_15 _ (ib_lt g2)) fgX1_198 rfl (by decide +kernel) ?_
        have J38 : ∀ (v1_j38 : Int32) (H_j38 : Heap), has_ E H_j38 a ly_D s → sm_ H H_j38 0 0 → fX1_cheapestRule_j38 v2_b4 v1_j38 = some y4 → aw E mX1_cheapestRule Q 38 [(0, .ref a), (1, .int v1_j38), (2, .int v2_b4)] [] H_j38 0 0 := by
          intro v1_j38 H_j38 h0 hs hm
          unfold fX1_cheapestRule_j38 at hm
          refine aw_b (pc' := 4) (lv' := [(2, .int (v2_b4 + (1 : Int32))), (0, .ref a), (1, .int v1_j38)]) (st' := []) [(38, .iinc 2 1, 3, .int (1 : Int32)), (41, .goto (-37), 3, .null)] (by decide +kernel) rfl ?_
          cases hm
          refine aw_lv (lv' := [(0, .ref a), (1, .int v1_j38), (2, .int (v2_b4 + (1 : Int32)))]) [1, 2, 0] rfl ?_
          exact ih4 v1_j38 (v2_b4 + (1 : Int32)) H_j38 h0 hs hk4
        refine aw_ic_ge (off := 5) 38 (by decide) (by decide +kernel) (fun hc => ?_) (fun hc => ?_)
        · have hm := (if_pos hc).symm.trans hm
          exact J38 v1_b4 H_b4 h0 hs hm
        · have hm := (if_neg hc).symm.trans hm
          refine aw_b (pc' := 38) (lv' := [(1, .int v2_b4), (0, .ref a), (2, .int v2_b4)]) (st' := []) [(36, .iload_n 2, 1, .null), (37, .istore_n 1, 1, .null)] (by decide +kernel) rfl ?_
          refine aw_lv (lv' := [(0, .ref a), (1, .int v2_b4), (2, .int v2_b4)]) [1, 0, 2] rfl ?_
          exact J38 v2_b4 H_b4 h0 hs hm
  refine aw_lv (lv' := [(0, .ref a), (1, .int (0 : Int32)), (2, .int (1 : Int32))]) [2, 1, 0] rfl ?_
  exact L4 FU_ (0 : Int32) (1 : Int32) H h0 hs hx4
def mX1_ruleBy : mt_ := (yX1_ruleBy, cX1_ruleBy, 4, some .int, [], { frames := 2, locals := 46, cells := 0, slots := 0 })
theorem ckX1_ruleBy : cokV_ mX1_ruleBy := ⟨⟨(uw_mem 1090 (by decide +kernel) (by decide +kernel)), (uw_mem 33 (by decide +kernel) (by decide +kernel)), by decide +kernel, by decide +kernel⟩, (uw_mem 1089 (by decide +kernel) (by decide +kernel)), (uw_mem 18 (by decide +kernel) (by decide +kernel))⟩
theorem nkX1_ruleBy : nok_ mX1_ruleBy 3 := by decide +kernel
theorem lkX1_192 : Cond.methodLink RX1 192 yX1_cheapestRule ∈ uw_ := (uw_mem 1099 (by decide +kernel) (by decide +kernel))
theorem lkX1_189 : Cond.methodLink RX1 189 yX1_ruleDrawn ∈ uw_ := (uw_mem 1091 (by decide +kernel) (by decide +kernel))
theorem kX1_ruleBy {E : ev_} {H : Heap} {a : Nat} {s : st_} {i0 : Int32} {i1 : Int32} {i2 : Int32} {r : Int32} (hm : fX1_ruleBy s i0 i1 i2 = some r) (h0 : has_ E H a ly_D s) : sp_ E mX1_ruleBy [.ref a, .int i0, .int i1, .int i2] H (po1 (.inl (some (.int r))) (fun Hn => sm_ H Hn 0 0)) := by
  refine sp_of (by decide +kernel) rfl rfl ?_
  generalize hQ : po1 _ _ = Q
  have hs : sm_ H H 0 0 := sm_.rfl'
  unfold fX1_ruleBy at hm
  refine aw_lv (lv' := [(0, .ref a), (1, .int i0), (2, .int i1), (3, .int i2)]) [0, 1, 2, 3] rfl ?_
  refine aw_b (pc' := 1) (lv' := [(0, .ref a), (1, .int i0), (2, .int i1), (3, .int i2)]) (st' := [.int i0]) [(0, .iload_n 1, 1, .null)] (by decide +kernel) rfl ?_
  refine aw_if_ne (off := 9) 10 (by decide) (by decide +kernel) (fun hc => ?_) (fun hc => ?_)
  · have hm := (if_neg hc).symm.trans hm
    refine aw_b (pc' := 12) (lv' := [(0, .ref a), (1, .int i0), (2, .int i1), (3, .int i2)]) (st' := [.int (1 : Int32), .int i0]) [(10, .iload_n 1, 1, .null), (11, .iconst 1, 1, .int (1 : Int32))] (by decide +kernel) rfl ?_
    refine aw_ic_ne (off := 8) 20 (by decide) (by decide +kernel) (fun hc => ?_) (fun hc => ?_)
    · have hm := (if_neg hc).symm.trans hm
      refine aw_b (pc' := 21) (lv' := [(0, .ref a), (1, .int i0), (2, .int i1), (3, .int i2)]) (st' := [.ref a]) [(20, .aload_n 0, 1, .null)] (by decide +kernel) rfl ?_
      refine aw_gl (v := .ref (a + 1)) a 0 h0 eo_D_0 fgX1_12 rfl (by decide +kernel) ?_
      refine aw_b (pc' := 25) (lv' := [(0, .ref a), (1, .int i0), (2, .int i1), (3, .int i2)]) (st' := [.int i1, .ref (a + 1)]) [(24, .iload_n 2, 1, .null)] (by decide +kernel) rfl ?_
      obtain ⟨r1, e2, hm⟩ := bn_x hm
      refine aw_cv (rest := []) (st1 := [.int r1]) a 1 (kX5_hasRule e2 (h0.sub su_D_1_S)) rfl rfl ckX5_hasRule lkX1_94 h0 eo_D_1 ⟨_, _, rfl⟩ nkX5_hasRule rfl rfl rfl (Nat.le_of_ble_eq_true rfl) (Nat.zero_le _) (Nat.zero_le _) (by decide +kernel) (fun H3 z4 => ?_)
      have h0 := h0.kept0 z4
      have hs := hs.step0 z4
      refine aw_if_eq (off := 7) 35 (by decide) (by decide +kernel) (fun hc => ?_) (fun hc => ?_)
      · have hm := (if_pos hc).symm.trans hm
        refine aw_b (pc' := 36) (lv' := [(0, .ref a), (1, .int i0), (2, .int i1), (3, .int i2)]) (st' := [.int (0 : Int32)]) [(35, .iconst 0, 1, .int (0 : Int32))] (by decide +kernel) rfl ?_
        obtain rfl := Option.some.inj hm
        subst hQ
        exact aw_iret rfl (Nat.zero_le _) (Nat.zero_le _) (by decide +kernel) ⟨rfl, hs⟩
      · have hm := (if_neg hc).symm.trans hm
        refine aw_b (pc' := 36) (lv' := [(0, .ref a), (1, .int i0), (2, .int i1), (3, .int i2)]) (st' := [.int i1]) [(31, .iload_n 2, 1, .null), (32, .goto 4, 3, .null)] (by decide +kernel) rfl ?_
        obtain rfl := Option.some.inj hm
        subst hQ
        exact aw_iret rfl (Nat.zero_le _) (Nat.zero_le _) (by decide +kernel) ⟨rfl, hs⟩
    · have hm := (if_pos hc).symm.trans hm
      refine aw_b (pc' := 16) (lv' := [(0, .ref a), (1, .int i0), (2, .int i1), (3, .int i2)]) (st' := [.ref a]) [(15, .aload_n 0, 1, .null)] (by decide +kernel) rfl ?_
      obtain ⟨r5, e6, hm⟩ := bn_x hm
      refine aw_cv (rest := []) (st1 := [.int r5]) a 0 (kX1_cheapestRule e6 h0) rfl rfl ckX1_cheapestRule lkX1_192 h0 eo_D_0 ⟨_, _, rfl⟩ nkX1_cheapestRule rfl rfl rfl (Nat.le_of_ble_eq_true rfl) (Nat.zero_le _) (Nat.zero_le _) (by decide +kernel) (fun H7 z8 => ?_)
      have h0 := h0.kept0 z8
      have hs := hs.step0 z8
      obtain rfl := Option.some.inj hm
      subst hQ
      exact aw_iret rfl (Nat.zero_le _) (Nat.zero_le _) (by decide +kernel) ⟨rfl, hs⟩
  · have hm := (if_pos hc).symm.trans hm
    refine aw_b (pc' := 6) (lv' := [(0, .ref a), (1, .int i0), (2, .int i1), (3, .int i2)]) (st' := [.int i2, .ref a]) [(4, .aload_n 0, 1, .null), (5, .iload_n 3, 1, .null)] (by decide +kernel) rfl ?_
    obtain ⟨r9, e10, hm⟩ := bn_x hm
    refine aw_cv (rest := []) (st1 := [.int r9]) a 0 (kX1_ruleDrawn e10 h0) rfl rfl ckX1_ruleDrawn lkX1_189 h0 eo_D_0 ⟨_, _, rfl⟩ nkX1_ruleDrawn rfl rfl rfl (Nat.le_of_ble_eq_true rfl) (Nat.zero_le _) (Nat.zero_le _) (by decide +kernel) (fun H11 z12 => ?_)
    have h0 := h0.kept0 z12
    have hs := hs.step0 z12
    obtain rfl := Option.some.inj hm
    subst hQ
    exact aw_iret rfl (Nat.zero_le _) (Nat.zero_le _) (by decide +kernel) ⟨rfl, hs⟩
def mX1_comingRule : mt_ := (yX1_comingRule, cX1_comingRule, 1, some .int, [], { frames := 3, locals := 69, cells := 0, slots := 0 })
theorem ckX1_comingRule : cokV_ mX1_comingRule := ⟨⟨(uw_mem 1082 (by decide +kernel) (by decide +kernel)), (uw_mem 33 (by decide +kernel) (by decide +kernel)), by decide +kernel, by decide +kernel⟩, (uw_mem 1080 (by decide +kernel) (by decide +kernel)), (uw_mem 1081 (by decide +kernel) (by decide +kernel))⟩
theorem nkX1_comingRule : nok_ mX1_comingRule 0 := by decide +kernel
theorem fgX1_169 : fok_ RX1 169 5 7 := ⟨_, _, _, rfl, by decide, (uw_mem 97 (by decide +kernel) (by decide +kernel)), wkX5⟩
theorem fgX1_175 : fok_ RX1 175 5 8 := ⟨_, _, _, rfl, by decide, (uw_mem 100 (by decide +kernel) (by decide +kernel)), wkX5⟩
theorem lkX1_172 : Cond.methodLink RX1 172 yX1_seedBehind ∈ uw_ := (uw_mem 1083 (by decide +kernel) (by decide +kernel))
theorem lkX1_178 : Cond.methodLink RX1 178 yX1_ruleBy ∈ uw_ := (uw_mem 1087 (by decide +kernel) (by decide +kernel))
theorem kX1_comingRule {E : ev_} {H : Heap} {a : Nat} {s : st_} {r : Int32} (hm : fX1_comingRule s = some r) (h0 : has_ E H a ly_D s) : sp_ E mX1_comingRule [.ref a] H (po1 (.inl (some (.int r))) (fun Hn => sm_ H Hn 0 0)) := by
  refine sp_of (by decide +kernel) rfl rfl ?_
  generalize hQ : po1 _ _ = Q
  have hs : sm_ H H 0 0 := sm_.rfl'
  unfold fX1_comingRule at hm
  refine aw_lv (lv' := [(0, .ref a)]) [0] rfl ?_
  refine aw_b (pc' := 2) (lv' := [(0, .ref a)]) (st' := [.ref a, .ref a]) [(0, .aload_n 0, 1, .null), (1, .aload_n 0, 1, .null)] (by decide +kernel) rfl ?_
  refine aw_gl (v := .ref (a + 1)) a 0 h0 eo_D_0 fgX1_12 rfl (by decide +kernel) ?_
  refine aw_gl (v := .int (s 1 7)) a 1 h0 eo_D_1 fgX1_169 rfl (by decide +kernel) ?_
  refine aw_b (pc' := 9) (lv' := [(0, .ref a)]) (st' := [.ref a, .int (s 1 7), .ref a]) [(8, .aload_n 0, 1, .null)] (by decide +kernel) rfl ?_
  refine aw_gl (v := .ref (a + 1)) a 0 h0 eo_D_0 fgX1_12 rfl (by decide +kernel) ?_
  refine aw_gl (v := .int (s 1 8)) a 1 h0 eo_D_1 fgX1_175 rfl (by decide +kernel) ?_
  refine aw_b (pc' := 16) (lv' := [(0, .ref a)]) (st' := [.ref a, .int (s 1 8), .int (s 1 7), .ref a]) [(15, .aload_n 0, 1, .null)] (by decide +kernel) rfl ?_
  refine aw_gl (v := .int (s 0 7)) a 0 h0 eo_D_0 fgX1_60 rfl (by decide +kernel) ?_
  obtain ⟨r1, e2, hm⟩ := bn_x hm
  refine aw_cs (rest := [.int (s 1 8), .int (s 1 7), .ref a]) (st1 := [.int r1, .int (s 1 8), .int (s 1 7), .ref a]) (kX1_seedBehind e2) rfl rfl ckX1_seedBehind lkX1_172 nkX1_seedBehind rfl rfl rfl (Nat.le_of_ble_eq_true rfl) (Nat.zero_le _) (Nat.zero_le _) (by decide +kernel) (fun H3 z4 => ?_)
  have h0 := h0.kept0 z4
  have hs := hs.step0 z4
  obtain ⟨r5, e6, hm⟩ := bn_x hm
  refine aw_cv (rest := []) (st1 := [.int r5]) a 0 (kX1_ruleBy e6 h0) rfl rfl ckX1_ruleBy lkX1_178 h0 eo_D_0 ⟨_, _, rfl⟩ nkX1_ruleBy rfl rfl rfl (Nat.le_of_ble_eq_true rfl) (Nat.zero_le _) (Nat.zero_le _) (by decide +kernel) (fun H7 z8 => ?_)
  have h0 := h0.kept0 z8
  have hs := hs.step0 z8
  obtain rfl := Option.some.inj hm
  subst hQ
  exact aw_iret rfl (Nat.zero_le _) (Nat.zero_le _) (by decide +kernel) ⟨rfl, hs⟩
def mX1_foreseeHurts : mt_ := (yX1_foreseeHurts, cX1_foreseeHurts, 4, none, [], { frames := 3, locals := 81, cells := 0, slots := 0 })
theorem ckX1_foreseeHurts : cokV_ mX1_foreseeHurts := ⟨⟨(uw_mem 1107 (by decide +kernel) (by decide +kernel)), (uw_mem 33 (by decide +kernel) (by decide +kernel)), by decide +kernel, by decide +kernel⟩, (uw_mem 1105 (by decide +kernel) (by decide +kernel)), (uw_mem 1106 (by decide +kernel) (by decide +kernel))⟩
theorem nkX1_foreseeHurts : nok_ mX1_foreseeHurts 1 := by decide +kernel
theorem fgX1_39 : fok_ RX1 39 1 6 := ⟨_, _, _, rfl, by decide, (uw_mem 294 (by decide +kernel) (by decide +kernel)), wkX1⟩
theorem lkX1_159 : Cond.methodLink RX1 159 yX0_foresee ∈ uw_ := (uw_mem 1108 (by decide +kernel) (by decide +kernel))
theorem su_D_14_I100 : sub_ ly_D 14 ly_I100 := sub_of rfl
theorem fgX1_124 : fok_ RX1 124 5 0 := ⟨_, _, _, rfl, by decide, (uw_mem 76 (by decide +kernel) (by decide +kernel)), wkX5⟩
theorem fgX1_36 : fok_ RX1 36 1 5 := ⟨_, _, _, rfl, by decide, (uw_mem 292 (by decide +kernel) (by decide +kernel)), wkX1⟩
theorem mtX1_163 : ml_ RX1 163 Lib.Math.min.name Lib.Math.min.code 2 .int := ⟨(uw_mem 1133 (by decide +kernel) (by decide +kernel)), (uw_mem 632 (by decide +kernel) (by decide +kernel)), (uw_mem 38 (by decide +kernel) (by decide +kernel)), (uw_mem 633 (by decide +kernel) (by decide +kernel))⟩
theorem kX1_foreseeHurts {E : ev_} {H : Heap} {a : Nat} {s : st_} {i0 : Int32} {r : st_} (hm : fX1_foreseeHurts s i0 = some r) (h0 : has_ E H a ly_D s) (hf : ev_fr E a) : sp_ E mX1_foreseeHurts [.ref a, .int i0] H (po1 (.inl (none)) (fun Hn => sm_ H Hn a 33 ∧ has_ E Hn a ly_D r)) := by
  refine sp_of (by decide +kernel) rfl rfl ?_
  generalize hQ : po1 _ _ = Q
  have hs : sm_ H H a 33 := sm_.rfl'
  unfold fX1_foreseeHurts at hm
  refine aw_lv (lv' := [(0, .ref a), (1, .int i0)]) [0, 1] rfl ?_
  refine aw_b (pc' := 2) (lv' := [(2, .int (0 : Int32)), (0, .ref a), (1, .int i0)]) (st' := []) [(0, .iconst 0, 1, .int (0 : Int32)), (1, .istore_n 2, 1, .null)] (by decide +kernel) rfl ?_
  obtain ⟨x2, hx2, hr2⟩ := bn_x hm
  have X2_90 : ∀ (s_x2_90 : st_) (H_x2_90 : Heap), has_ E H_x2_90 a ly_D s_x2_90 → sm_ H H_x2_90 a 33 → fX1_foreseeHurts_x2_90 i0 s_x2_90 = some r → aw E mX1_foreseeHurts Q 90 [(0, .ref a), (1, .int i0)] [] H_x2_90 0 0 := by
    intro s_x2_90 H_x2_90 h0 hs hm
    unfold fX1_foreseeHurts_x2_90 at hm
    refine aw_b (pc' := 91) (lv' := [(0, .ref a), (1, .int i0)]) (st' := [.ref a]) [(90, .aload_n 0, 1, .null)] (by decide +kernel) rfl ?_
    refine aw_gl (v := .ref (a + 5)) a 0 h0 eo_D_0 fgX1_21 rfl (by decide +kernel) ?_
    refine aw_b (pc' := 95) (lv' := [(0, .ref a), (1, .int i0)]) (st' := [.ref a, .ref (a + 5)]) [(94, .aload_n 0, 1, .null)] (by decide +kernel) rfl ?_
    refine aw_gl (v := .ref (a + 1)) a 0 h0 eo_D_0 fgX1_12 rfl (by decide +kernel) ?_
    refine aw_b (pc' := 100) (lv' := [(0, .ref a), (1, .int i0)]) (st' := [.ref a, .int i0, .ref (a + 1), .ref (a + 5)]) [(98, .iload_n 1, 1, .null), (99, .aload_n 0, 1, .null)] (by decide +kernel) rfl ?_
    refine aw_gl (v := .ref (a + 14)) a 0 h0 eo_D_0 fgX1_39 rfl (by decide +kernel) ?_
    obtain ⟨r1, e2, hm⟩ := bn_x hm
    refine aw_cv (rest := []) (st1 := []) a 5 (kX0_foresee e2 (h0.sub su_D_5_A) (h0.sub su_D_1_S) (h0.sub su_D_14_I100) (Nat.le_trans hf (Nat.le_add_right _ _)) (by omega) (by omega)) rfl rfl ckX0_foresee lkX1_159 h0 eo_D_5 ⟨_, _, rfl⟩ nkX0_foresee rfl rfl rfl (Nat.le_of_ble_eq_true rfl) (Nat.zero_le _) (Nat.zero_le _) (by decide +kernel) (fun H3 z4 => ?_)
    obtain ⟨z4, hn⟩ := z4
    obtain ⟨s5, e6, hm⟩ := bd_x hm
    have h0 := h0.mg su_D_14_I100 hn z4 rfl e6
    have hs := hs.step z4 (by omega) (by omega)
    refine aw_b (pc' := 108) (lv' := [(2, .int (0 : Int32)), (0, .ref a), (1, .int i0)]) (st' := []) [(106, .iconst 0, 1, .int (0 : Int32)), (107, .istore_n 2, 1, .null)] (by decide +kernel) rfl ?_
    obtain ⟨x108, hx108, hr108⟩ := bn_x hm
    have X108_144 : ∀ (s_x108_144 : st_) (H_x108_144 : Heap), has_ E H_x108_144 a ly_D s_x108_144 → sm_ H H_x108_144 a 33 → fX1_foreseeHurts_x108_144 s_x108_144 = some r → aw E mX1_foreseeHurts Q 144 [] [] H_x108_144 0 0 := by
      intro s_x108_144 H_x108_144 h0 hs hm
      unfold fX1_foreseeHurts_x108_144 at hm
      obtain rfl := Option.some.inj hm
      subst hQ
      exact aw_vret rfl (Nat.zero_le _) (Nat.zero_le _) (by decide +kernel) ⟨rfl, hs, h0⟩
    have L108 : ∀ (fu : Nat) (v2_b108 : Int32) (s_b108 : st_) (H_b108 : Heap), has_ E H_b108 a ly_D s_b108 → sm_ H H_b108 a 33 → fX1_foreseeHurts_l108 fu (v2_b108, s_b108) = some x108 → aw E mX1_foreseeHurts Q 108 [(0, .ref a), (2, .int v2_b108)] [] H_b108 0 0 := by
      intro fu
      induction fu with
      | zero =>
        intro v2_b108 s_b108 H_b108 h0 hs hm
        exact (it_0 hm).elim
      | succ fu ih108 =>
        intro v2_b108 s_b108 H_b108 h0 hs hm
        obtain ⟨y108, hm, hk108⟩ := it_s hm
        have hm : fX1_foreseeHurts_b108 v2_b108 s_b108 = some y108 := hm
        unfold fX1_foreseeHurts_b108 at hm
        refine aw_b (pc' := 110) (lv' := [(0, .ref a), (2, .int v2_b108)]) (st' := [.ref a, .int v2_b108]) [(108, .iload_n 2, 1, .null), (109, .aload_n 0, 1, .null)] (by decide +kernel) rfl ?_
        refine aw_gl (v := .ref (a + 1)) a 0 h0 eo_D_0 fgX1_12 rfl (by decide +kernel) ?_
        refine aw_gl (v := .int (s_b108 1 0)) a 1 h0 eo_D_1 fgX1_124 rfl (by decide +kernel) ?_
        refine aw_ic_ge (off := 28) 144 (by decide) (by decide +kernel) (fun hc => ?_) (fun hc => ?_)
        · have hm := (if_pos hc).symm.trans hm
          cases hm
          refine aw_lv (lv' := []) [] rfl ?_
          exact X108_144 s_b108 H_b108 h0 hs ((congrArg fX1_foreseeHurts_k108 (show (s_b108) = x108 from hk108)).trans hr108)
        · have hm := (if_neg hc).symm.trans hm
          refine aw_b (pc' := 120) (lv' := [(0, .ref a), (2, .int v2_b108)]) (st' := [.ref a]) [(119, .aload_n 0, 1, .null)] (by decide +kernel) rfl ?_
          refine aw_gl (v := .ref (a + 13)) a 0 h0 eo_D_0 fgX1_36 rfl (by decide +kernel) ?_
          refine aw_b (pc' := 125) (lv' := [(0, .ref a), (2, .int v2_b108)]) (st' := [.ref a, .int v2_b108, .ref (a + 13)]) [(123, .iload_n 2, 1, .null), (124, .aload_n 0, 1, .null)] (by decide +kernel) rfl ?_
          refine aw_gl (v := .ref (a + 14)) a 0 h0 eo_D_0 fgX1_39 rfl (by decide +kernel) ?_
          refine aw_b (pc' := 129) (lv' := [(0, .ref a), (2, .int v2_b108)]) (st' := [.int v2_b108, .ref (a + 14), .int v2_b108, .ref (a + 13)]) [(128, .iload_n 2, 1, .null)] (by decide +kernel) rfl ?_
          obtain ⟨g7, hm⟩ := gd_x hm
          refine aw_ial a 14 h0 rfl g7 (by decide +kernel) ?_
          refine aw_b (pc' := 131) (lv' := [(0, .ref a), (2, .int v2_b108)]) (st' := [.ref a, .int (s_b108 14 (ix_ v2_b108)), .int v2_b108, .ref (a + 13)]) [(130, .aload_n 0, 1, .null)] (by decide +kernel) rfl ?_
          refine aw_gl (v := .ref (a + 13)) a 0 h0 eo_D_0 fgX1_36 rfl (by decide +kernel) ?_
          refine aw_b (pc' := 135) (lv' := [(0, .ref a), (2, .int v2_b108)]) (st' := [.int v2_b108, .ref (a + 13), .int (s_b108 14 (ix_ v2_b108)), .int v2_b108, .ref (a + 13)]) [(134, .iload_n 2, 1, .null)] (by decide +kernel) rfl ?_
          obtain ⟨g8, hm⟩ := gd_x hm
          refine aw_ial a 13 h0 rfl g8 (by decide +kernel) ?_
          refine aw_b (pc' := 137) (lv' := [(0, .ref a), (2, .int v2_b108)]) (st' := [.int ((s_b108 14 (ix_ v2_b108)) - (s_b108 13 (ix_ v2_b108))), .int v2_b108, .ref (a + 13)]) [(136, .isub, 1, .null)] (by decide +kernel) rfl ?_
          obtain ⟨g9, hm⟩ := gd_x hm
          obtain ⟨s10, e11, hm⟩ := bd_x hm
          refine aw_isl a 13 h0 rfl hf g9 e11 (by decide +kernel) (fun H12 h0 z13 => ?_)
          have hs := hs.step z13 (by omega) (by omega)
          refine aw_b (pc' := 108) (lv' := [(2, .int (v2_b108 + (1 : Int32))), (0, .ref a)]) (st' := []) [(138, .iinc 2 1, 3, .int (1 : Int32)), (141, .goto (-33), 3, .null)] (by decide +kernel) rfl ?_
          cases hm
          refine aw_lv (lv' := [(0, .ref a), (2, .int (v2_b108 + (1 : Int32)))]) [1, 0] rfl ?_
          exact ih108 (v2_b108 + (1 : Int32)) s10 H12 h0 hs hk108
    refine aw_lv (lv' := [(0, .ref a), (2, .int (0 : Int32))]) [1, 0] rfl ?_
    exact L108 FU_ (0 : Int32) s5 H3 h0 hs hx108
  have L2 : ∀ (fu : Nat) (v2_b2 : Int32) (s_b2 : st_) (H_b2 : Heap), has_ E H_b2 a ly_D s_b2 → sm_ H H_b2 a 33 → fX1_foreseeHurts_l2 fu (v2_b2, s_b2) = some x2 → aw E mX1_foreseeHurts Q 2 [(0, .ref a), (1, .int i0), (2, .int v2_b2)] [] H_b2 0 0 := by
    intro fu
    induction fu with
    | zero =>
      intro v2_b2 s_b2 H_b2 h0 hs hm
      exact (it_0 hm).elim
    | succ fu ih2 =>
      intro v2_b2 s_b2 H_b2 h0 hs hm
      obtain ⟨y2, hm, hk2⟩ := it_s hm
      have hm : fX1_foreseeHurts_b2 v2_b2 s_b2 = some y2 := hm
      unfold fX1_foreseeHurts_b2 at hm
      refine aw_b (pc' := 4) (lv' := [(0, .ref a), (1, .int i0), (2, .int v2_b2)]) (st' := [.ref a, .int v2_b2]) [(2, .iload_n 2, 1, .null), (3, .aload_n 0, 1, .null)] (by decide +kernel) rfl ?_
      refine aw_gl (v := .ref (a + 1)) a 0 h0 eo_D_0 fgX1_12 rfl (by decide +kernel) ?_
      refine aw_gl (v := .int (s_b2 1 4)) a 1 h0 eo_D_1 fgX1_105 rfl (by decide +kernel) ?_
      refine aw_ic_ge (off := 80) 90 (by decide) (by decide +kernel) (fun hc => ?_) (fun hc => ?_)
      · have hm := (if_pos hc).symm.trans hm
        cases hm
        refine aw_lv (lv' := [(0, .ref a), (1, .int i0)]) [0, 1] rfl ?_
        exact X2_90 s_b2 H_b2 h0 hs ((congrArg (fX1_foreseeHurts_k2 i0) (show (s_b2) = x2 from hk2)).trans hr2)
      · have hm := (if_neg hc).symm.trans hm
        refine aw_b (pc' := 14) (lv' := [(0, .ref a), (1, .int i0), (2, .int v2_b2)]) (st' := [.ref a]) [(13, .aload_n 0, 1, .null)] (by decide +kernel) rfl ?_
        refine aw_gl (v := .ref (a + 11)) a 0 h0 eo_D_0 fgX1_28 rfl (by decide +kernel) ?_
        refine aw_b (pc' := 18) (lv' := [(0, .ref a), (1, .int i0), (2, .int v2_b2)]) (st' := [.int v2_b2, .ref (a + 11)]) [(17, .iload_n 2, 1, .null)] (by decide +kernel) rfl ?_
        obtain ⟨g14, hm⟩ := gd_x hm
        refine aw_rall a 11 h0 ra_D_11 g14 (by decide +kernel) ?_
        refine aw_b (pc' := 20) (lv' := [(0, .ref a), (1, .int i0), (2, .int v2_b2)]) (st' := [.ref a, .ref (a + (3 * ix_ v2_b2 + 15))]) [(19, .aload_n 0, 1, .null)] (by decide +kernel) rfl ?_
        refine aw_gl (v := .ref (a + 1)) a 0 h0 eo_D_0 fgX1_12 rfl (by decide +kernel) ?_
        refine aw_b (pc' := 25) (lv' := [(0, .ref a), (1, .int i0), (2, .int v2_b2)]) (st' := [.ref a, .int v2_b2, .ref (a + 1), .ref (a + (3 * ix_ v2_b2 + 15))]) [(23, .iload_n 2, 1, .null), (24, .aload_n 0, 1, .null)] (by decide +kernel) rfl ?_
        refine aw_gl (v := .ref (a + 14)) a 0 h0 eo_D_0 fgX1_39 rfl (by decide +kernel) ?_
        obtain ⟨r15, e16, hm⟩ := bn_x hm
        have q17 := ib_lt g14
        refine aw_cv (rest := []) (st1 := []) a (3 * ix_ v2_b2 + 15) (kX0_foresee e16 (h0.sub (so_D_15 _ (ib_lt g14))) (h0.sub su_D_1_S) (h0.sub su_D_14_I100) (Nat.le_trans hf (Nat.le_add_right _ _)) (by omega) (by omega)) rfl rfl ckX0_foresee lkX1_159 h0 (eow_D_15 _ (ib_lt g14)) ⟨_, _, rfl⟩ nkX0_foresee rfl rfl rfl (Nat.le_of_ble_eq_true rfl) (Nat.zero_le _) (Nat.zero_le _) (by decide +kernel) (fun H18 z19 => ?_)
        obtain ⟨z19, hn⟩ := z19
        obtain ⟨s20, e21, hm⟩ := bd_x hm
        have h0 := h0.mg su_D_14_I100 hn z19 rfl e21
        have hs := hs.step z19 (by omega) (by omega)
        refine aw_b (pc' := 33) (lv' := [(3, .int (0 : Int32)), (0, .ref a), (1, .int i0), (2, .int v2_b2)]) (st' := []) [(31, .iconst 0, 1, .int (0 : Int32)), (32, .istore_n 3, 1, .null)] (by decide +kernel) rfl ?_
        obtain ⟨x33, hx33, hr33⟩ := bn_x hm
        have X33_84 : ∀ (s_x33_84 : st_) (H_x33_84 : Heap), has_ E H_x33_84 a ly_D s_x33_84 → sm_ H H_x33_84 a 33 → fX1_foreseeHurts_x33_84 v2_b2 s_x33_84 = some y2 → aw E mX1_foreseeHurts Q 84 [(0, .ref a), (1, .int i0), (2, .int v2_b2)] [] H_x33_84 0 0 := by
          intro s_x33_84 H_x33_84 h0 hs hm
          unfold fX1_foreseeHurts_x33_84 at hm
          refine aw_b (pc' := 2) (lv' := [(2, .int (v2_b2 + (1 : Int32))), (0, .ref a), (1, .int i0)]) (st' := []) [(84, .iinc 2 1, 3, .int (1 : Int32)), (87, .goto (-85), 3, .null)] (by decide +kernel) rfl ?_
          cases hm
          refine aw_lv (lv' := [(0, .ref a), (1, .int i0), (2, .int (v2_b2 + (1 : Int32)))]) [1, 2, 0] rfl ?_
          exact ih2 (v2_b2 + (1 : Int32)) s_x33_84 H_x33_84 h0 hs hk2
        have L33 : ∀ (fu : Nat) (v3_b33 : Int32) (s_b33 : st_) (H_b33 : Heap), has_ E H_b33 a ly_D s_b33 → sm_ H H_b33 a 33 → fX1_foreseeHurts_l33 v2_b2 fu (v3_b33, s_b33) = some x33 → aw E mX1_foreseeHurts Q 33 [(0, .ref a), (1, .int i0), (2, .int v2_b2), (3, .int v3_b33)] [] H_b33 0 0 := by
          intro fu
          induction fu with
          | zero =>
            intro v3_b33 s_b33 H_b33 h0 hs hm
            exact (it_0 hm).elim
          | succ fu ih33 =>
            intro v3_b33 s_b33 H_b33 h0 hs hm
            obtain ⟨y33, hm, hk33⟩ := it_s hm
            have hm : fX1_foreseeHurts_b33 v2_b2 v3_b33 s_b33 = some y33 := hm
            unfold fX1_foreseeHurts_b33 at hm
            refine aw_b (pc' := 35) (lv' := [(0, .ref a), (1, .int i0), (2, .int v2_b2), (3, .int v3_b33)]) (st' := [.ref a, .int v3_b33]) [(33, .iload_n 3, 1, .null), (34, .aload_n 0, 1, .null)] (by decide +kernel) rfl ?_
            refine aw_gl (v := .ref (a + 1)) a 0 h0 eo_D_0 fgX1_12 rfl (by decide +kernel) ?_
            refine aw_gl (v := .int (s_b33 1 0)) a 1 h0 eo_D_1 fgX1_124 rfl (by decide +kernel) ?_
            refine aw_ic_ge (off := 43) 84 (by decide) (by decide +kernel) (fun hc => ?_) (fun hc => ?_)
            · have hm := (if_pos hc).symm.trans hm
              cases hm
              refine aw_lv (lv' := [(0, .ref a), (1, .int i0), (2, .int v2_b2)]) [0, 1, 2] rfl ?_
              exact X33_84 s_b33 H_b33 h0 hs ((congrArg (fX1_foreseeHurts_k33 v2_b2) (show (s_b33) = x33 from hk33)).trans hr33)
            · have hm := (if_neg hc).symm.trans hm
              refine aw_b (pc' := 45) (lv' := [(0, .ref a), (1, .int i0), (2, .int v2_b2), (3, .int v3_b33)]) (st' := [.ref a]) [(44, .aload_n 0, 1, .null)] (by decide +kernel) rfl ?_
              refine aw_gl (v := .ref (a + 13)) a 0 h0 eo_D_0 fgX1_36 rfl (by decide +kernel) ?_
              refine aw_b (pc' := 50) (lv' := [(0, .ref a), (1, .int i0), (2, .int v2_b2), (3, .int v3_b33)]) (st' := [.int v2_b2, .int v3_b33, .ref (a + 13)]) [(48, .iload_n 3, 1, .null), (49, .iload_n 2, 1, .null)] (by decide +kernel) rfl ?_
              have J77 : ∀ (z2_j77 : Int32) (H_j77 : Heap), has_ E H_j77 a ly_D s_b33 → sm_ H H_j77 a 33 → fX1_foreseeHurts_j77 v3_b33 s_b33 z2_j77 = some y33 → aw E mX1_foreseeHurts Q 77 [(0, .ref a), (1, .int i0), (2, .int v2_b2), (3, .int v3_b33)] [.int z2_j77, .int v3_b33, .ref (a + 13)] H_j77 0 0 := by
                intro z2_j77 H_j77 h0 hs hm
                unfold fX1_foreseeHurts_j77 at hm
                obtain ⟨g22, hm⟩ := gd_x hm
                obtain ⟨s23, e24, hm⟩ := bd_x hm
                refine aw_isl a 13 h0 rfl hf g22 e24 (by decide +kernel) (fun H25 h0 z26 => ?_)
                have hs := hs.step z26 (by omega) (by omega)
                refine aw_b (pc' := 33) (lv' := [(3, .int (v3_b33 + (1 : Int32))), (0, .ref a), (1, .int i0), (2, .int v2_b2)]) (st' := []) [(78, .iinc 3 1, 3, .int (1 : Int32)), (81, .goto (-48), 3, .null)] (by decide +kernel) rfl ?_
                cases hm
                refine aw_lv (lv' := [(0, .ref a), (1, .int i0), (2, .int v2_b2), (3, .int (v3_b33 + (1 : Int32)))]) [1, 2, 3, 0] rfl ?_
                exact ih33 (v3_b33 + (1 : Int32)) s23 H25 h0 hs hk33
              refine aw_if_ne (off := 12) 62 (by decide) (by decide +kernel) (fun hc => ?_) (fun hc => ?_)
              · have hm := (if_neg hc).symm.trans hm
                refine aw_b (pc' := 63) (lv' := [(0, .ref a), (1, .int i0), (2, .int v2_b2), (3, .int v3_b33)]) (st' := [.ref a, .int v3_b33, .ref (a + 13)]) [(62, .aload_n 0, 1, .null)] (by decide +kernel) rfl ?_
                refine aw_gl (v := .ref (a + 13)) a 0 h0 eo_D_0 fgX1_36 rfl (by decide +kernel) ?_
                refine aw_b (pc' := 67) (lv' := [(0, .ref a), (1, .int i0), (2, .int v2_b2), (3, .int v3_b33)]) (st' := [.int v3_b33, .ref (a + 13), .int v3_b33, .ref (a + 13)]) [(66, .iload_n 3, 1, .null)] (by decide +kernel) rfl ?_
                obtain ⟨g27, hm⟩ := gd_x hm
                refine aw_ial a 13 h0 rfl g27 (by decide +kernel) ?_
                refine aw_b (pc' := 69) (lv' := [(0, .ref a), (1, .int i0), (2, .int v2_b2), (3, .int v3_b33)]) (st' := [.ref a, .int (s_b33 13 (ix_ v3_b33)), .int v3_b33, .ref (a + 13)]) [(68, .aload_n 0, 1, .null)] (by decide +kernel) rfl ?_
                refine aw_gl (v := .ref (a + 14)) a 0 h0 eo_D_0 fgX1_39 rfl (by decide +kernel) ?_
                refine aw_b (pc' := 73) (lv' := [(0, .ref a), (1, .int i0), (2, .int v2_b2), (3, .int v3_b33)]) (st' := [.int v3_b33, .ref (a + 14), .int (s_b33 13 (ix_ v3_b33)), .int v3_b33, .ref (a + 13)]) [(72, .iload_n 3, 1, .null)] (by decide +kernel) rfl ?_
                obtain ⟨g28, hm⟩ := gd_x hm
                refine aw_ial a 14 h0 rfl g28 (by decide +kernel) ?_
                refine aw_mn (rest := [.int v3_b33, .ref (a + 13)]) mtX1_163 rfl (Nat.le_of_ble_eq_true rfl) (Nat.zero_le _) (Nat.zero_le _) (by decide +kernel) ?_
                exact J77 (if (s_b33 14 (ix_ v3_b33)) < (s_b33 13 (ix_ v3_b33)) then (s_b33 14 (ix_ v3_b33)) else (s_b33 13 (ix_ v3_b33))) H_b33 h0 hs hm
              · have hm := (if_pos hc).symm.trans hm
                refine aw_b (pc' := 54) (lv' := [(0, .ref a), (1, .int i0), (2, .int v2_b2), (3, .int v3_b33)]) (st' := [.ref a, .int v3_b33, .ref (a + 13)]) [(53, .aload_n 0, 1, .null)] (by decide +kernel) rfl ?_
                refine aw_gl (v := .ref (a + 14)) a 0 h0 eo_D_0 fgX1_39 rfl (by decide +kernel) ?_
                refine aw_b (pc' := 58) (lv' := [(0, .ref a), (1, .int i0), (2, .int v2_b2), (3, .int v3_b33)]) (st' := [.int v3_b33, .ref (a + 14), .int v3_b33, .ref (a + 13)]) [(57, .iload_n 3, 1, .null)] (by decide +kernel) rfl ?_
                obtain ⟨g29, hm⟩ := gd_x hm
                refine aw_ial a 14 h0 rfl g29 (by decide +kernel) ?_
                refine aw_b (pc' := 77) (lv' := [(0, .ref a), (1, .int i0), (2, .int v2_b2), (3, .int v3_b33)]) (st' := [.int (s_b33 14 (ix_ v3_b33)), .int v3_b33, .ref (a + 13)]) [(59, .goto 18, 3, .null)] (by decide +kernel) rfl ?_
                exact J77 (s_b33 14 (ix_ v3_b33)) H_b33 h0 hs hm
        refine aw_lv (lv' := [(0, .ref a), (1, .int i0), (2, .int v2_b2), (3, .int (0 : Int32))]) [1, 2, 3, 0] rfl ?_
        exact L33 FU_ (0 : Int32) s20 H18 h0 hs hx33
  refine aw_lv (lv' := [(0, .ref a), (1, .int i0), (2, .int (0 : Int32))]) [1, 2, 0] rfl ?_
  exact L2 FU_ (0 : Int32) s H h0 hs hx2
def mX1_mostHurtful : mt_ := (yX1_mostHurtful, cX1_mostHurtful, 3, some .int, [], { frames := 0, locals := 0, cells := 0, slots := 0 })
theorem ckX1_mostHurtful : cokV_ mX1_mostHurtful := ⟨⟨(uw_mem 1137 (by decide +kernel) (by decide +kernel)), (uw_mem 33 (by decide +kernel) (by decide +kernel)), by decide +kernel, by decide +kernel⟩, (uw_mem 1135 (by decide +kernel) (by decide +kernel)), (uw_mem 1136 (by decide +kernel) (by decide +kernel))⟩
theorem nkX1_mostHurtful : nok_ mX1_mostHurtful 0 := by decide +kernel
theorem kX1_mostHurtful {E : ev_} {H : Heap} {a : Nat} {s : st_} {r : Int32} (hm : fX1_mostHurtful s = some r) (h0 : has_ E H a ly_D s) : sp_ E mX1_mostHurtful [.ref a] H (po1 (.inl (some (.int r))) (fun Hn => sm_ H Hn 0 0)) := by
  refine sp_of (by decide +kernel) rfl rfl ?_
  generalize hQ : po1 _ _ = Q
  have hs : sm_ H H 0 0 := sm_.rfl'
  unfold fX1_mostHurtful at hm
  refine aw_lv (lv' := [(0, .ref a)]) [0] rfl ?_
  refine aw_b (pc' := 4) (lv' := [(2, .int (1 : Int32)), (1, .int (0 : Int32)), (0, .ref a)]) (st' := []) [(0, .iconst 0, 1, .int (0 : Int32)), (1, .istore_n 1, 1, .null), (2, .iconst 1, 1, .int (1 : Int32)), (3, .istore_n 2, 1, .null)] (by decide +kernel) rfl ?_
  obtain ⟨x4, hx4, hr4⟩ := bn_x hm
  have X4_38 : ∀ (v1_x4_38 : Int32) (H_x4_38 : Heap), has_ E H_x4_38 a ly_D s → sm_ H H_x4_38 0 0 → fX1_mostHurtful_x4_38 v1_x4_38 = some r → aw E mX1_mostHurtful Q 38 [(1, .int v1_x4_38)] [] H_x4_38 0 0 := by
    intro v1_x4_38 H_x4_38 h0 hs hm
    unfold fX1_mostHurtful_x4_38 at hm
    refine aw_b (pc' := 39) (lv' := [(1, .int v1_x4_38)]) (st' := [.int v1_x4_38]) [(38, .iload_n 1, 1, .null)] (by decide +kernel) rfl ?_
    obtain rfl := Option.some.inj hm
    subst hQ
    exact aw_iret rfl (Nat.zero_le _) (Nat.zero_le _) (by decide +kernel) ⟨rfl, hs⟩
  have L4 : ∀ (fu : Nat) (v1_b4 : Int32) (v2_b4 : Int32) (H_b4 : Heap), has_ E H_b4 a ly_D s → sm_ H H_b4 0 0 → fX1_mostHurtful_l4 s fu (v1_b4, v2_b4) = some x4 → aw E mX1_mostHurtful Q 4 [(0, .ref a), (1, .int v1_b4), (2, .int v2_b4)] [] H_b4 0 0 := by
    intro fu
    induction fu with
    | zero =>
      intro v1_b4 v2_b4 H_b4 h0 hs hm
      exact (it_0 hm).elim
    | succ fu ih4 =>
      intro v1_b4 v2_b4 H_b4 h0 hs hm
      obtain ⟨y4, hm, hk4⟩ := it_s hm
      have hm : fX1_mostHurtful_b4 s v1_b4 v2_b4 = some y4 := hm
      unfold fX1_mostHurtful_b4 at hm
      refine aw_b (pc' := 6) (lv' := [(0, .ref a), (1, .int v1_b4), (2, .int v2_b4)]) (st' := [.ref a, .int v2_b4]) [(4, .iload_n 2, 1, .null), (5, .aload_n 0, 1, .null)] (by decide +kernel) rfl ?_
      refine aw_gl (v := .ref (a + 1)) a 0 h0 eo_D_0 fgX1_12 rfl (by decide +kernel) ?_
      refine aw_gl (v := .int (s 1 0)) a 1 h0 eo_D_1 fgX1_124 rfl (by decide +kernel) ?_
      refine aw_ic_ge (off := 26) 38 (by decide) (by decide +kernel) (fun hc => ?_) (fun hc => ?_)
      · have hm := (if_pos hc).symm.trans hm
        cases hm
        refine aw_lv (lv' := [(1, .int v1_b4)]) [1] rfl ?_
        exact X4_38 v1_b4 H_b4 h0 hs ((congrArg fX1_mostHurtful_k4 (show (v1_b4) = x4 from hk4)).trans hr4)
      · have hm := (if_neg hc).symm.trans hm
        refine aw_b (pc' := 16) (lv' := [(0, .ref a), (1, .int v1_b4), (2, .int v2_b4)]) (st' := [.ref a]) [(15, .aload_n 0, 1, .null)] (by decide +kernel) rfl ?_
        refine aw_gl (v := .ref (a + 13)) a 0 h0 eo_D_0 fgX1_36 rfl (by decide +kernel) ?_
        refine aw_b (pc' := 20) (lv' := [(0, .ref a), (1, .int v1_b4), (2, .int v2_b4)]) (st' := [.int v2_b4, .ref (a + 13)]) [(19, .iload_n 2, 1, .null)] (by decide +kernel) rfl ?_
        obtain ⟨g1, hm⟩ := gd_x hm
        refine aw_ial a 13 h0 rfl g1 (by decide +kernel) ?_
        refine aw_b (pc' := 22) (lv' := [(0, .ref a), (1, .int v1_b4), (2, .int v2_b4)]) (st' := [.ref a, .int (s 13 (ix_ v2_b4))]) [(21, .aload_n 0, 1, .null)] (by decide +kernel) rfl ?_
        refine aw_gl (v := .ref (a + 13)) a 0 h0 eo_D_0 fgX1_36 rfl (by decide +kernel) ?_
        refine aw_b (pc' := 26) (lv' := [(0, .ref a), (1, .int v1_b4), (2, .int v2_b4)]) (st' := [.int v1_b4, .ref (a + 13), .int (s 13 (ix_ v2_b4))]) [(25, .iload_n 1, 1, .null)] (by decide +kernel) rfl ?_
        obtain ⟨g2, hm⟩ := gd_x hm
        refine aw_ial a 13 h0 rfl g2 (by decide +kernel) ?_
        have J32 : ∀ (v1_j32 : Int32) (H_j32 : Heap), has_ E H_j32 a ly_D s → sm_ H H_j32 0 0 → fX1_mostHurtful_j32 v2_b4 v1_j32 = some y4 → aw E mX1_mostHurtful Q 32 [(0, .ref a), (1, .int v1_j32), (2, .int v2_b4)] [] H_j32 0 0 := by
          intro v1_j32 H_j32 h0 hs hm
          unfold fX1_mostHurtful_j32 at hm
          refine aw_b (pc' := 4) (lv' := [(2, .int (v2_b4 + (1 : Int32))), (0, .ref a), (1, .int v1_j32)]) (st' := []) [(32, .iinc 2 1, 3, .int (1 : Int32)), (35, .goto (-31), 3, .null)] (by decide +kernel) rfl ?_
          cases hm
          refine aw_lv (lv' := [(0, .ref a), (1, .int v1_j32), (2, .int (v2_b4 + (1 : Int32)))]) [1, 2, 0] rfl ?_
          exact ih4 v1_j32 (v2_b4 + (1 : Int32)) H_j32 h0 hs hk4
        refine aw_ic_le (off := 5) 32 (by decide) (by decide +kernel) (fun hc => ?_) (fun hc => ?_)
        · have hm := (if_pos hc).symm.trans hm
          exact J32 v1_b4 H_b4 h0 hs hm
        · have hm := (if_neg hc).symm.trans hm
          refine aw_b (pc' := 32) (lv' := [(1, .int v2_b4), (0, .ref a), (2, .int v2_b4)]) (st' := []) [(30, .iload_n 2, 1, .null), (31, .istore_n 1, 1, .null)] (by decide +kernel) rfl ?_
          refine aw_lv (lv' := [(0, .ref a), (1, .int v2_b4), (2, .int v2_b4)]) [1, 0, 2] rfl ?_
          exact J32 v2_b4 H_b4 h0 hs hm
  refine aw_lv (lv' := [(0, .ref a), (1, .int (0 : Int32)), (2, .int (1 : Int32))]) [2, 1, 0] rfl ?_
  exact L4 FU_ (0 : Int32) (1 : Int32) H h0 hs hx4
def mX1_moveFoe : mt_ := (yX1_moveFoe, cX1_moveFoe, 2, none, [], { frames := 4, locals := 104, cells := 0, slots := 0 })
theorem ckX1_moveFoe : cokV_ mX1_moveFoe := ⟨⟨(uw_mem 1064 (by decide +kernel) (by decide +kernel)), (uw_mem 33 (by decide +kernel) (by decide +kernel)), by decide +kernel, by decide +kernel⟩, (uw_mem 1062 (by decide +kernel) (by decide +kernel)), (uw_mem 1063 (by decide +kernel) (by decide +kernel))⟩
theorem nkX1_moveFoe : nok_ mX1_moveFoe 0 := by decide +kernel
theorem lkX1_121 : Cond.methodLink RX1 121 yX1_isFull ∈ uw_ := (uw_mem 1065 (by decide +kernel) (by decide +kernel))
theorem lkX1_127 : Cond.methodLink RX1 127 yX1_foeNow ∈ uw_ := (uw_mem 1066 (by decide +kernel) (by decide +kernel))
theorem fgX1_131 : fok_ RX1 131 0 0 := ⟨_, _, _, rfl, by decide, (uw_mem 223 (by decide +kernel) (by decide +kernel)), wkX0⟩
theorem lkX1_137 : Cond.methodLink RX1 137 yX1_addNextAsk ∈ uw_ := (uw_mem 1071 (by decide +kernel) (by decide +kernel))
theorem lkX1_140 : Cond.methodLink RX1 140 yX1_comingRule ∈ uw_ := (uw_mem 1079 (by decide +kernel) (by decide +kernel))
theorem lkX1_143 : Cond.methodLink RX1 143 yX1_foreseeHurts ∈ uw_ := (uw_mem 1104 (by decide +kernel) (by decide +kernel))
theorem lkX1_146 : Cond.methodLink RX1 146 yX1_mostHurtful ∈ uw_ := (uw_mem 1134 (by decide +kernel) (by decide +kernel))
theorem kX1_moveFoe {E : ev_} {H : Heap} {a : Nat} {s : st_} {r : st_} (hm : fX1_moveFoe s = some r) (h0 : has_ E H a ly_D s) (hf : ev_fr E a) : sp_ E mX1_moveFoe [.ref a] H (po1 (.inl (none)) (fun Hn => sm_ H Hn a 33 ∧ has_ E Hn a ly_D r)) := by
  refine sp_of (by decide +kernel) rfl rfl ?_
  generalize hQ : po1 _ _ = Q
  have hs : sm_ H H a 33 := sm_.rfl'
  unfold fX1_moveFoe at hm
  refine aw_lv (lv' := [(0, .ref a)]) [0] rfl ?_
  refine aw_b (pc' := 1) (lv' := [(0, .ref a)]) (st' := [.ref a]) [(0, .aload_n 0, 1, .null)] (by decide +kernel) rfl ?_
  obtain ⟨r1, e2, hm⟩ := bn_x hm
  refine aw_cv (rest := []) (st1 := [.int r1]) a 0 (kX1_isFull e2 h0) rfl rfl ckX1_isFull lkX1_121 h0 eo_D_0 ⟨_, _, rfl⟩ nkX1_isFull rfl rfl rfl (Nat.le_of_ble_eq_true rfl) (Nat.zero_le _) (Nat.zero_le _) (by decide +kernel) (fun H3 z4 => ?_)
  have h0 := h0.kept0 z4
  have hs := hs.step0 z4
  refine aw_if_eq (off := 4) 8 (by decide) (by decide +kernel) (fun hc => ?_) (fun hc => ?_)
  · have hm := (if_pos hc).symm.trans hm
    refine aw_b (pc' := 9) (lv' := [(0, .ref a)]) (st' := [.ref a]) [(8, .aload_n 0, 1, .null)] (by decide +kernel) rfl ?_
    refine aw_gl (v := .ref (a + 1)) a 0 h0 eo_D_0 fgX1_12 rfl (by decide +kernel) ?_
    refine aw_gl (v := .int (s 1 0)) a 1 h0 eo_D_1 fgX1_124 rfl (by decide +kernel) ?_
    refine aw_b (pc' := 19) (lv' := [(1, .int ((s 1 0) - (1 : Int32))), (0, .ref a)]) (st' := [.ref a]) [(15, .iconst 1, 1, .int (1 : Int32)), (16, .isub, 1, .null), (17, .istore_n 1, 1, .null), (18, .aload_n 0, 1, .null)] (by decide +kernel) rfl ?_
    obtain ⟨r5, e6, hm⟩ := bn_x hm
    refine aw_cv (rest := []) (st1 := [.int r5]) a 0 (kX1_foeNow e6 h0) rfl rfl ckX1_foeNow lkX1_127 h0 eo_D_0 ⟨_, _, rfl⟩ nkX1_foeNow rfl rfl rfl (Nat.le_of_ble_eq_true rfl) (Nat.zero_le _) (Nat.zero_le _) (by decide +kernel) (fun H7 z8 => ?_)
    have h0 := h0.kept0 z8
    have hs := hs.step0 z8
    refine aw_ts [((1 : Int32), 56), ((2 : Int32), 87), ((3 : Int32), 103), ((4 : Int32), 124), ((5 : Int32), 131)] 160 (by decide +kernel) ?_
    refine aw_tg (fun hc => ?_) (fun hc => ?_)
    · have hm := (if_pos hc).symm.trans hm
      refine aw_b (pc' := 58) (lv' := [(1, .int ((s 1 0) - (1 : Int32))), (0, .ref a)]) (st' := [.ref a, .ref a]) [(56, .aload_n 0, 1, .null), (57, .aload_n 0, 1, .null)] (by decide +kernel) rfl ?_
      refine aw_gl (v := .ref (a + 5)) a 0 h0 eo_D_0 fgX1_21 rfl (by decide +kernel) ?_
      refine aw_gl (v := .int (s 5 0)) a 5 h0 eo_D_5 fgX1_131 rfl (by decide +kernel) ?_
      refine aw_b (pc' := 66) (lv' := [(1, .int ((s 1 0) - (1 : Int32))), (0, .ref a)]) (st' := [.ref a, .int ((s 1 0) - (1 : Int32)), .int (s 5 0), .ref a]) [(64, .iload_n 1, 1, .null), (65, .aload_n 0, 1, .null)] (by decide +kernel) rfl ?_
      refine aw_gl (v := .ref (a + 5)) a 0 h0 eo_D_0 fgX1_21 rfl (by decide +kernel) ?_
      refine aw_gl (v := .int (s 5 0)) a 5 h0 eo_D_5 fgX1_131 rfl (by decide +kernel) ?_
      refine aw_b (pc' := 73) (lv' := [(1, .int ((s 1 0) - (1 : Int32))), (0, .ref a)]) (st' := [.int (((s 1 0) - (1 : Int32)) - (s 5 0)), .int (s 5 0), .ref a]) [(72, .isub, 1, .null)] (by decide +kernel) rfl ?_
      have J81 : ∀ (z1_j81 : Int32) (H_j81 : Heap), has_ E H_j81 a ly_D s → sm_ H H_j81 a 33 → fX1_moveFoe_j81 s z1_j81 = some r → aw E mX1_moveFoe Q 81 [] [.int z1_j81, .ref a] H_j81 0 0 := by
        intro z1_j81 H_j81 h0 hs hm
        unfold fX1_moveFoe_j81 at hm
        obtain ⟨r9, e10, hm⟩ := bn_x hm
        refine aw_cv (rest := []) (st1 := []) a 0 (kX1_addForAll e10 h0 hf) rfl rfl ckX1_addForAll lkX1_134 h0 eo_D_0 ⟨_, _, rfl⟩ nkX1_addForAll rfl rfl rfl (Nat.le_of_ble_eq_true rfl) (Nat.zero_le _) (Nat.zero_le _) (by decide +kernel) (fun H11 z12 => ?_)
        obtain ⟨z12, hn⟩ := z12
        have h0 := hn
        have hs := hs.step z12 (by omega) (by omega)
        refine aw_b (pc' := 160) (lv' := []) (st' := []) [(84, .goto 76, 3, .null)] (by decide +kernel) rfl ?_
        obtain rfl := Option.some.inj hm
        subst hQ
        exact aw_vret rfl (Nat.zero_le _) (Nat.zero_le _) (by decide +kernel) ⟨rfl, hs, h0⟩
      refine aw_ic_lt (off := 7) 80 (by decide) (by decide +kernel) (fun hc => ?_) (fun hc => ?_)
      · have hm := (if_pos hc).symm.trans hm
        refine aw_b (pc' := 81) (lv' := [(1, .int ((s 1 0) - (1 : Int32))), (0, .ref a)]) (st' := [.int ((s 1 0) - (1 : Int32)), .ref a]) [(80, .iload_n 1, 1, .null)] (by decide +kernel) rfl ?_
        refine aw_lv (lv' := []) [] rfl ?_
        exact J81 ((s 1 0) - (1 : Int32)) H7 h0 hs hm
      · have hm := (if_neg hc).symm.trans hm
        refine aw_b (pc' := 81) (lv' := [(1, .int ((s 1 0) - (1 : Int32))), (0, .ref a)]) (st' := [.int (0 : Int32), .ref a]) [(76, .iconst 0, 1, .int (0 : Int32)), (77, .goto 4, 3, .null)] (by decide +kernel) rfl ?_
        refine aw_lv (lv' := []) [] rfl ?_
        exact J81 (0 : Int32) H7 h0 hs hm
    · have hm := (if_neg hc).symm.trans hm
      refine aw_tg (fun hc => ?_) (fun hc => ?_)
      · have hm := (if_pos hc).symm.trans hm
        refine aw_b (pc' := 90) (lv' := [(1, .int ((s 1 0) - (1 : Int32))), (0, .ref a)]) (st' := [.ref a, .int ((s 1 0) - (1 : Int32)), .ref a]) [(87, .aload_n 0, 1, .null), (88, .iload_n 1, 1, .null), (89, .aload_n 0, 1, .null)] (by decide +kernel) rfl ?_
        refine aw_gl (v := .ref (a + 5)) a 0 h0 eo_D_0 fgX1_21 rfl (by decide +kernel) ?_
        refine aw_gl (v := .int (s 5 0)) a 5 h0 eo_D_5 fgX1_131 rfl (by decide +kernel) ?_
        refine aw_b (pc' := 97) (lv' := [(1, .int ((s 1 0) - (1 : Int32))), (0, .ref a)]) (st' := [.int (((s 1 0) - (1 : Int32)) - (s 5 0)), .ref a]) [(96, .isub, 1, .null)] (by decide +kernel) rfl ?_
        obtain ⟨r13, e14, hm⟩ := bn_x hm
        refine aw_cv (rest := []) (st1 := []) a 0 (kX1_addForAll e14 h0 hf) rfl rfl ckX1_addForAll lkX1_134 h0 eo_D_0 ⟨_, _, rfl⟩ nkX1_addForAll rfl rfl rfl (Nat.le_of_ble_eq_true rfl) (Nat.zero_le _) (Nat.zero_le _) (by decide +kernel) (fun H15 z16 => ?_)
        obtain ⟨z16, hn⟩ := z16
        have h0 := hn
        have hs := hs.step z16 (by omega) (by omega)
        refine aw_b (pc' := 160) (lv' := [(1, .int ((s 1 0) - (1 : Int32))), (0, .ref a)]) (st' := []) [(100, .goto 60, 3, .null)] (by decide +kernel) rfl ?_
        obtain rfl := Option.some.inj hm
        subst hQ
        exact aw_vret rfl (Nat.zero_le _) (Nat.zero_le _) (by decide +kernel) ⟨rfl, hs, h0⟩
      · have hm := (if_neg hc).symm.trans hm
        refine aw_tg (fun hc => ?_) (fun hc => ?_)
        · have hm := (if_pos hc).symm.trans hm
          refine aw_b (pc' := 105) (lv' := [(1, .int ((s 1 0) - (1 : Int32))), (0, .ref a)]) (st' := [.ref a, .ref a]) [(103, .aload_n 0, 1, .null), (104, .aload_n 0, 1, .null)] (by decide +kernel) rfl ?_
          refine aw_gl (v := .int (s 0 9)) a 0 h0 eo_D_0 fgX1_66 rfl (by decide +kernel) ?_
          refine aw_b (pc' := 109) (lv' := [(1, .int ((s 1 0) - (1 : Int32))), (0, .ref a)]) (st' := [.int (2 : Int32), .int (s 0 9), .ref a]) [(108, .iconst 2, 1, .int (2 : Int32))] (by decide +kernel) rfl ?_
          refine aw_irem (by decide) (by decide +kernel) ?_
          have J118 : ∀ (z1_j118 : Int32) (H_j118 : Heap), has_ E H_j118 a ly_D s → sm_ H H_j118 a 33 → fX1_moveFoe_j118 s z1_j118 = some r → aw E mX1_moveFoe Q 118 [] [.int z1_j118, .ref a] H_j118 0 0 := by
            intro z1_j118 H_j118 h0 hs hm
            unfold fX1_moveFoe_j118 at hm
            obtain ⟨r17, e18, hm⟩ := bn_x hm
            refine aw_cv (rest := []) (st1 := []) a 0 (kX1_addForAll e18 h0 hf) rfl rfl ckX1_addForAll lkX1_134 h0 eo_D_0 ⟨_, _, rfl⟩ nkX1_addForAll rfl rfl rfl (Nat.le_of_ble_eq_true rfl) (Nat.zero_le _) (Nat.zero_le _) (by decide +kernel) (fun H19 z20 => ?_)
            obtain ⟨z20, hn⟩ := z20
            have h0 := hn
            have hs := hs.step z20 (by omega) (by omega)
            refine aw_b (pc' := 160) (lv' := []) (st' := []) [(121, .goto 39, 3, .null)] (by decide +kernel) rfl ?_
            obtain rfl := Option.some.inj hm
            subst hQ
            exact aw_vret rfl (Nat.zero_le _) (Nat.zero_le _) (by decide +kernel) ⟨rfl, hs, h0⟩
          refine aw_if_ne (off := 7) 117 (by decide) (by decide +kernel) (fun hc => ?_) (fun hc => ?_)
          · have hm := (if_neg hc).symm.trans hm
            refine aw_b (pc' := 118) (lv' := [(1, .int ((s 1 0) - (1 : Int32))), (0, .ref a)]) (st' := [.int (0 : Int32), .ref a]) [(117, .iconst 0, 1, .int (0 : Int32))] (by decide +kernel) rfl ?_
            refine aw_lv (lv' := []) [] rfl ?_
            exact J118 (0 : Int32) H7 h0 hs hm
          · have hm := (if_pos hc).symm.trans hm
            refine aw_b (pc' := 118) (lv' := [(1, .int ((s 1 0) - (1 : Int32))), (0, .ref a)]) (st' := [.int ((s 1 0) - (1 : Int32)), .ref a]) [(113, .iload_n 1, 1, .null), (114, .goto 4, 3, .null)] (by decide +kernel) rfl ?_
            refine aw_lv (lv' := []) [] rfl ?_
            exact J118 ((s 1 0) - (1 : Int32)) H7 h0 hs hm
        · have hm := (if_neg hc).symm.trans hm
          refine aw_tg (fun hc => ?_) (fun hc => ?_)
          · have hm := (if_pos hc).symm.trans hm
            refine aw_b (pc' := 125) (lv' := [(1, .int ((s 1 0) - (1 : Int32))), (0, .ref a)]) (st' := [.ref a]) [(124, .aload_n 0, 1, .null)] (by decide +kernel) rfl ?_
            obtain ⟨r21, e22, hm⟩ := bn_x hm
            refine aw_cv (rest := []) (st1 := []) a 0 (kX1_addNextAsk e22 h0 hf) rfl rfl ckX1_addNextAsk lkX1_137 h0 eo_D_0 ⟨_, _, rfl⟩ nkX1_addNextAsk rfl rfl rfl (Nat.le_of_ble_eq_true rfl) (Nat.zero_le _) (Nat.zero_le _) (by decide +kernel) (fun H23 z24 => ?_)
            obtain ⟨z24, hn⟩ := z24
            have h0 := hn
            have hs := hs.step z24 (by omega) (by omega)
            refine aw_b (pc' := 160) (lv' := [(1, .int ((s 1 0) - (1 : Int32))), (0, .ref a)]) (st' := []) [(128, .goto 32, 3, .null)] (by decide +kernel) rfl ?_
            obtain rfl := Option.some.inj hm
            subst hQ
            exact aw_vret rfl (Nat.zero_le _) (Nat.zero_le _) (by decide +kernel) ⟨rfl, hs, h0⟩
          · have hm := (if_neg hc).symm.trans hm
            refine aw_tg (fun hc => ?_) (fun hc => ?_)
            · have hm := (if_pos hc).symm.trans hm
              refine aw_b (pc' := 133) (lv' := [(1, .int ((s 1 0) - (1 : Int32))), (0, .ref a)]) (st' := [.ref a, .ref a]) [(131, .aload_n 0, 1, .null), (132, .aload_n 0, 1, .null)] (by decide +kernel) rfl ?_
              obtain ⟨r25, e26, hm⟩ := bn_x hm
              refine aw_cv (rest := [.ref a]) (st1 := [.int r25, .ref a]) a 0 (kX1_comingRule e26 h0) rfl rfl ckX1_comingRule lkX1_140 h0 eo_D_0 ⟨_, _, rfl⟩ nkX1_comingRule rfl rfl rfl (Nat.le_of_ble_eq_true rfl) (Nat.zero_le _) (Nat.zero_le _) (by decide +kernel) (fun H27 z28 => ?_)
              have h0 := h0.kept0 z28
              have hs := hs.step0 z28
              obtain ⟨r29, e30, hm⟩ := bn_x hm
              refine aw_cv (rest := []) (st1 := []) a 0 (kX1_foreseeHurts e30 h0 hf) rfl rfl ckX1_foreseeHurts lkX1_143 h0 eo_D_0 ⟨_, _, rfl⟩ nkX1_foreseeHurts rfl rfl rfl (Nat.le_of_ble_eq_true rfl) (Nat.zero_le _) (Nat.zero_le _) (by decide +kernel) (fun H31 z32 => ?_)
              obtain ⟨z32, hn⟩ := z32
              have h0 := hn
              have hs := hs.step z32 (by omega) (by omega)
              refine aw_b (pc' := 141) (lv' := [(1, .int ((s 1 0) - (1 : Int32))), (0, .ref a)]) (st' := [.ref a, .ref a]) [(139, .aload_n 0, 1, .null), (140, .aload_n 0, 1, .null)] (by decide +kernel) rfl ?_
              obtain ⟨r33, e34, hm⟩ := bn_x hm
              refine aw_cv (rest := [.ref a]) (st1 := [.int r33, .ref a]) a 0 (kX1_mostHurtful e34 h0) rfl rfl ckX1_mostHurtful lkX1_146 h0 eo_D_0 ⟨_, _, rfl⟩ nkX1_mostHurtful rfl rfl rfl (Nat.le_of_ble_eq_true rfl) (Nat.zero_le _) (Nat.zero_le _) (by decide +kernel) (fun H35 z36 => ?_)
              have h0 := h0.kept0 z36
              have hs := hs.step0 z36
              obtain ⟨r37, e38, hm⟩ := bn_x hm
              refine aw_cv (rest := []) (st1 := []) a 0 (kX1_addForAll e38 h0 hf) rfl rfl ckX1_addForAll lkX1_134 h0 eo_D_0 ⟨_, _, rfl⟩ nkX1_addForAll rfl rfl rfl (Nat.le_of_ble_eq_true rfl) (Nat.zero_le _) (Nat.zero_le _) (by decide +kernel) (fun H39 z40 => ?_)
              obtain ⟨z40, hn⟩ := z40
              have h0 := hn
              have hs := hs.step z40 (by omega) (by omega)
              refine aw_b (pc' := 149) (lv' := [(1, .int ((s 1 0) - (1 : Int32))), (0, .ref a)]) (st' := [.ref a, .ref a]) [(147, .aload_n 0, 1, .null), (148, .dup, 1, .null)] (by decide +kernel) rfl ?_
              refine aw_gl (v := .int (r37 0 11)) a 0 h0 eo_D_0 fgX1_72 rfl (by decide +kernel) ?_
              refine aw_b (pc' := 154) (lv' := [(1, .int ((s 1 0) - (1 : Int32))), (0, .ref a)]) (st' := [.int ((r37 0 11) + (1 : Int32)), .ref a]) [(152, .iconst 1, 1, .int (1 : Int32)), (153, .iadd, 1, .null)] (by decide +kernel) rfl ?_
              obtain ⟨s41, e42, hm⟩ := bd_x hm
              refine aw_pl a 0 h0 eo_D_0 fsq_1_11 fpX1_72 hf rfl rfl e42 (by decide +kernel) (fun H43 h0 z44 => ?_)
              have hs := hs.step z44 (by omega) (by omega)
              refine aw_b (pc' := 160) (lv' := [(1, .int ((s 1 0) - (1 : Int32))), (0, .ref a)]) (st' := []) [(157, .goto 3, 3, .null)] (by decide +kernel) rfl ?_
              obtain rfl := Option.some.inj hm
              subst hQ
              exact aw_vret rfl (Nat.zero_le _) (Nat.zero_le _) (by decide +kernel) ⟨rfl, hs, h0⟩
            · have hm := (if_neg hc).symm.trans hm
              show aw E _ Q 160 _ _ _ _ _
              obtain rfl := Option.some.inj hm
              subst hQ
              exact aw_vret rfl (Nat.zero_le _) (Nat.zero_le _) (by decide +kernel) ⟨rfl, hs, h0⟩
  · have hm := (if_neg hc).symm.trans hm
    obtain rfl := Option.some.inj hm
    subst hQ
    exact aw_vret rfl (Nat.zero_le _) (Nat.zero_le _) (by decide +kernel) ⟨rfl, hs, h0⟩
def mX1_takeRules : mt_ := (yX1_takeRules, cX1_takeRules, 1, none, [], { frames := 3, locals := 69, cells := 0, slots := 0 })
theorem ckX1_takeRules : cokV_ mX1_takeRules := ⟨⟨(uw_mem 1141 (by decide +kernel) (by decide +kernel)), (uw_mem 33 (by decide +kernel) (by decide +kernel)), by decide +kernel, by decide +kernel⟩, (uw_mem 1139 (by decide +kernel) (by decide +kernel)), (uw_mem 1140 (by decide +kernel) (by decide +kernel))⟩
theorem nkX1_takeRules : nok_ mX1_takeRules 0 := by decide +kernel
theorem fgX1_182 : fok_ RX1 182 5 14 := ⟨_, _, _, rfl, by decide, (uw_mem 119 (by decide +kernel) (by decide +kernel)), wkX5⟩
theorem fgX1_185 : fok_ RX1 185 5 15 := ⟨_, _, _, rfl, by decide, (uw_mem 123 (by decide +kernel) (by decide +kernel)), wkX5⟩
theorem kX1_takeRules {E : ev_} {H : Heap} {a : Nat} {s : st_} {r : st_} (hm : fX1_takeRules s = some r) (h0 : has_ E H a ly_D s) (hf : ev_fr E a) : sp_ E mX1_takeRules [.ref a] H (po1 (.inl (none)) (fun Hn => sm_ H Hn a 33 ∧ has_ E Hn a ly_D r)) := by
  refine sp_of (by decide +kernel) rfl rfl ?_
  generalize hQ : po1 _ _ = Q
  have hs : sm_ H H a 33 := sm_.rfl'
  unfold fX1_takeRules at hm
  refine aw_lv (lv' := [(0, .ref a)]) [0] rfl ?_
  refine aw_b (pc' := 1) (lv' := [(0, .ref a)]) (st' := [.ref a]) [(0, .aload_n 0, 1, .null)] (by decide +kernel) rfl ?_
  refine aw_gl (v := .ref (a + 1)) a 0 h0 eo_D_0 fgX1_12 rfl (by decide +kernel) ?_
  refine aw_gl (v := .int (s 1 7)) a 1 h0 eo_D_1 fgX1_169 rfl (by decide +kernel) ?_
  have J21 : ∀ (s_j21 : st_) (H_j21 : Heap), has_ E H_j21 a ly_D s_j21 → sm_ H H_j21 a 33 → fX1_takeRules_j21 s_j21 = some r → aw E mX1_takeRules Q 21 [(0, .ref a)] [] H_j21 0 0 := by
    intro s_j21 H_j21 h0 hs hm
    unfold fX1_takeRules_j21 at hm
    refine aw_b (pc' := 24) (lv' := [(0, .ref a)]) (st' := [.ref a, .ref a, .ref a]) [(21, .aload_n 0, 1, .null), (22, .aload_n 0, 1, .null), (23, .aload_n 0, 1, .null)] (by decide +kernel) rfl ?_
    refine aw_gl (v := .ref (a + 1)) a 0 h0 eo_D_0 fgX1_12 rfl (by decide +kernel) ?_
    refine aw_gl (v := .int (s_j21 1 7)) a 1 h0 eo_D_1 fgX1_169 rfl (by decide +kernel) ?_
    refine aw_b (pc' := 31) (lv' := [(0, .ref a)]) (st' := [.ref a, .int (s_j21 1 7), .ref a, .ref a]) [(30, .aload_n 0, 1, .null)] (by decide +kernel) rfl ?_
    refine aw_gl (v := .ref (a + 1)) a 0 h0 eo_D_0 fgX1_12 rfl (by decide +kernel) ?_
    refine aw_gl (v := .int (s_j21 1 8)) a 1 h0 eo_D_1 fgX1_175 rfl (by decide +kernel) ?_
    refine aw_b (pc' := 38) (lv' := [(0, .ref a)]) (st' := [.ref a, .int (s_j21 1 8), .int (s_j21 1 7), .ref a, .ref a]) [(37, .aload_n 0, 1, .null)] (by decide +kernel) rfl ?_
    refine aw_gl (v := .int (s_j21 0 7)) a 0 h0 eo_D_0 fgX1_60 rfl (by decide +kernel) ?_
    obtain ⟨r1, e2, hm⟩ := bn_x hm
    refine aw_cv (rest := [.ref a]) (st1 := [.int r1, .ref a]) a 0 (kX1_ruleBy e2 h0) rfl rfl ckX1_ruleBy lkX1_178 h0 eo_D_0 ⟨_, _, rfl⟩ nkX1_ruleBy rfl rfl rfl (Nat.le_of_ble_eq_true rfl) (Nat.zero_le _) (Nat.zero_le _) (by decide +kernel) (fun H3 z4 => ?_)
    have h0 := h0.kept0 z4
    have hs := hs.step0 z4
    obtain ⟨s5, e6, hm⟩ := bd_x hm
    refine aw_pl a 0 h0 eo_D_0 fsq_1_12 fpX1_75 hf rfl rfl e6 (by decide +kernel) (fun H7 h0 z8 => ?_)
    have hs := hs.step z8 (by omega) (by omega)
    refine aw_b (pc' := 48) (lv' := [(0, .ref a)]) (st' := [.ref a]) [(47, .aload_n 0, 1, .null)] (by decide +kernel) rfl ?_
    refine aw_gl (v := .ref (a + 1)) a 0 h0 eo_D_0 fgX1_12 rfl (by decide +kernel) ?_
    refine aw_gl (v := .int (s5 1 14)) a 1 h0 eo_D_1 fgX1_182 rfl (by decide +kernel) ?_
    have J68 : ∀ (s_j68 : st_) (H_j68 : Heap), has_ E H_j68 a ly_D s_j68 → sm_ H H_j68 a 33 → fX1_takeRules_j68 s_j68 = some r → aw E mX1_takeRules Q 68 [(0, .ref a)] [] H_j68 0 0 := by
      intro s_j68 H_j68 h0 hs hm
      unfold fX1_takeRules_j68 at hm
      refine aw_b (pc' := 69) (lv' := [(0, .ref a)]) (st' := [.ref a]) [(68, .aload_n 0, 1, .null)] (by decide +kernel) rfl ?_
      refine aw_gl (v := .ref (a + 1)) a 0 h0 eo_D_0 fgX1_12 rfl (by decide +kernel) ?_
      obtain ⟨r9, e10, hm⟩ := bn_x hm
      refine aw_cv (rest := []) (st1 := [.int r9]) a 1 (kX5_hasRival e10 (h0.sub su_D_1_S)) rfl rfl ckX5_hasRival lkX1_108 h0 eo_D_1 ⟨_, _, rfl⟩ nkX5_hasRival rfl rfl rfl (Nat.le_of_ble_eq_true rfl) (Nat.zero_le _) (Nat.zero_le _) (by decide +kernel) (fun H11 z12 => ?_)
      have h0 := h0.kept0 z12
      have hs := hs.step0 z12
      refine aw_if_eq (off := 29) 104 (by decide) (by decide +kernel) (fun hc => ?_) (fun hc => ?_)
      · have hm := (if_pos hc).symm.trans hm
        obtain rfl := Option.some.inj hm
        subst hQ
        exact aw_vret rfl (Nat.zero_le _) (Nat.zero_le _) (by decide +kernel) ⟨rfl, hs, h0⟩
      · have hm := (if_neg hc).symm.trans hm
        refine aw_b (pc' := 81) (lv' := [(0, .ref a)]) (st' := [.ref a, .ref a, .ref a]) [(78, .aload_n 0, 1, .null), (79, .aload_n 0, 1, .null), (80, .aload_n 0, 1, .null)] (by decide +kernel) rfl ?_
        refine aw_gl (v := .ref (a + 1)) a 0 h0 eo_D_0 fgX1_12 rfl (by decide +kernel) ?_
        refine aw_gl (v := .int (s_j68 1 14)) a 1 h0 eo_D_1 fgX1_182 rfl (by decide +kernel) ?_
        refine aw_b (pc' := 88) (lv' := [(0, .ref a)]) (st' := [.ref a, .int (s_j68 1 14), .ref a, .ref a]) [(87, .aload_n 0, 1, .null)] (by decide +kernel) rfl ?_
        refine aw_gl (v := .ref (a + 1)) a 0 h0 eo_D_0 fgX1_12 rfl (by decide +kernel) ?_
        refine aw_gl (v := .int (s_j68 1 15)) a 1 h0 eo_D_1 fgX1_185 rfl (by decide +kernel) ?_
        refine aw_b (pc' := 95) (lv' := [(0, .ref a)]) (st' := [.ref a, .int (s_j68 1 15), .int (s_j68 1 14), .ref a, .ref a]) [(94, .aload_n 0, 1, .null)] (by decide +kernel) rfl ?_
        refine aw_gl (v := .int (s_j68 0 8)) a 0 h0 eo_D_0 fgX1_63 rfl (by decide +kernel) ?_
        obtain ⟨r13, e14, hm⟩ := bn_x hm
        refine aw_cv (rest := [.ref a]) (st1 := [.int r13, .ref a]) a 0 (kX1_ruleBy e14 h0) rfl rfl ckX1_ruleBy lkX1_178 h0 eo_D_0 ⟨_, _, rfl⟩ nkX1_ruleBy rfl rfl rfl (Nat.le_of_ble_eq_true rfl) (Nat.zero_le _) (Nat.zero_le _) (by decide +kernel) (fun H15 z16 => ?_)
        have h0 := h0.kept0 z16
        have hs := hs.step0 z16
        obtain ⟨s17, e18, hm⟩ := bd_x hm
        refine aw_pl a 0 h0 eo_D_0 fsq_1_13 fpX1_78 hf rfl rfl e18 (by decide +kernel) (fun H19 h0 z20 => ?_)
        have hs := hs.step z20 (by omega) (by omega)
        obtain rfl := Option.some.inj hm
        subst hQ
        exact aw_vret rfl (Nat.zero_le _) (Nat.zero_le _) (by decide +kernel) ⟨rfl, hs, h0⟩
    refine aw_if_ne (off := 14) 68 (by decide) (by decide +kernel) (fun hc => ?_) (fun hc => ?_)
    · have hm := (if_neg hc).symm.trans hm
      exact J68 s5 H7 h0 hs hm
    · have hm := (if_pos hc).symm.trans hm
      refine aw_b (pc' := 59) (lv' := [(0, .ref a)]) (st' := [.ref a, .ref a]) [(57, .aload_n 0, 1, .null), (58, .aload_n 0, 1, .null)] (by decide +kernel) rfl ?_
      refine aw_gl (v := .int (s5 0 8)) a 0 h0 eo_D_0 fgX1_63 rfl (by decide +kernel) ?_
      obtain ⟨r21, e22, hm⟩ := bn_x hm
      refine aw_cs (rest := [.ref a]) (st1 := [.int r21, .ref a]) (kX1_seedBehind e22) rfl rfl ckX1_seedBehind lkX1_172 nkX1_seedBehind rfl rfl rfl (Nat.le_of_ble_eq_true rfl) (Nat.zero_le _) (Nat.zero_le _) (by decide +kernel) (fun H23 z24 => ?_)
      have h0 := h0.kept0 z24
      have hs := hs.step0 z24
      obtain ⟨s25, e26, hm⟩ := bd_x hm
      refine aw_pl a 0 h0 eo_D_0 fsq_1_8 fpX1_63 hf rfl rfl e26 (by decide +kernel) (fun H27 h0 z28 => ?_)
      have hs := hs.step z28 (by omega) (by omega)
      exact J68 s25 H27 h0 hs hm
  refine aw_if_ne (off := 14) 21 (by decide) (by decide +kernel) (fun hc => ?_) (fun hc => ?_)
  · have hm := (if_neg hc).symm.trans hm
    exact J21 s H h0 hs hm
  · have hm := (if_pos hc).symm.trans hm
    refine aw_b (pc' := 12) (lv' := [(0, .ref a)]) (st' := [.ref a, .ref a]) [(10, .aload_n 0, 1, .null), (11, .aload_n 0, 1, .null)] (by decide +kernel) rfl ?_
    refine aw_gl (v := .int (s 0 7)) a 0 h0 eo_D_0 fgX1_60 rfl (by decide +kernel) ?_
    obtain ⟨r29, e30, hm⟩ := bn_x hm
    refine aw_cs (rest := [.ref a]) (st1 := [.int r29, .ref a]) (kX1_seedBehind e30) rfl rfl ckX1_seedBehind lkX1_172 nkX1_seedBehind rfl rfl rfl (Nat.le_of_ble_eq_true rfl) (Nat.zero_le _) (Nat.zero_le _) (by decide +kernel) (fun H31 z32 => ?_)
    have h0 := h0.kept0 z32
    have hs := hs.step0 z32
    obtain ⟨s33, e34, hm⟩ := bd_x hm
    refine aw_pl a 0 h0 eo_D_0 fsq_1_7 fpX1_60 hf rfl rfl e34 (by decide +kernel) (fun H35 h0 z36 => ?_)
    have hs := hs.step z36 (by omega) (by omega)
    exact J21 s33 H35 h0 hs hm
def mX1_loseWeights : mt_ := (yX1_loseWeights, cX1_loseWeights, 7, none, [], { frames := 1, locals := 24, cells := 0, slots := 0 })
theorem ckX1_loseWeights : cokV_ mX1_loseWeights := ⟨⟨(uw_mem 1168 (by decide +kernel) (by decide +kernel)), (uw_mem 33 (by decide +kernel) (by decide +kernel)), by decide +kernel, by decide +kernel⟩, (uw_mem 1167 (by decide +kernel) (by decide +kernel)), (uw_mem 21 (by decide +kernel) (by decide +kernel))⟩
theorem nkX1_loseWeights : nok_ mX1_loseWeights 0 := by decide +kernel
theorem kwX1_208 : Cond.constantLong RX1 208 (1000 : Int64) ∈ uw_ := (uw_mem 1169 (by decide +kernel) (by decide +kernel))
theorem lkX1_210 : Cond.methodLink RX1 210 yX5_priceOf ∈ uw_ := (uw_mem 1170 (by decide +kernel) (by decide +kernel))
theorem fgX1_213 : fok_ RX1 213 5 9 := ⟨_, _, _, rfl, by decide, (uw_mem 104 (by decide +kernel) (by decide +kernel)), wkX5⟩
theorem fgX1_216 : fok_ RX1 216 0 9 := ⟨_, _, _, rfl, by decide, (uw_mem 248 (by decide +kernel) (by decide +kernel)), wkX0⟩
theorem mtX1_219 : ml_ RX1 219 Lib.MathLoose.max_long.x Lib.MathLoose.max_long.code 4 .long := ⟨(uw_mem 1171 (by decide +kernel) (by decide +kernel)), (uw_mem 1172 (by decide +kernel) (by decide +kernel)), (uw_mem 38 (by decide +kernel) (by decide +kernel)), (uw_mem 1173 (by decide +kernel) (by decide +kernel))⟩
theorem mtX1_223 : ml_ RX1 223 Lib.Math.max.name Lib.Math.max.code 2 .int := ⟨(uw_mem 1174 (by decide +kernel) (by decide +kernel)), (uw_mem 768 (by decide +kernel) (by decide +kernel)), (uw_mem 38 (by decide +kernel) (by decide +kernel)), (uw_mem 769 (by decide +kernel) (by decide +kernel))⟩
theorem kX1_loseWeights {E : ev_} {H : Heap} {a : Nat} {s : st_} {r : st_} (hm : fX1_loseWeights s = some r) (h0 : has_ E H a ly_D s) (hf : ev_fr E a) : sp_ E mX1_loseWeights [.ref a] H (po1 (.inl (none)) (fun Hn => sm_ H Hn a 33 ∧ has_ E Hn a ly_D r)) := by
  refine sp_of (by decide +kernel) rfl rfl ?_
  generalize hQ : po1 _ _ = Q
  have hs : sm_ H H a 33 := sm_.rfl'
  unfold fX1_loseWeights at hm
  refine aw_lv (lv' := [(0, .ref a)]) [0] rfl ?_
  refine aw_ldc2 (v := (1000 : Int64)) kwX1_208 (by decide +kernel) ?_
  refine aw_b (pc' := 4) (lv' := [(0, .ref a)]) (st' := [.ref a, .long (1000 : Int64)]) [(3, .aload_n 0, 1, .null)] (by decide +kernel) rfl ?_
  refine aw_gl (v := .ref (a + 1)) a 0 h0 eo_D_0 fgX1_12 rfl (by decide +kernel) ?_
  refine aw_b (pc' := 9) (lv' := [(0, .ref a)]) (st' := [.ref a, .int (0 : Int32), .ref (a + 1), .long (1000 : Int64)]) [(7, .iconst 0, 1, .int (0 : Int32)), (8, .aload_n 0, 1, .null)] (by decide +kernel) rfl ?_
  refine aw_gl (v := .ref (a + 1)) a 0 h0 eo_D_0 fgX1_12 rfl (by decide +kernel) ?_
  refine aw_gl (v := .int (s 1 0)) a 1 h0 eo_D_1 fgX1_124 rfl (by decide +kernel) ?_
  refine aw_b (pc' := 17) (lv' := [(0, .ref a)]) (st' := [.int ((s 1 0) - (1 : Int32)), .int (0 : Int32), .ref (a + 1), .long (1000 : Int64)]) [(15, .iconst 1, 1, .int (1 : Int32)), (16, .isub, 1, .null)] (by decide +kernel) rfl ?_
  obtain ⟨r1, e2, hm⟩ := bn_x hm
  refine aw_cv (rest := [.long (1000 : Int64)]) (st1 := [.int r1, .long (1000 : Int64)]) a 1 (kX5_priceOf e2 (h0.sub su_D_1_S)) rfl rfl ckX5_priceOf lkX1_210 h0 eo_D_1 ⟨_, _, rfl⟩ nkX5_priceOf rfl rfl rfl (Nat.le_of_ble_eq_true rfl) (Nat.zero_le _) (Nat.zero_le _) (by decide +kernel) (fun H3 z4 => ?_)
  have h0 := h0.kept0 z4
  have hs := hs.step0 z4
  refine aw_b (pc' := 26) (lv' := [(1, .long ((1000 : Int64) * (Int32.toInt64 r1))), (0, .ref a)]) (st' := [.int (lg_cmp ((1000 : Int64) * (Int32.toInt64 r1)) (0 : Int64))]) [(20, .i2l, 1, .null), (21, .lmul, 1, .null), (22, .lstore_n 1, 1, .null), (23, .lload_n 1, 1, .null), (24, .lconst 0, 1, .long (0 : Int64)), (25, .lcmp, 1, .null)] (by decide +kernel) rfl ?_
  refine aw_if_gt (off := 4) 30 (by decide) (by decide +kernel) (fun hc => ?_) (fun hc => ?_)
  · have hm := (if_pos hc).symm.trans hm
    refine aw_b (pc' := 35) (lv' := [(4, .int (0 : Int32)), (3, .int (0 : Int32)), (1, .long ((1000 : Int64) * (Int32.toInt64 r1))), (0, .ref a)]) (st' := []) [(30, .iconst 0, 1, .int (0 : Int32)), (31, .istore_n 3, 1, .null), (32, .iconst 0, 1, .int (0 : Int32)), (33, .istore 4, 2, .null)] (by decide +kernel) rfl ?_
    obtain ⟨x35, hx35, hr35⟩ := bn_x hm
    have X35_121 : ∀ (v3_x35_121 : Int32) (s_x35_121 : st_) (H_x35_121 : Heap), has_ E H_x35_121 a ly_D s_x35_121 → sm_ H H_x35_121 a 33 → fX1_loseWeights_x35_121 v3_x35_121 s_x35_121 = some r → aw E mX1_loseWeights Q 121 [(0, .ref a), (3, .int v3_x35_121)] [] H_x35_121 0 0 := by
      intro v3_x35_121 s_x35_121 H_x35_121 h0 hs hm
      unfold fX1_loseWeights_x35_121 at hm
      refine aw_b (pc' := 124) (lv' := [(4, .int (0 : Int32)), (0, .ref a), (3, .int v3_x35_121)]) (st' := []) [(121, .iconst 0, 1, .int (0 : Int32)), (122, .istore 4, 2, .null)] (by decide +kernel) rfl ?_
      obtain ⟨x124, hx124, hr124⟩ := bn_x hm
      have X124_162 : ∀ (s_x124_162 : st_) (H_x124_162 : Heap), has_ E H_x124_162 a ly_D s_x124_162 → sm_ H H_x124_162 a 33 → fX1_loseWeights_x124_162 s_x124_162 = some r → aw E mX1_loseWeights Q 162 [] [] H_x124_162 0 0 := by
        intro s_x124_162 H_x124_162 h0 hs hm
        unfold fX1_loseWeights_x124_162 at hm
        obtain rfl := Option.some.inj hm
        subst hQ
        exact aw_vret rfl (Nat.zero_le _) (Nat.zero_le _) (by decide +kernel) ⟨rfl, hs, h0⟩
      have L124 : ∀ (fu : Nat) (v4_b124 : Int32) (s_b124 : st_) (H_b124 : Heap), has_ E H_b124 a ly_D s_b124 → sm_ H H_b124 a 33 → fX1_loseWeights_l124 v3_x35_121 fu (v4_b124, s_b124) = some x124 → aw E mX1_loseWeights Q 124 [(0, .ref a), (3, .int v3_x35_121), (4, .int v4_b124)] [] H_b124 0 0 := by
        intro fu
        induction fu with
        | zero =>
          intro v4_b124 s_b124 H_b124 h0 hs hm
          exact (it_0 hm).elim
        | succ fu ih124 =>
          intro v4_b124 s_b124 H_b124 h0 hs hm
          obtain ⟨y124, hm, hk124⟩ := it_s hm
          have hm : fX1_loseWeights_b124 v3_x35_121 v4_b124 s_b124 = some y124 := hm
          unfold fX1_loseWeights_b124 at hm
          refine aw_b (pc' := 127) (lv' := [(0, .ref a), (3, .int v3_x35_121), (4, .int v4_b124)]) (st' := [.ref a, .int v4_b124]) [(124, .iload 4, 2, .null), (126, .aload_n 0, 1, .null)] (by decide +kernel) rfl ?_
          refine aw_gl (v := .ref (a + 1)) a 0 h0 eo_D_0 fgX1_12 rfl (by decide +kernel) ?_
          refine aw_gl (v := .int (s_b124 1 4)) a 1 h0 eo_D_1 fgX1_105 rfl (by decide +kernel) ?_
          refine aw_ic_ge (off := 29) 162 (by decide) (by decide +kernel) (fun hc => ?_) (fun hc => ?_)
          · have hm := (if_pos hc).symm.trans hm
            cases hm
            refine aw_lv (lv' := []) [] rfl ?_
            exact X124_162 s_b124 H_b124 h0 hs ((congrArg fX1_loseWeights_k124 (show (s_b124) = x124 from hk124)).trans hr124)
          · have hm := (if_neg hc).symm.trans hm
            refine aw_b (pc' := 140) (lv' := [(0, .ref a), (3, .int v3_x35_121), (4, .int v4_b124)]) (st' := [.int (1000 : Int32), .int v3_x35_121]) [(136, .iload_n 3, 1, .null), (137, .sipush 1000, 3, .int (1000 : Int32))] (by decide +kernel) rfl ?_
            refine aw_ic_ge (off := 22) 162 (by decide) (by decide +kernel) (fun hc => ?_) (fun hc => ?_)
            · have hm := (if_pos hc).symm.trans hm
              cases hm
              refine aw_lv (lv' := []) [] rfl ?_
              exact X124_162 s_b124 H_b124 h0 hs ((congrArg fX1_loseWeights_k124 (show (s_b124) = x124 from hk124)).trans hr124)
            · have hm := (if_neg hc).symm.trans hm
              refine aw_b (pc' := 144) (lv' := [(0, .ref a), (3, .int v3_x35_121), (4, .int v4_b124)]) (st' := [.ref a]) [(143, .aload_n 0, 1, .null)] (by decide +kernel) rfl ?_
              refine aw_gl (v := .ref (a + 12)) a 0 h0 eo_D_0 fgX1_32 rfl (by decide +kernel) ?_
              refine aw_b (pc' := 150) (lv' := [(0, .ref a), (3, .int v3_x35_121), (4, .int v4_b124)]) (st' := [.int v4_b124, .ref (a + 12), .int v4_b124, .ref (a + 12)]) [(147, .iload 4, 2, .null), (149, .dup2, 1, .null)] (by decide +kernel) rfl ?_
              obtain ⟨g5, hm⟩ := gd_x hm
              refine aw_ial a 12 h0 rfl g5 (by decide +kernel) ?_
              refine aw_b (pc' := 155) (lv' := [(0, .ref a), (3, .int v3_x35_121), (4, .int v4_b124)]) (st' := [.int ((s_b124 12 (ix_ v4_b124)) * (1000 : Int32)), .int v4_b124, .ref (a + 12)]) [(151, .sipush 1000, 3, .int (1000 : Int32)), (154, .imul, 1, .null)] (by decide +kernel) rfl ?_
              obtain ⟨g6, hm⟩ := gd_x hm
              obtain ⟨s7, e8, hm⟩ := bd_x hm
              refine aw_isl a 12 h0 rfl hf g6 e8 (by decide +kernel) (fun H9 h0 z10 => ?_)
              have hs := hs.step z10 (by omega) (by omega)
              refine aw_b (pc' := 124) (lv' := [(4, .int (v4_b124 + (1 : Int32))), (0, .ref a), (3, .int v3_x35_121)]) (st' := []) [(156, .iinc 4 1, 3, .int (1 : Int32)), (159, .goto (-35), 3, .null)] (by decide +kernel) rfl ?_
              cases hm
              refine aw_lv (lv' := [(0, .ref a), (3, .int v3_x35_121), (4, .int (v4_b124 + (1 : Int32)))]) [1, 2, 0] rfl ?_
              exact ih124 (v4_b124 + (1 : Int32)) s7 H9 h0 hs hk124
      refine aw_lv (lv' := [(0, .ref a), (3, .int v3_x35_121), (4, .int (0 : Int32))]) [1, 2, 0] rfl ?_
      exact L124 FU_ (0 : Int32) s_x35_121 H_x35_121 h0 hs hx124
    have L35 : ∀ (fu : Nat) (v3_b35 : Int32) (v4_b35 : Int32) (s_b35 : st_) (H_b35 : Heap), has_ E H_b35 a ly_D s_b35 → sm_ H H_b35 a 33 → fX1_loseWeights_l35 r1 fu (v3_b35, v4_b35, s_b35) = some x35 → aw E mX1_loseWeights Q 35 [(0, .ref a), (1, .long ((1000 : Int64) * (Int32.toInt64 r1))), (3, .int v3_b35), (4, .int v4_b35)] [] H_b35 0 0 := by
      intro fu
      induction fu with
      | zero =>
        intro v3_b35 v4_b35 s_b35 H_b35 h0 hs hm
        exact (it_0 hm).elim
      | succ fu ih35 =>
        intro v3_b35 v4_b35 s_b35 H_b35 h0 hs hm
        obtain ⟨y35, hm, hk35⟩ := it_s hm
        have hm : fX1_loseWeights_b35 r1 v3_b35 v4_b35 s_b35 = some y35 := hm
        unfold fX1_loseWeights_b35 at hm
        refine aw_b (pc' := 38) (lv' := [(0, .ref a), (1, .long ((1000 : Int64) * (Int32.toInt64 r1))), (3, .int v3_b35), (4, .int v4_b35)]) (st' := [.ref a, .int v4_b35]) [(35, .iload 4, 2, .null), (37, .aload_n 0, 1, .null)] (by decide +kernel) rfl ?_
        refine aw_gl (v := .ref (a + 1)) a 0 h0 eo_D_0 fgX1_12 rfl (by decide +kernel) ?_
        refine aw_gl (v := .int (s_b35 1 4)) a 1 h0 eo_D_1 fgX1_105 rfl (by decide +kernel) ?_
        refine aw_ic_ge (off := 77) 121 (by decide) (by decide +kernel) (fun hc => ?_) (fun hc => ?_)
        · have hm := (if_pos hc).symm.trans hm
          cases hm
          refine aw_lv (lv' := [(0, .ref a), (3, .int v3_b35)]) [0, 2] rfl ?_
          exact X35_121 v3_b35 s_b35 H_b35 h0 hs ((congrArg fX1_loseWeights_k35 (show ((v3_b35, s_b35)) = x35 from hk35)).trans hr35)
        · have hm := (if_neg hc).symm.trans hm
          refine aw_b (pc' := 48) (lv' := [(0, .ref a), (1, .long ((1000 : Int64) * (Int32.toInt64 r1))), (3, .int v3_b35), (4, .int v4_b35)]) (st' := [.ref a]) [(47, .aload_n 0, 1, .null)] (by decide +kernel) rfl ?_
          refine aw_gl (v := .ref (a + 12)) a 0 h0 eo_D_0 fgX1_32 rfl (by decide +kernel) ?_
          refine aw_b (pc' := 53) (lv' := [(0, .ref a), (1, .long ((1000 : Int64) * (Int32.toInt64 r1))), (3, .int v3_b35), (4, .int v4_b35)]) (st' := [.int v4_b35, .ref (a + 12)]) [(51, .iload 4, 2, .null)] (by decide +kernel) rfl ?_
          obtain ⟨g11, hm⟩ := gd_x hm
          refine aw_ial a 12 h0 rfl g11 (by decide +kernel) ?_
          refine aw_b (pc' := 56) (lv' := [(0, .ref a), (1, .long ((1000 : Int64) * (Int32.toInt64 r1))), (3, .int v3_b35), (4, .int v4_b35)]) (st' := [.ref a, .long (Int32.toInt64 (s_b35 12 (ix_ v4_b35)))]) [(54, .i2l, 1, .null), (55, .aload_n 0, 1, .null)] (by decide +kernel) rfl ?_
          refine aw_gl (v := .ref (a + 1)) a 0 h0 eo_D_0 fgX1_12 rfl (by decide +kernel) ?_
          refine aw_gl (v := .int (s_b35 1 9)) a 1 h0 eo_D_1 fgX1_213 rfl (by decide +kernel) ?_
          refine aw_b (pc' := 65) (lv' := [(0, .ref a), (1, .long ((1000 : Int64) * (Int32.toInt64 r1))), (3, .int v3_b35), (4, .int v4_b35)]) (st' := [.ref a, .long ((Int32.toInt64 (s_b35 12 (ix_ v4_b35))) * (Int32.toInt64 (s_b35 1 9)))]) [(62, .i2l, 1, .null), (63, .lmul, 1, .null), (64, .aload_n 0, 1, .null)] (by decide +kernel) rfl ?_
          refine aw_gl (v := .ref (a + 11)) a 0 h0 eo_D_0 fgX1_28 rfl (by decide +kernel) ?_
          refine aw_b (pc' := 70) (lv' := [(0, .ref a), (1, .long ((1000 : Int64) * (Int32.toInt64 r1))), (3, .int v3_b35), (4, .int v4_b35)]) (st' := [.int v4_b35, .ref (a + 11), .long ((Int32.toInt64 (s_b35 12 (ix_ v4_b35))) * (Int32.toInt64 (s_b35 1 9)))]) [(68, .iload 4, 2, .null)] (by decide +kernel) rfl ?_
          obtain ⟨g12, hm⟩ := gd_x hm
          refine aw_rall a 11 h0 ra_D_11 g12 (by decide +kernel) ?_
          refine aw_gl (v := .int (s_b35 (3 * ix_ v4_b35 + 15) 9)) a (3 * ix_ v4_b35 + 15) h0 (eow_D_15 _ (ib_lt g12)) fgX1_216 rfl (by decide +kernel) ?_
          refine aw_b (pc' := 77) (lv' := [(0, .ref a), (1, .long ((1000 : Int64) * (Int32.toInt64 r1))), (3, .int v3_b35), (4, .int v4_b35)]) (st' := [.long ((1000 : Int64) * (Int32.toInt64 r1)), .long (((Int32.toInt64 (s_b35 12 (ix_ v4_b35))) * (Int32.toInt64 (s_b35 1 9))) * (Int32.toInt64 (s_b35 (3 * ix_ v4_b35 + 15) 9)))]) [(74, .i2l, 1, .null), (75, .lmul, 1, .null), (76, .lload_n 1, 1, .null)] (by decide +kernel) rfl ?_
          obtain ⟨g13, hm⟩ := gd_x hm
          refine aw_ldiv (nzl_x g13) (by decide +kernel) ?_
          refine aw_b (pc' := 81) (lv' := [(5, .long ((((Int32.toInt64 (s_b35 12 (ix_ v4_b35))) * (Int32.toInt64 (s_b35 1 9))) * (Int32.toInt64 (s_b35 (3 * ix_ v4_b35 + 15) 9))) / ((1000 : Int64) * (Int32.toInt64 r1)))), (0, .ref a), (1, .long ((1000 : Int64) * (Int32.toInt64 r1))), (3, .int v3_b35), (4, .int v4_b35)]) (st' := [.ref a]) [(78, .lstore 5, 2, .null), (80, .aload_n 0, 1, .null)] (by decide +kernel) rfl ?_
          refine aw_gl (v := .ref (a + 12)) a 0 h0 eo_D_0 fgX1_32 rfl (by decide +kernel) ?_
          refine aw_b (pc' := 88) (lv' := [(5, .long ((((Int32.toInt64 (s_b35 12 (ix_ v4_b35))) * (Int32.toInt64 (s_b35 1 9))) * (Int32.toInt64 (s_b35 (3 * ix_ v4_b35 + 15) 9))) / ((1000 : Int64) * (Int32.toInt64 r1)))), (0, .ref a), (1, .long ((1000 : Int64) * (Int32.toInt64 r1))), (3, .int v3_b35), (4, .int v4_b35)]) (st' := [.ref a, .long (1 : Int64), .int v4_b35, .ref (a + 12)]) [(84, .iload 4, 2, .null), (86, .lconst 1, 1, .long (1 : Int64)), (87, .aload_n 0, 1, .null)] (by decide +kernel) rfl ?_
          refine aw_gl (v := .ref (a + 12)) a 0 h0 eo_D_0 fgX1_32 rfl (by decide +kernel) ?_
          refine aw_b (pc' := 93) (lv' := [(5, .long ((((Int32.toInt64 (s_b35 12 (ix_ v4_b35))) * (Int32.toInt64 (s_b35 1 9))) * (Int32.toInt64 (s_b35 (3 * ix_ v4_b35 + 15) 9))) / ((1000 : Int64) * (Int32.toInt64 r1)))), (0, .ref a), (1, .long ((1000 : Int64) * (Int32.toInt64 r1))), (3, .int v3_b35), (4, .int v4_b35)]) (st' := [.int v4_b35, .ref (a + 12), .long (1 : Int64), .int v4_b35, .ref (a + 12)]) [(91, .iload 4, 2, .null)] (by decide +kernel) rfl ?_
          obtain ⟨g14, hm⟩ := gd_x hm
          refine aw_ial a 12 h0 rfl g14 (by decide +kernel) ?_
          refine aw_b (pc' := 98) (lv' := [(5, .long ((((Int32.toInt64 (s_b35 12 (ix_ v4_b35))) * (Int32.toInt64 (s_b35 1 9))) * (Int32.toInt64 (s_b35 (3 * ix_ v4_b35 + 15) 9))) / ((1000 : Int64) * (Int32.toInt64 r1)))), (0, .ref a), (1, .long ((1000 : Int64) * (Int32.toInt64 r1))), (3, .int v3_b35), (4, .int v4_b35)]) (st' := [.long ((Int32.toInt64 (s_b35 12 (ix_ v4_b35))) - ((((Int32.toInt64 (s_b35 12 (ix_ v4_b35))) * (Int32.toInt64 (s_b35 1 9))) * (Int32.toInt64 (s_b35 (3 * ix_ v4_b35 + 15) 9))) / ((1000 : Int64) * (Int32.toInt64 r1)))), .long (1 : Int64), .int v4_b35, .ref (a + 12)]) [(94, .i2l, 1, .null), (95, .lload 5, 2, .null), (97, .lsub, 1, .null)] (by decide +kernel) rfl ?_
          refine aw_mxl (rest := [.int v4_b35, .ref (a + 12)]) mtX1_219 rfl (Nat.le_of_ble_eq_true rfl) (Nat.zero_le _) (Nat.zero_le _) (by decide +kernel) ?_
          refine aw_b (pc' := 102) (lv' := [(5, .long ((((Int32.toInt64 (s_b35 12 (ix_ v4_b35))) * (Int32.toInt64 (s_b35 1 9))) * (Int32.toInt64 (s_b35 (3 * ix_ v4_b35 + 15) 9))) / ((1000 : Int64) * (Int32.toInt64 r1)))), (0, .ref a), (1, .long ((1000 : Int64) * (Int32.toInt64 r1))), (3, .int v3_b35), (4, .int v4_b35)]) (st' := [.int (Int64.toInt32 (if ((Int32.toInt64 (s_b35 12 (ix_ v4_b35))) - ((((Int32.toInt64 (s_b35 12 (ix_ v4_b35))) * (Int32.toInt64 (s_b35 1 9))) * (Int32.toInt64 (s_b35 (3 * ix_ v4_b35 + 15) 9))) / ((1000 : Int64) * (Int32.toInt64 r1)))) < (1 : Int64) then (1 : Int64) else ((Int32.toInt64 (s_b35 12 (ix_ v4_b35))) - ((((Int32.toInt64 (s_b35 12 (ix_ v4_b35))) * (Int32.toInt64 (s_b35 1 9))) * (Int32.toInt64 (s_b35 (3 * ix_ v4_b35 + 15) 9))) / ((1000 : Int64) * (Int32.toInt64 r1)))))), .int v4_b35, .ref (a + 12)]) [(101, .l2i, 1, .null)] (by decide +kernel) rfl ?_
          obtain ⟨g15, hm⟩ := gd_x hm
          obtain ⟨s16, e17, hm⟩ := bd_x hm
          refine aw_isl a 12 h0 rfl hf g15 e17 (by decide +kernel) (fun H18 h0 z19 => ?_)
          have hs := hs.step z19 (by omega) (by omega)
          refine aw_b (pc' := 105) (lv' := [(5, .long ((((Int32.toInt64 (s_b35 12 (ix_ v4_b35))) * (Int32.toInt64 (s_b35 1 9))) * (Int32.toInt64 (s_b35 (3 * ix_ v4_b35 + 15) 9))) / ((1000 : Int64) * (Int32.toInt64 r1)))), (0, .ref a), (1, .long ((1000 : Int64) * (Int32.toInt64 r1))), (3, .int v3_b35), (4, .int v4_b35)]) (st' := [.ref a, .int v3_b35]) [(103, .iload_n 3, 1, .null), (104, .aload_n 0, 1, .null)] (by decide +kernel) rfl ?_
          refine aw_gl (v := .ref (a + 12)) a 0 h0 eo_D_0 fgX1_32 rfl (by decide +kernel) ?_
          refine aw_b (pc' := 110) (lv' := [(5, .long ((((Int32.toInt64 (s_b35 12 (ix_ v4_b35))) * (Int32.toInt64 (s_b35 1 9))) * (Int32.toInt64 (s_b35 (3 * ix_ v4_b35 + 15) 9))) / ((1000 : Int64) * (Int32.toInt64 r1)))), (0, .ref a), (1, .long ((1000 : Int64) * (Int32.toInt64 r1))), (3, .int v3_b35), (4, .int v4_b35)]) (st' := [.int v4_b35, .ref (a + 12), .int v3_b35]) [(108, .iload 4, 2, .null)] (by decide +kernel) rfl ?_
          obtain ⟨g20, hm⟩ := gd_x hm
          refine aw_ial a 12 h0 rfl g20 (by decide +kernel) ?_
          refine aw_mx (rest := []) mtX1_223 rfl (Nat.le_of_ble_eq_true rfl) (Nat.zero_le _) (Nat.zero_le _) (by decide +kernel) ?_
          refine aw_b (pc' := 35) (lv' := [(4, .int (v4_b35 + (1 : Int32))), (3, .int (if v3_b35 < (s16 12 (ix_ v4_b35)) then (s16 12 (ix_ v4_b35)) else v3_b35)), (5, .long ((((Int32.toInt64 (s_b35 12 (ix_ v4_b35))) * (Int32.toInt64 (s_b35 1 9))) * (Int32.toInt64 (s_b35 (3 * ix_ v4_b35 + 15) 9))) / ((1000 : Int64) * (Int32.toInt64 r1)))), (0, .ref a), (1, .long ((1000 : Int64) * (Int32.toInt64 r1)))]) (st' := []) [(114, .istore_n 3, 1, .null), (115, .iinc 4 1, 3, .int (1 : Int32)), (118, .goto (-83), 3, .null)] (by decide +kernel) rfl ?_
          cases hm
          refine aw_lv (lv' := [(0, .ref a), (1, .long ((1000 : Int64) * (Int32.toInt64 r1))), (3, .int (if v3_b35 < (s16 12 (ix_ v4_b35)) then (s16 12 (ix_ v4_b35)) else v3_b35)), (4, .int (v4_b35 + (1 : Int32)))]) [3, 4, 1, 0] rfl ?_
          exact ih35 (if v3_b35 < (s16 12 (ix_ v4_b35)) then (s16 12 (ix_ v4_b35)) else v3_b35) (v4_b35 + (1 : Int32)) s16 H18 h0 hs hk35
    refine aw_lv (lv' := [(0, .ref a), (1, .long ((1000 : Int64) * (Int32.toInt64 r1))), (3, .int (0 : Int32)), (4, .int (0 : Int32))]) [3, 2, 1, 0] rfl ?_
    exact L35 FU_ (0 : Int32) (0 : Int32) s H3 h0 hs hx35
  · have hm := (if_neg hc).symm.trans hm
    obtain rfl := Option.some.inj hm
    subst hQ
    exact aw_vret rfl (Nat.zero_le _) (Nat.zero_le _) (by decide +kernel) ⟨rfl, hs, h0⟩
def mX1_serveAll : mt_ := (yX1_serveAll, cX1_serveAll, 2, none, [], { frames := 3, locals := 77, cells := 0, slots := 0 })
theorem ckX1_serveAll : cokV_ mX1_serveAll := ⟨⟨(uw_mem 1154 (by decide +kernel) (by decide +kernel)), (uw_mem 33 (by decide +kernel) (by decide +kernel)), by decide +kernel, by decide +kernel⟩, (uw_mem 1152 (by decide +kernel) (by decide +kernel)), (uw_mem 1153 (by decide +kernel) (by decide +kernel))⟩
theorem nkX1_serveAll : nok_ mX1_serveAll 0 := by decide +kernel
theorem lkX1_201 : Cond.methodLink RX1 201 yX0_serve ∈ uw_ := (uw_mem 1155 (by decide +kernel) (by decide +kernel))
theorem lkX1_205 : Cond.methodLink RX1 205 yX1_loseWeights ∈ uw_ := (uw_mem 1165 (by decide +kernel) (by decide +kernel))
theorem kX1_serveAll {E : ev_} {H : Heap} {a : Nat} {s : st_} {r : st_} (hm : fX1_serveAll s = some r) (h0 : has_ E H a ly_D s) (hf : ev_fr E a) : sp_ E mX1_serveAll [.ref a] H (po1 (.inl (none)) (fun Hn => sm_ H Hn a 33 ∧ has_ E Hn a ly_D r)) := by
  refine sp_of (by decide +kernel) rfl rfl ?_
  generalize hQ : po1 _ _ = Q
  have hs : sm_ H H a 33 := sm_.rfl'
  unfold fX1_serveAll at hm
  refine aw_lv (lv' := [(0, .ref a)]) [0] rfl ?_
  refine aw_b (pc' := 1) (lv' := [(0, .ref a)]) (st' := [.ref a]) [(0, .aload_n 0, 1, .null)] (by decide +kernel) rfl ?_
  refine aw_gl (v := .ref (a + 5)) a 0 h0 eo_D_0 fgX1_21 rfl (by decide +kernel) ?_
  refine aw_b (pc' := 5) (lv' := [(0, .ref a)]) (st' := [.ref a, .ref (a + 5)]) [(4, .aload_n 0, 1, .null)] (by decide +kernel) rfl ?_
  refine aw_gl (v := .ref (a + 1)) a 0 h0 eo_D_0 fgX1_12 rfl (by decide +kernel) ?_
  refine aw_b (pc' := 9) (lv' := [(0, .ref a)]) (st' := [.ref a, .ref (a + 1), .ref (a + 5)]) [(8, .aload_n 0, 1, .null)] (by decide +kernel) rfl ?_
  refine aw_gl (v := .int (s 0 12)) a 0 h0 eo_D_0 fgX1_75 rfl (by decide +kernel) ?_
  refine aw_b (pc' := 13) (lv' := [(0, .ref a)]) (st' := [.ref a, .int (s 0 12), .ref (a + 1), .ref (a + 5)]) [(12, .aload_n 0, 1, .null)] (by decide +kernel) rfl ?_
  refine aw_gl (v := .int (s 0 9)) a 0 h0 eo_D_0 fgX1_66 rfl (by decide +kernel) ?_
  obtain ⟨r1, e2, hm⟩ := bn_x hm
  refine aw_cv (rest := []) (st1 := []) a 5 (kX0_serve e2 (h0.sub su_D_5_A) (h0.sub su_D_1_S) (Nat.le_trans hf (Nat.le_add_right _ _)) (by omega)) rfl rfl ckX0_serve lkX1_201 h0 eo_D_5 ⟨_, _, rfl⟩ nkX0_serve rfl rfl rfl (Nat.le_of_ble_eq_true rfl) (Nat.zero_le _) (Nat.zero_le _) (by decide +kernel) (fun H3 z4 => ?_)
  obtain ⟨z4, hn⟩ := z4
  obtain ⟨s5, e6, hm⟩ := bd_x hm
  have h0 := h0.mg su_D_5_A hn z4 rfl e6
  have hs := hs.step z4 (by omega) (by omega)
  refine aw_b (pc' := 21) (lv' := [(1, .int (0 : Int32)), (0, .ref a)]) (st' := []) [(19, .iconst 0, 1, .int (0 : Int32)), (20, .istore_n 1, 1, .null)] (by decide +kernel) rfl ?_
  obtain ⟨x21, hx21, hr21⟩ := bn_x hm
  have X21_56 : ∀ (s_x21_56 : st_) (H_x21_56 : Heap), has_ E H_x21_56 a ly_D s_x21_56 → sm_ H H_x21_56 a 33 → fX1_serveAll_x21_56 s_x21_56 = some r → aw E mX1_serveAll Q 56 [(0, .ref a)] [] H_x21_56 0 0 := by
    intro s_x21_56 H_x21_56 h0 hs hm
    unfold fX1_serveAll_x21_56 at hm
    refine aw_b (pc' := 57) (lv' := [(0, .ref a)]) (st' := [.ref a]) [(56, .aload_n 0, 1, .null)] (by decide +kernel) rfl ?_
    refine aw_gl (v := .ref (a + 1)) a 0 h0 eo_D_0 fgX1_12 rfl (by decide +kernel) ?_
    obtain ⟨r7, e8, hm⟩ := bn_x hm
    refine aw_cv (rest := []) (st1 := [.int r7]) a 1 (kX5_hasRival e8 (h0.sub su_D_1_S)) rfl rfl ckX5_hasRival lkX1_108 h0 eo_D_1 ⟨_, _, rfl⟩ nkX5_hasRival rfl rfl rfl (Nat.le_of_ble_eq_true rfl) (Nat.zero_le _) (Nat.zero_le _) (by decide +kernel) (fun H9 z10 => ?_)
    have h0 := h0.kept0 z10
    have hs := hs.step0 z10
    have J85 : ∀ (s_j85 : st_) (H_j85 : Heap), has_ E H_j85 a ly_D s_j85 → sm_ H H_j85 a 33 → fX1_serveAll_j85 s_j85 = some r → aw E mX1_serveAll Q 85 [(0, .ref a)] [] H_j85 0 0 := by
      intro s_j85 H_j85 h0 hs hm
      unfold fX1_serveAll_j85 at hm
      refine aw_b (pc' := 86) (lv' := [(0, .ref a)]) (st' := [.ref a]) [(85, .aload_n 0, 1, .null)] (by decide +kernel) rfl ?_
      obtain ⟨r11, e12, hm⟩ := bn_x hm
      refine aw_cv (rest := []) (st1 := []) a 0 (kX1_loseWeights e12 h0 hf) rfl rfl ckX1_loseWeights lkX1_205 h0 eo_D_0 ⟨_, _, rfl⟩ nkX1_loseWeights rfl rfl rfl (Nat.le_of_ble_eq_true rfl) (Nat.zero_le _) (Nat.zero_le _) (by decide +kernel) (fun H13 z14 => ?_)
      obtain ⟨z14, hn⟩ := z14
      have h0 := hn
      have hs := hs.step z14 (by omega) (by omega)
      refine aw_b (pc' := 91) (lv' := [(0, .ref a)]) (st' := [.ref a, .ref a]) [(89, .aload_n 0, 1, .null), (90, .dup, 1, .null)] (by decide +kernel) rfl ?_
      refine aw_gl (v := .int (r11 0 9)) a 0 h0 eo_D_0 fgX1_66 rfl (by decide +kernel) ?_
      refine aw_b (pc' := 96) (lv' := [(0, .ref a)]) (st' := [.int ((r11 0 9) + (1 : Int32)), .ref a]) [(94, .iconst 1, 1, .int (1 : Int32)), (95, .iadd, 1, .null)] (by decide +kernel) rfl ?_
      obtain ⟨s15, e16, hm⟩ := bd_x hm
      refine aw_pl a 0 h0 eo_D_0 fsq_1_9 fpX1_66 hf rfl rfl e16 (by decide +kernel) (fun H17 h0 z18 => ?_)
      have hs := hs.step z18 (by omega) (by omega)
      obtain rfl := Option.some.inj hm
      subst hQ
      exact aw_vret rfl (Nat.zero_le _) (Nat.zero_le _) (by decide +kernel) ⟨rfl, hs, h0⟩
    refine aw_if_eq (off := 22) 85 (by decide) (by decide +kernel) (fun hc => ?_) (fun hc => ?_)
    · have hm := (if_pos hc).symm.trans hm
      exact J85 s_x21_56 H9 h0 hs hm
    · have hm := (if_neg hc).symm.trans hm
      refine aw_b (pc' := 67) (lv' := [(0, .ref a)]) (st' := [.ref a]) [(66, .aload_n 0, 1, .null)] (by decide +kernel) rfl ?_
      refine aw_gl (v := .ref (a + 8)) a 0 h0 eo_D_0 fgX1_25 rfl (by decide +kernel) ?_
      refine aw_b (pc' := 71) (lv' := [(0, .ref a)]) (st' := [.ref a, .ref (a + 8)]) [(70, .aload_n 0, 1, .null)] (by decide +kernel) rfl ?_
      refine aw_gl (v := .ref (a + 1)) a 0 h0 eo_D_0 fgX1_12 rfl (by decide +kernel) ?_
      refine aw_b (pc' := 75) (lv' := [(0, .ref a)]) (st' := [.ref a, .ref (a + 1), .ref (a + 8)]) [(74, .aload_n 0, 1, .null)] (by decide +kernel) rfl ?_
      refine aw_gl (v := .int (s_x21_56 0 13)) a 0 h0 eo_D_0 fgX1_78 rfl (by decide +kernel) ?_
      refine aw_b (pc' := 79) (lv' := [(0, .ref a)]) (st' := [.ref a, .int (s_x21_56 0 13), .ref (a + 1), .ref (a + 8)]) [(78, .aload_n 0, 1, .null)] (by decide +kernel) rfl ?_
      refine aw_gl (v := .int (s_x21_56 0 9)) a 0 h0 eo_D_0 fgX1_66 rfl (by decide +kernel) ?_
      obtain ⟨r19, e20, hm⟩ := bn_x hm
      refine aw_cv (rest := []) (st1 := []) a 8 (kX0_serve e20 (h0.sub su_D_8_A) (h0.sub su_D_1_S) (Nat.le_trans hf (Nat.le_add_right _ _)) (by omega)) rfl rfl ckX0_serve lkX1_201 h0 eo_D_8 ⟨_, _, rfl⟩ nkX0_serve rfl rfl rfl (Nat.le_of_ble_eq_true rfl) (Nat.zero_le _) (Nat.zero_le _) (by decide +kernel) (fun H21 z22 => ?_)
      obtain ⟨z22, hn⟩ := z22
      obtain ⟨s23, e24, hm⟩ := bd_x hm
      have h0 := h0.mg su_D_8_A hn z22 rfl e24
      have hs := hs.step z22 (by omega) (by omega)
      exact J85 s23 H21 h0 hs hm
  have L21 : ∀ (fu : Nat) (v1_b21 : Int32) (s_b21 : st_) (H_b21 : Heap), has_ E H_b21 a ly_D s_b21 → sm_ H H_b21 a 33 → fX1_serveAll_l21 fu (v1_b21, s_b21) = some x21 → aw E mX1_serveAll Q 21 [(0, .ref a), (1, .int v1_b21)] [] H_b21 0 0 := by
    intro fu
    induction fu with
    | zero =>
      intro v1_b21 s_b21 H_b21 h0 hs hm
      exact (it_0 hm).elim
    | succ fu ih21 =>
      intro v1_b21 s_b21 H_b21 h0 hs hm
      obtain ⟨y21, hm, hk21⟩ := it_s hm
      have hm : fX1_serveAll_b21 v1_b21 s_b21 = some y21 := hm
      unfold fX1_serveAll_b21 at hm
      refine aw_b (pc' := 23) (lv' := [(0, .ref a), (1, .int v1_b21)]) (st' := [.ref a, .int v1_b21]) [(21, .iload_n 1, 1, .null), (22, .aload_n 0, 1, .null)] (by decide +kernel) rfl ?_
      refine aw_gl (v := .ref (a + 1)) a 0 h0 eo_D_0 fgX1_12 rfl (by decide +kernel) ?_
      refine aw_gl (v := .int (s_b21 1 4)) a 1 h0 eo_D_1 fgX1_105 rfl (by decide +kernel) ?_
      refine aw_ic_ge (off := 27) 56 (by decide) (by decide +kernel) (fun hc => ?_) (fun hc => ?_)
      · have hm := (if_pos hc).symm.trans hm
        cases hm
        refine aw_lv (lv' := [(0, .ref a)]) [0] rfl ?_
        exact X21_56 s_b21 H_b21 h0 hs ((congrArg fX1_serveAll_k21 (show (s_b21) = x21 from hk21)).trans hr21)
      · have hm := (if_neg hc).symm.trans hm
        refine aw_b (pc' := 33) (lv' := [(0, .ref a), (1, .int v1_b21)]) (st' := [.ref a]) [(32, .aload_n 0, 1, .null)] (by decide +kernel) rfl ?_
        refine aw_gl (v := .ref (a + 11)) a 0 h0 eo_D_0 fgX1_28 rfl (by decide +kernel) ?_
        refine aw_b (pc' := 37) (lv' := [(0, .ref a), (1, .int v1_b21)]) (st' := [.int v1_b21, .ref (a + 11)]) [(36, .iload_n 1, 1, .null)] (by decide +kernel) rfl ?_
        obtain ⟨g25, hm⟩ := gd_x hm
        refine aw_rall a 11 h0 ra_D_11 g25 (by decide +kernel) ?_
        refine aw_b (pc' := 39) (lv' := [(0, .ref a), (1, .int v1_b21)]) (st' := [.ref a, .ref (a + (3 * ix_ v1_b21 + 15))]) [(38, .aload_n 0, 1, .null)] (by decide +kernel) rfl ?_
        refine aw_gl (v := .ref (a + 1)) a 0 h0 eo_D_0 fgX1_12 rfl (by decide +kernel) ?_
        refine aw_b (pc' := 44) (lv' := [(0, .ref a), (1, .int v1_b21)]) (st' := [.ref a, .int v1_b21, .ref (a + 1), .ref (a + (3 * ix_ v1_b21 + 15))]) [(42, .iload_n 1, 1, .null), (43, .aload_n 0, 1, .null)] (by decide +kernel) rfl ?_
        refine aw_gl (v := .int (s_b21 0 9)) a 0 h0 eo_D_0 fgX1_66 rfl (by decide +kernel) ?_
        obtain ⟨r26, e27, hm⟩ := bn_x hm
        have q28 := ib_lt g25
        refine aw_cv (rest := []) (st1 := []) a (3 * ix_ v1_b21 + 15) (kX0_serve e27 (h0.sub (so_D_15 _ (ib_lt g25))) (h0.sub su_D_1_S) (Nat.le_trans hf (Nat.le_add_right _ _)) (by omega)) rfl rfl ckX0_serve lkX1_201 h0 (eow_D_15 _ (ib_lt g25)) ⟨_, _, rfl⟩ nkX0_serve rfl rfl rfl (Nat.le_of_ble_eq_true rfl) (Nat.zero_le _) (Nat.zero_le _) (by decide +kernel) (fun H29 z30 => ?_)
        obtain ⟨z30, hn⟩ := z30
        obtain ⟨s31, e32, hm⟩ := bd_x hm
        have h0 := h0.mg (so_D_15 _ (ib_lt g25)) hn z30 rfl e32
        have hs := hs.step z30 (by omega) (by omega)
        refine aw_b (pc' := 21) (lv' := [(1, .int (v1_b21 + (1 : Int32))), (0, .ref a)]) (st' := []) [(50, .iinc 1 1, 3, .int (1 : Int32)), (53, .goto (-32), 3, .null)] (by decide +kernel) rfl ?_
        cases hm
        refine aw_lv (lv' := [(0, .ref a), (1, .int (v1_b21 + (1 : Int32)))]) [1, 0] rfl ?_
        exact ih21 (v1_b21 + (1 : Int32)) s31 H29 h0 hs hk21
  refine aw_lv (lv' := [(0, .ref a), (1, .int (0 : Int32))]) [1, 0] rfl ?_
  exact L21 FU_ (0 : Int32) s5 H3 h0 hs hx21
def mX1_letPass : mt_ := (yX1_letPass, cX1_letPass, 3, none, [], { frames := 5, locals := 125, cells := 0, slots := 0 })
theorem ckX1_letPass : cokV_ mX1_letPass := ⟨⟨(uw_mem 1393 (by decide +kernel) (by decide +kernel)), (uw_mem 33 (by decide +kernel) (by decide +kernel)), by decide +kernel, by decide +kernel⟩, (uw_mem 1391 (by decide +kernel) (by decide +kernel)), (uw_mem 1392 (by decide +kernel) (by decide +kernel))⟩
theorem nkX1_letPass : nok_ mX1_letPass 1 := by decide +kernel
theorem lkX1_112 : Cond.methodLink RX1 112 yX1_moveFoe ∈ uw_ := (uw_mem 1394 (by decide +kernel) (by decide +kernel))
theorem lkX1_115 : Cond.methodLink RX1 115 yX1_takeRules ∈ uw_ := (uw_mem 1395 (by decide +kernel) (by decide +kernel))
theorem lkX1_118 : Cond.methodLink RX1 118 yX1_serveAll ∈ uw_ := (uw_mem 1396 (by decide +kernel) (by decide +kernel))
theorem kX1_letPass {E : ev_} {H : Heap} {a : Nat} {s : st_} {i0 : Int32} {r : st_} (hm : fX1_letPass s i0 = some r) (h0 : has_ E H a ly_D s) (hf : ev_fr E a) : sp_ E mX1_letPass [.ref a, .int i0] H (po1 (.inl (none)) (fun Hn => sm_ H Hn a 33 ∧ has_ E Hn a ly_D r)) := by
  refine sp_of (by decide +kernel) rfl rfl ?_
  generalize hQ : po1 _ _ = Q
  have hs : sm_ H H a 33 := sm_.rfl'
  unfold fX1_letPass at hm
  refine aw_lv (lv' := [(0, .ref a), (1, .int i0)]) [0, 1] rfl ?_
  refine aw_b (pc' := 2) (lv' := [(2, .int (0 : Int32)), (0, .ref a), (1, .int i0)]) (st' := []) [(0, .iconst 0, 1, .int (0 : Int32)), (1, .istore_n 2, 1, .null)] (by decide +kernel) rfl ?_
  obtain ⟨x2, hx2, hr2⟩ := bn_x hm
  have X2_25 : ∀ (s_x2_25 : st_) (H_x2_25 : Heap), has_ E H_x2_25 a ly_D s_x2_25 → sm_ H H_x2_25 a 33 → fX1_letPass_x2_25 s_x2_25 = some r → aw E mX1_letPass Q 25 [] [] H_x2_25 0 0 := by
    intro s_x2_25 H_x2_25 h0 hs hm
    unfold fX1_letPass_x2_25 at hm
    obtain rfl := Option.some.inj hm
    subst hQ
    exact aw_vret rfl (Nat.zero_le _) (Nat.zero_le _) (by decide +kernel) ⟨rfl, hs, h0⟩
  have L2 : ∀ (fu : Nat) (v2_b2 : Int32) (s_b2 : st_) (H_b2 : Heap), has_ E H_b2 a ly_D s_b2 → sm_ H H_b2 a 33 → fX1_letPass_l2 i0 fu (v2_b2, s_b2) = some x2 → aw E mX1_letPass Q 2 [(0, .ref a), (1, .int i0), (2, .int v2_b2)] [] H_b2 0 0 := by
    intro fu
    induction fu with
    | zero =>
      intro v2_b2 s_b2 H_b2 h0 hs hm
      exact (it_0 hm).elim
    | succ fu ih2 =>
      intro v2_b2 s_b2 H_b2 h0 hs hm
      obtain ⟨y2, hm, hk2⟩ := it_s hm
      have hm : fX1_letPass_b2 i0 v2_b2 s_b2 = some y2 := hm
      unfold fX1_letPass_b2 at hm
      refine aw_b (pc' := 4) (lv' := [(0, .ref a), (1, .int i0), (2, .int v2_b2)]) (st' := [.int i0, .int v2_b2]) [(2, .iload_n 2, 1, .null), (3, .iload_n 1, 1, .null)] (by decide +kernel) rfl ?_
      refine aw_ic_ge (off := 21) 25 (by decide) (by decide +kernel) (fun hc => ?_) (fun hc => ?_)
      · have hm := (if_pos hc).symm.trans hm
        cases hm
        refine aw_lv (lv' := []) [] rfl ?_
        exact X2_25 s_b2 H_b2 h0 hs ((congrArg fX1_letPass_k2 (show (s_b2) = x2 from hk2)).trans hr2)
      · have hm := (if_neg hc).symm.trans hm
        refine aw_b (pc' := 8) (lv' := [(0, .ref a), (1, .int i0), (2, .int v2_b2)]) (st' := [.ref a]) [(7, .aload_n 0, 1, .null)] (by decide +kernel) rfl ?_
        obtain ⟨r1, e2, hm⟩ := bn_x hm
        refine aw_cv (rest := []) (st1 := []) a 0 (kX1_moveFoe e2 h0 hf) rfl rfl ckX1_moveFoe lkX1_112 h0 eo_D_0 ⟨_, _, rfl⟩ nkX1_moveFoe rfl rfl rfl (Nat.le_of_ble_eq_true rfl) (Nat.zero_le _) (Nat.zero_le _) (by decide +kernel) (fun H3 z4 => ?_)
        obtain ⟨z4, hn⟩ := z4
        have h0 := hn
        have hs := hs.step z4 (by omega) (by omega)
        refine aw_b (pc' := 12) (lv' := [(0, .ref a), (1, .int i0), (2, .int v2_b2)]) (st' := [.ref a]) [(11, .aload_n 0, 1, .null)] (by decide +kernel) rfl ?_
        obtain ⟨r5, e6, hm⟩ := bn_x hm
        refine aw_cv (rest := []) (st1 := []) a 0 (kX1_takeRules e6 h0 hf) rfl rfl ckX1_takeRules lkX1_115 h0 eo_D_0 ⟨_, _, rfl⟩ nkX1_takeRules rfl rfl rfl (Nat.le_of_ble_eq_true rfl) (Nat.zero_le _) (Nat.zero_le _) (by decide +kernel) (fun H7 z8 => ?_)
        obtain ⟨z8, hn⟩ := z8
        have h0 := hn
        have hs := hs.step z8 (by omega) (by omega)
        refine aw_b (pc' := 16) (lv' := [(0, .ref a), (1, .int i0), (2, .int v2_b2)]) (st' := [.ref a]) [(15, .aload_n 0, 1, .null)] (by decide +kernel) rfl ?_
        obtain ⟨r9, e10, hm⟩ := bn_x hm
        refine aw_cv (rest := []) (st1 := []) a 0 (kX1_serveAll e10 h0 hf) rfl rfl ckX1_serveAll lkX1_118 h0 eo_D_0 ⟨_, _, rfl⟩ nkX1_serveAll rfl rfl rfl (Nat.le_of_ble_eq_true rfl) (Nat.zero_le _) (Nat.zero_le _) (by decide +kernel) (fun H11 z12 => ?_)
        obtain ⟨z12, hn⟩ := z12
        have h0 := hn
        have hs := hs.step z12 (by omega) (by omega)
        refine aw_b (pc' := 2) (lv' := [(2, .int (v2_b2 + (1 : Int32))), (0, .ref a), (1, .int i0)]) (st' := []) [(19, .iinc 2 1, 3, .int (1 : Int32)), (22, .goto (-20), 3, .null)] (by decide +kernel) rfl ?_
        cases hm
        refine aw_lv (lv' := [(0, .ref a), (1, .int i0), (2, .int (v2_b2 + (1 : Int32)))]) [1, 2, 0] rfl ?_
        exact ih2 (v2_b2 + (1 : Int32)) r9 H11 h0 hs hk2
  refine aw_lv (lv' := [(0, .ref a), (1, .int i0), (2, .int (0 : Int32))]) [1, 2, 0] rfl ?_
  exact L2 FU_ (0 : Int32) s H h0 hs hx2
def mX1_regretNow : mt_ := (yX1_regretNow, cX1_regretNow, 1, some .int, [], { frames := 1, locals := 22, cells := 0, slots := 0 })
theorem ckX1_regretNow : cokV_ mX1_regretNow := ⟨⟨(uw_mem 1188 (by decide +kernel) (by decide +kernel)), (uw_mem 33 (by decide +kernel) (by decide +kernel)), by decide +kernel, by decide +kernel⟩, (uw_mem 1186 (by decide +kernel) (by decide +kernel)), (uw_mem 1187 (by decide +kernel) (by decide +kernel))⟩
theorem nkX1_regretNow : nok_ mX1_regretNow 0 := by decide +kernel
theorem kX1_regretNow {E : ev_} {H : Heap} {a : Nat} {s : st_} {r : Int32} (hm : fX1_regretNow s = some r) (h0 : has_ E H a ly_D s) : sp_ E mX1_regretNow [.ref a] H (po1 (.inl (some (.int r))) (fun Hn => sm_ H Hn 0 0)) := by
  refine sp_of (by decide +kernel) rfl rfl ?_
  generalize hQ : po1 _ _ = Q
  have hs : sm_ H H 0 0 := sm_.rfl'
  unfold fX1_regretNow at hm
  refine aw_lv (lv' := [(0, .ref a)]) [0] rfl ?_
  refine aw_b (pc' := 1) (lv' := [(0, .ref a)]) (st' := [.ref a]) [(0, .aload_n 0, 1, .null)] (by decide +kernel) rfl ?_
  refine aw_gl (v := .ref (a + 5)) a 0 h0 eo_D_0 fgX1_21 rfl (by decide +kernel) ?_
  refine aw_gl (v := .int (s 5 5)) a 5 h0 eo_D_5 fgX1_198 rfl (by decide +kernel) ?_
  refine aw_b (pc' := 8) (lv' := [(0, .ref a)]) (st' := [.ref a, .int (s 5 5)]) [(7, .aload_n 0, 1, .null)] (by decide +kernel) rfl ?_
  refine aw_gl (v := .ref (a + 11)) a 0 h0 eo_D_0 fgX1_28 rfl (by decide +kernel) ?_
  refine aw_b (pc' := 12) (lv' := [(0, .ref a)]) (st' := [.ref a, .ref (a + 11), .int (s 5 5)]) [(11, .aload_n 0, 1, .null)] (by decide +kernel) rfl ?_
  obtain ⟨r1, e2, hm⟩ := bn_x hm
  refine aw_cv (rest := [.ref (a + 11), .int (s 5 5)]) (st1 := [.int r1, .ref (a + 11), .int (s 5 5)]) a 0 (kX1_cheapestRule e2 h0) rfl rfl ckX1_cheapestRule lkX1_192 h0 eo_D_0 ⟨_, _, rfl⟩ nkX1_cheapestRule rfl rfl rfl (Nat.le_of_ble_eq_true rfl) (Nat.zero_le _) (Nat.zero_le _) (by decide +kernel) (fun H3 z4 => ?_)
  have h0 := h0.kept0 z4
  have hs := hs.step0 z4
  obtain ⟨g5, hm⟩ := gd_x hm
  refine aw_rall a 11 h0 ra_D_11 g5 (by decide +kernel) ?_
  refine aw_gl (v := .int (s (3 * ix_ r1 + 15) 5)) a (3 * ix_ r1 + 15) h0 (eow_D_15 _ (ib_lt g5)) fgX1_198 rfl (by decide +kernel) ?_
  refine aw_b (pc' := 20) (lv' := [(0, .ref a)]) (st' := [.int ((s 5 5) - (s (3 * ix_ r1 + 15) 5))]) [(19, .isub, 1, .null)] (by decide +kernel) rfl ?_
  obtain rfl := Option.some.inj hm
  subst hQ
  exact aw_iret rfl (Nat.zero_le _) (Nat.zero_le _) (by decide +kernel) ⟨rfl, hs⟩
def mX1_isBreach : mt_ := (yX1_isBreach, cX1_isBreach, 1, some .boolean, [], { frames := 2, locals := 42, cells := 0, slots := 0 })
theorem ckX1_isBreach : cokV_ mX1_isBreach := ⟨⟨(uw_mem 1192 (by decide +kernel) (by decide +kernel)), (uw_mem 33 (by decide +kernel) (by decide +kernel)), by decide +kernel, by decide +kernel⟩, (uw_mem 1190 (by decide +kernel) (by decide +kernel)), (uw_mem 1191 (by decide +kernel) (by decide +kernel))⟩
theorem nkX1_isBreach : nok_ mX1_isBreach 0 := by decide +kernel
theorem fgX1_225 : fok_ RX1 225 5 17 := ⟨_, _, _, rfl, by decide, (uw_mem 131 (by decide +kernel) (by decide +kernel)), wkX5⟩
theorem lkX1_228 : Cond.methodLink RX1 228 yX1_regretNow ∈ uw_ := (uw_mem 1193 (by decide +kernel) (by decide +kernel))
theorem lkX1_231 : Cond.methodLink RX1 231 yX5_boundBehind ∈ uw_ := (uw_mem 1194 (by decide +kernel) (by decide +kernel))
theorem kX1_isBreach {E : ev_} {H : Heap} {a : Nat} {s : st_} {r : Int32} (hm : fX1_isBreach s = some r) (h0 : has_ E H a ly_D s) : sp_ E mX1_isBreach [.ref a] H (po1 (.inl (some (.int r))) (fun Hn => sm_ H Hn 0 0)) := by
  refine sp_of (by decide +kernel) rfl rfl ?_
  generalize hQ : po1 _ _ = Q
  have hs : sm_ H H 0 0 := sm_.rfl'
  unfold fX1_isBreach at hm
  refine aw_lv (lv' := [(0, .ref a)]) [0] rfl ?_
  refine aw_b (pc' := 1) (lv' := [(0, .ref a)]) (st' := [.ref a]) [(0, .aload_n 0, 1, .null)] (by decide +kernel) rfl ?_
  refine aw_gl (v := .ref (a + 1)) a 0 h0 eo_D_0 fgX1_12 rfl (by decide +kernel) ?_
  refine aw_gl (v := .int (s 1 17)) a 1 h0 eo_D_1 fgX1_225 rfl (by decide +kernel) ?_
  refine aw_b (pc' := 8) (lv' := [(0, .ref a)]) (st' := [.int (-1 : Int32), .int (s 1 17)]) [(7, .iconst (-1), 1, .int (-1 : Int32))] (by decide +kernel) rfl ?_
  have J33 : ∀ (H_j33 : Heap), has_ E H_j33 a ly_D s → sm_ H H_j33 0 0 → fX1_isBreach_j33 = some r → aw E mX1_isBreach Q 33 [] [] H_j33 0 0 := by
    intro H_j33 h0 hs hm
    unfold fX1_isBreach_j33 at hm
    refine aw_b (pc' := 34) (lv' := []) (st' := [.int (0 : Int32)]) [(33, .iconst 0, 1, .int (0 : Int32))] (by decide +kernel) rfl ?_
    obtain rfl := Option.some.inj hm
    subst hQ
    exact aw_zret rfl (by decide +kernel) (Nat.zero_le _) (Nat.zero_le _) (by decide +kernel) ⟨rfl, hs⟩
  refine aw_ic_eq (off := 25) 33 (by decide) (by decide +kernel) (fun hc => ?_) (fun hc => ?_)
  · have hm := (if_pos hc).symm.trans hm
    refine aw_lv (lv' := []) [] rfl ?_
    exact J33 H h0 hs hm
  · have hm := (if_neg hc).symm.trans hm
    refine aw_b (pc' := 12) (lv' := [(0, .ref a)]) (st' := [.ref a]) [(11, .aload_n 0, 1, .null)] (by decide +kernel) rfl ?_
    obtain ⟨r1, e2, hm⟩ := bn_x hm
    refine aw_cv (rest := []) (st1 := [.int r1]) a 0 (kX1_regretNow e2 h0) rfl rfl ckX1_regretNow lkX1_228 h0 eo_D_0 ⟨_, _, rfl⟩ nkX1_regretNow rfl rfl rfl (Nat.le_of_ble_eq_true rfl) (Nat.zero_le _) (Nat.zero_le _) (by decide +kernel) (fun H3 z4 => ?_)
    have h0 := h0.kept0 z4
    have hs := hs.step0 z4
    refine aw_b (pc' := 16) (lv' := [(0, .ref a)]) (st' := [.ref a, .int r1]) [(15, .aload_n 0, 1, .null)] (by decide +kernel) rfl ?_
    refine aw_gl (v := .ref (a + 1)) a 0 h0 eo_D_0 fgX1_12 rfl (by decide +kernel) ?_
    refine aw_b (pc' := 20) (lv' := [(0, .ref a)]) (st' := [.ref a, .ref (a + 1), .int r1]) [(19, .aload_n 0, 1, .null)] (by decide +kernel) rfl ?_
    refine aw_gl (v := .int (s 0 9)) a 0 h0 eo_D_0 fgX1_66 rfl (by decide +kernel) ?_
    obtain ⟨r5, e6, hm⟩ := bn_x hm
    refine aw_cv (rest := [.int r1]) (st1 := [.int r5, .int r1]) a 1 (kX5_boundBehind e6 (h0.sub su_D_1_S)) rfl rfl ckX5_boundBehind lkX1_231 h0 eo_D_1 ⟨_, _, rfl⟩ nkX5_boundBehind rfl rfl rfl (Nat.le_of_ble_eq_true rfl) (Nat.zero_le _) (Nat.zero_le _) (by decide +kernel) (fun H7 z8 => ?_)
    have h0 := h0.kept0 z8
    have hs := hs.step0 z8
    refine aw_ic_le (off := 7) 33 (by decide) (by decide +kernel) (fun hc => ?_) (fun hc => ?_)
    · have hm := (if_pos hc).symm.trans hm
      refine aw_lv (lv' := []) [] rfl ?_
      exact J33 H7 h0 hs hm
    · have hm := (if_neg hc).symm.trans hm
      refine aw_b (pc' := 34) (lv' := [(0, .ref a)]) (st' := [.int (1 : Int32)]) [(29, .iconst 1, 1, .int (1 : Int32)), (30, .goto 4, 3, .null)] (by decide +kernel) rfl ?_
      obtain rfl := Option.some.inj hm
      subst hQ
      exact aw_zret rfl (by decide +kernel) (Nat.zero_le _) (Nat.zero_le _) (by decide +kernel) ⟨rfl, hs⟩
