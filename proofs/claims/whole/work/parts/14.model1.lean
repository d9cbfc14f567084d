/-! mirrors of methods, and that the methods do as they say: printed by wip/whole/gen_parts.py out of the listing -/
def mX8_begins : mt_ := (yX8_begins, cX8_begins, 2, none, [], { frames := 0, locals := 0, cells := 0, slots := 0 })
theorem ckX8_begins : cokS_ mX8_begins := ⟨⟨(uw_mem 1430 (by decide +kernel) (by decide +kernel)), (uw_mem 112 (by decide +kernel) (by decide +kernel)), by decide +kernel, by decide +kernel⟩, (uw_mem 1429 (by decide +kernel) (by decide +kernel))⟩
theorem nkX8_begins : nok_ mX8_begins 1 := by decide +kernel
def fX8_begins_x2_19 (s_x2_19 : st_) : Option (st_) :=
  gd_ (ib_ (3 : Int32) 12584) <|
  bd_ (pt_ s_x2_19 0 (ix_ (3 : Int32)) (1 : Int32)) fun s2 =>
  gd_ (ib_ (5 : Int32) 12584) <|
  bd_ (pt_ s2 0 (ix_ (5 : Int32)) (2 : Int32)) fun s7 =>
  gd_ (ib_ (7 : Int32) 12584) <|
  bd_ (pt_ s7 0 (ix_ (7 : Int32)) (100 : Int32)) fun s12 =>
  gd_ (ib_ (8 : Int32) 12584) <|
  bd_ (pt_ s12 0 (ix_ (8 : Int32)) (1 : Int32)) fun s17 =>
  gd_ (ib_ (11 : Int32) 12584) <|
  bd_ (pt_ s17 0 (ix_ (11 : Int32)) (-1 : Int32)) fun s22 =>
  gd_ (ib_ (12 : Int32) 12584) <|
  bd_ (pt_ s22 0 (ix_ (12 : Int32)) (-1 : Int32)) fun s27 =>
  gd_ (ib_ (19 : Int32) 12584) <|
  bd_ (pt_ s27 0 (ix_ (19 : Int32)) (-1 : Int32)) fun s32 =>
  gd_ (ib_ (13 : Int32) 12584) <|
  bd_ (pt_ s32 0 (ix_ (13 : Int32)) (-1 : Int32)) fun s37 =>
  gd_ (ib_ (21 : Int32) 12584) <|
  bd_ (pt_ s37 0 (ix_ (21 : Int32)) (-1 : Int32)) fun s42 =>
  gd_ (ib_ (25 : Int32) 12584) <|
  bd_ (pt_ s42 0 (ix_ (25 : Int32)) (-1 : Int32)) fun s47 =>
  some s47
def fX8_begins_k2 (x : st_) : Option (st_) :=
  fX8_begins_x2_19 x
def fX8_begins_b2 (v1_b2 : Int32) (s_b2 : st_) : Option ((Int32 × st_) ⊕ (st_)) :=
  if (12584 : Int32) ≤ v1_b2 then (some (.inr s_b2))
  else (gd_ (ib_ v1_b2 12584) <|
  bd_ (pt_ s_b2 0 (ix_ v1_b2) (0 : Int32)) fun s52 =>
  some (.inl ((v1_b2 + (1 : Int32)), s52)))
def fX8_begins_l2 : Nat → (Int32 × st_) → Option (st_) :=
  it_ (fun v => fX8_begins_b2 v.1 v.2)
def fX8_begins (s : st_) : Option (st_) :=
  bn_ (fX8_begins_l2 FU_ ((0 : Int32), s)) (fX8_begins_k2)
theorem kX8_begins {E : ev_} {H : Heap} {a : Nat} {s : st_} {r : st_} (hm : fX8_begins s = some r) (h0 : has_ E H a ly_IW s) (hf : ev_fr E a) : sp_ E mX8_begins [.ref a] H (po1 (.inl (none)) (fun Hn => sm_ H Hn a 1 ∧ has_ E Hn a ly_IW r)) := by
  refine sp_of (by decide +kernel) rfl rfl ?_
  generalize hQ : po1 _ _ = Q
  have hs : sm_ H H a 1 := sm_.rfl'
  unfold fX8_begins at hm
  refine aw_lv (lv' := [(0, .ref a)]) [0] rfl ?_
  refine aw_b (pc' := 2) (lv' := [(1, .int (0 : Int32)), (0, .ref a)]) (st' := []) [(0, .iconst 0, 1, .int (0 : Int32)), (1, .istore_n 1, 1, .null)] (by decide +kernel) rfl ?_
  obtain ⟨x2, hx2, hr2⟩ := bn_x hm
  have X2_19 : ∀ (s_x2_19 : st_) (H_x2_19 : Heap), has_ E H_x2_19 a ly_IW s_x2_19 → sm_ H H_x2_19 a 1 → fX8_begins_x2_19 s_x2_19 = some r → aw E mX8_begins Q 19 [(0, .ref a)] [] H_x2_19 0 0 := by
    intro s_x2_19 H_x2_19 h0 hs hm
    unfold fX8_begins_x2_19 at hm
    refine aw_b (pc' := 22) (lv' := [(0, .ref a)]) (st' := [.int (1 : Int32), .int (3 : Int32), .ref a]) [(19, .aload_n 0, 1, .null), (20, .iconst 3, 1, .int (3 : Int32)), (21, .iconst 1, 1, .int (1 : Int32))] (by decide +kernel) rfl ?_
    obtain ⟨g1, hm⟩ := gd_x hm
    obtain ⟨s2, e3, hm⟩ := bd_x hm
    refine aw_isl a 0 h0 rfl hf g1 e3 (by decide +kernel) (fun H4 h0 z5 => ?_)
    have hs := hs.step z5 (by omega) (by omega)
    refine aw_b (pc' := 26) (lv' := [(0, .ref a)]) (st' := [.int (2 : Int32), .int (5 : Int32), .ref a]) [(23, .aload_n 0, 1, .null), (24, .iconst 5, 1, .int (5 : Int32)), (25, .iconst 2, 1, .int (2 : Int32))] (by decide +kernel) rfl ?_
    obtain ⟨g6, hm⟩ := gd_x hm
    obtain ⟨s7, e8, hm⟩ := bd_x hm
    refine aw_isl a 0 h0 rfl hf g6 e8 (by decide +kernel) (fun H9 h0 z10 => ?_)
    have hs := hs.step z10 (by omega) (by omega)
    refine aw_b (pc' := 32) (lv' := [(0, .ref a)]) (st' := [.int (100 : Int32), .int (7 : Int32), .ref a]) [(27, .aload_n 0, 1, .null), (28, .bipush 7, 2, .int (7 : Int32)), (30, .bipush 100, 2, .int (100 : Int32))] (by decide +kernel) rfl ?_
    obtain ⟨g11, hm⟩ := gd_x hm
    obtain ⟨s12, e13, hm⟩ := bd_x hm
    refine aw_isl a 0 h0 rfl hf g11 e13 (by decide +kernel) (fun H14 h0 z15 => ?_)
    have hs := hs.step z15 (by omega) (by omega)
    refine aw_b (pc' := 37) (lv' := [(0, .ref a)]) (st' := [.int (1 : Int32), .int (8 : Int32), .ref a]) [(33, .aload_n 0, 1, .null), (34, .bipush 8, 2, .int (8 : Int32)), (36, .iconst 1, 1, .int (1 : Int32))] (by decide +kernel) rfl ?_
    obtain ⟨g16, hm⟩ := gd_x hm
    obtain ⟨s17, e18, hm⟩ := bd_x hm
    refine aw_isl a 0 h0 rfl hf g16 e18 (by decide +kernel) (fun H19 h0 z20 => ?_)
    have hs := hs.step z20 (by omega) (by omega)
    refine aw_b (pc' := 42) (lv' := [(0, .ref a)]) (st' := [.int (-1 : Int32), .int (11 : Int32), .ref a]) [(38, .aload_n 0, 1, .null), (39, .bipush 11, 2, .int (11 : Int32)), (41, .iconst (-1), 1, .int (-1 : Int32))] (by decide +kernel) rfl ?_
    obtain ⟨g21, hm⟩ := gd_x hm
    obtain ⟨s22, e23, hm⟩ := bd_x hm
    refine aw_isl a 0 h0 rfl hf g21 e23 (by decide +kernel) (fun H24 h0 z25 => ?_)
    have hs := hs.step z25 (by omega) (by omega)
    refine aw_b (pc' := 47) (lv' := [(0, .ref a)]) (st' := [.int (-1 : Int32), .int (12 : Int32), .ref a]) [(43, .aload_n 0, 1, .null), (44, .bipush 12, 2, .int (12 : Int32)), (46, .iconst (-1), 1, .int (-1 : Int32))] (by decide +kernel) rfl ?_
    obtain ⟨g26, hm⟩ := gd_x hm
    obtain ⟨s27, e28, hm⟩ := bd_x hm
    refine aw_isl a 0 h0 rfl hf g26 e28 (by decide +kernel) (fun H29 h0 z30 => ?_)
    have hs := hs.step z30 (by omega) (by omega)
    refine aw_b (pc' := 52) (lv' := [(0, .ref a)]) (st' := [.int (-1 : Int32), .int (19 : Int32), .ref a]) [(48, .aload_n 0, 1, .null), (49, .bipush 19, 2, .int (19 : Int32)), (51, .iconst (-1), 1, .int (-1 : Int32))] (by decide +kernel) rfl ?_
    obtain ⟨g31, hm⟩ := gd_x hm
    obtain ⟨s32, e33, hm⟩ := bd_x hm
    refine aw_isl a 0 h0 rfl hf g31 e33 (by decide +kernel) (fun H34 h0 z35 => ?_)
    have hs := hs.step z35 (by omega) (by omega)
    refine aw_b (pc' := 57) (lv' := [(0, .ref a)]) (st' := [.int (-1 : Int32), .int (13 : Int32), .ref a]) [(53, .aload_n 0, 1, .null), (54, .bipush 13, 2, .int (13 : Int32)), (56, .iconst (-1), 1, .int (-1 : Int32))] (by decide +kernel) rfl ?_
    obtain ⟨g36, hm⟩ := gd_x hm
    obtain ⟨s37, e38, hm⟩ := bd_x hm
    refine aw_isl a 0 h0 rfl hf g36 e38 (by decide +kernel) (fun H39 h0 z40 => ?_)
    have hs := hs.step z40 (by omega) (by omega)
    refine aw_b (pc' := 62) (lv' := [(0, .ref a)]) (st' := [.int (-1 : Int32), .int (21 : Int32), .ref a]) [(58, .aload_n 0, 1, .null), (59, .bipush 21, 2, .int (21 : Int32)), (61, .iconst (-1), 1, .int (-1 : Int32))] (by decide +kernel) rfl ?_
    obtain ⟨g41, hm⟩ := gd_x hm
    obtain ⟨s42, e43, hm⟩ := bd_x hm
    refine aw_isl a 0 h0 rfl hf g41 e43 (by decide +kernel) (fun H44 h0 z45 => ?_)
    have hs := hs.step z45 (by omega) (by omega)
    refine aw_b (pc' := 67) (lv' := [(0, .ref a)]) (st' := [.int (-1 : Int32), .int (25 : Int32), .ref a]) [(63, .aload_n 0, 1, .null), (64, .bipush 25, 2, .int (25 : Int32)), (66, .iconst (-1), 1, .int (-1 : Int32))] (by decide +kernel) rfl ?_
    obtain ⟨g46, hm⟩ := gd_x hm
    obtain ⟨s47, e48, hm⟩ := bd_x hm
    refine aw_isl a 0 h0 rfl hf g46 e48 (by decide +kernel) (fun H49 h0 z50 => ?_)
    have hs := hs.step z50 (by omega) (by omega)
    obtain rfl := Option.some.inj hm
    subst hQ
    exact aw_vret rfl (Nat.zero_le _) (Nat.zero_le _) (by decide +kernel) ⟨rfl, hs, h0⟩
  have L2 : ∀ (fu : Nat) (v1_b2 : Int32) (s_b2 : st_) (H_b2 : Heap), has_ E H_b2 a ly_IW s_b2 → sm_ H H_b2 a 1 → fX8_begins_l2 fu (v1_b2, s_b2) = some x2 → aw E mX8_begins Q 2 [(0, .ref a), (1, .int v1_b2)] [] H_b2 0 0 := by
    intro fu
    induction fu with
    | zero =>
      intro v1_b2 s_b2 H_b2 h0 hs hm
      exact (it_0 hm).elim
    | succ fu ih2 =>
      intro v1_b2 s_b2 H_b2 h0 hs hm
      obtain ⟨y2, hm, hk2⟩ := it_s hm
      have hm : fX8_begins_b2 v1_b2 s_b2 = some y2 := hm
      unfold fX8_begins_b2 at hm
      refine aw_b (pc' := 6) (lv' := [(0, .ref a), (1, .int v1_b2)]) (st' := [.int (12584 : Int32), .int v1_b2]) [(2, .iload_n 1, 1, .null), (3, .sipush 12584, 3, .int (12584 : Int32))] (by decide +kernel) rfl ?_
      refine aw_ic_ge (off := 13) 19 (by decide) (by decide +kernel) (fun hc => ?_) (fun hc => ?_)
      · have hm := (if_pos hc).symm.trans hm
        cases hm
        refine aw_lv (lv' := [(0, .ref a)]) [0] rfl ?_
        exact X2_19 s_b2 H_b2 h0 hs ((congrArg fX8_begins_k2 (show (s_b2) = x2 from hk2)).trans hr2)
      · have hm := (if_neg hc).symm.trans hm
        refine aw_b (pc' := 12) (lv' := [(0, .ref a), (1, .int v1_b2)]) (st' := [.int (0 : Int32), .int v1_b2, .ref a]) [(9, .aload_n 0, 1, .null), (10, .iload_n 1, 1, .null), (11, .iconst 0, 1, .int (0 : Int32))] (by decide +kernel) rfl ?_
        obtain ⟨g51, hm⟩ := gd_x hm
        obtain ⟨s52, e53, hm⟩ := bd_x hm
        refine aw_isl a 0 h0 rfl hf g51 e53 (by decide +kernel) (fun H54 h0 z55 => ?_)
        have hs := hs.step z55 (by omega) (by omega)
        refine aw_b (pc' := 2) (lv' := [(1, .int (v1_b2 + (1 : Int32))), (0, .ref a)]) (st' := []) [(13, .iinc 1 1, 3, .int (1 : Int32)), (16, .goto (-14), 3, .null)] (by decide +kernel) rfl ?_
        cases hm
        refine aw_lv (lv' := [(0, .ref a), (1, .int (v1_b2 + (1 : Int32)))]) [1, 0] rfl ?_
        exact ih2 (v1_b2 + (1 : Int32)) s52 H54 h0 hs hk2
  refine aw_lv (lv' := [(0, .ref a), (1, .int (0 : Int32))]) [1, 0] rfl ?_
  exact L2 FU_ (0 : Int32) s H h0 hs hx2
def mX8_completes : mt_ := (yX8_completes, cX8_completes, 2, none, [], { frames := 0, locals := 0, cells := 0, slots := 0 })
theorem ckX8_completes : cokS_ mX8_completes := ⟨⟨(uw_mem 1433 (by decide +kernel) (by decide +kernel)), (uw_mem 112 (by decide +kernel) (by decide +kernel)), by decide +kernel, by decide +kernel⟩, (uw_mem 1432 (by decide +kernel) (by decide +kernel))⟩
theorem nkX8_completes : nok_ mX8_completes 1 := by decide +kernel
theorem kwX8_53 : Cond.constant RX8 53 (1000000 : Int32) ∈ uw_ := (uw_mem 1434 (by decide +kernel) (by decide +kernel))
def fX8_completes_x52_90 (s_x52_90 : st_) : Option (st_) :=
  some s_x52_90
def fX8_completes_k52 (x : st_) : Option (st_) :=
  fX8_completes_x52_90 x
def fX8_completes_b52 (v1_b52 : Int32) (s_b52 : st_) : Option ((Int32 × st_) ⊕ (st_)) :=
  if (8 : Int32) ≤ v1_b52 then (some (.inr s_b52))
  else (gd_ (ib_ (1 : Int32) 12584) <|
  gd_ (ib_ (((72 : Int32) + ((47 : Int32) * v1_b52)) + (0 : Int32)) 12584) <|
  bd_ (pt_ s_b52 0 (ix_ (((72 : Int32) + ((47 : Int32) * v1_b52)) + (0 : Int32))) (s_b52 0 (ix_ (1 : Int32)))) fun s10 =>
  gd_ (ib_ (((72 : Int32) + ((47 : Int32) * v1_b52)) + (1 : Int32)) 12584) <|
  bd_ (pt_ s10 0 (ix_ (((72 : Int32) + ((47 : Int32) * v1_b52)) + (1 : Int32))) (1 : Int32)) fun s15 =>
  some (.inl ((v1_b52 + (1 : Int32)), s15)))
def fX8_completes_l52 : Nat → (Int32 × st_) → Option (st_) :=
  it_ (fun v => fX8_completes_b52 v.1 v.2)
def fX8_completes_x17_42 (s_x17_42 : st_) : Option (st_) :=
  gd_ (ib_ (8 : Int32) 12584) <|
  gd_ (ib_ (23 : Int32) 12584) <|
  bd_ (pt_ s_x17_42 0 (ix_ (23 : Int32)) (s_x17_42 0 (ix_ (8 : Int32)))) fun s4 =>
  bn_ (fX8_completes_l52 FU_ ((0 : Int32), s4)) (fX8_completes_k52)
def fX8_completes_k17 (x : st_) : Option (st_) :=
  fX8_completes_x17_42 x
def fX8_completes_b17 (v1_b17 : Int32) (s_b17 : st_) : Option ((Int32 × st_) ⊕ (st_)) :=
  gd_ (ib_ (4 : Int32) 12584) <|
  if (s_b17 0 (ix_ (4 : Int32))) ≤ v1_b17 then (some (.inr s_b17))
  else (gd_ (ib_ (((26 : Int32) + ((5 : Int32) * v1_b17)) + (2 : Int32)) 12584) <|
  bd_ (pt_ s_b17 0 (ix_ (((26 : Int32) + ((5 : Int32) * v1_b17)) + (2 : Int32))) (1000000 : Int32)) fun s21 =>
  some (.inl ((v1_b17 + (1 : Int32)), s21)))
def fX8_completes_l17 : Nat → (Int32 × st_) → Option (st_) :=
  it_ (fun v => fX8_completes_b17 v.1 v.2)
def fX8_completes_j15 (s_j15 : st_) : Option (st_) :=
  bn_ (fX8_completes_l17 FU_ ((0 : Int32), s_j15)) (fX8_completes_k17)
def fX8_completes (s : st_) : Option (st_) :=
  gd_ (ib_ (4 : Int32) 12584) <|
  if (s 0 (ix_ (4 : Int32))) = (0 : Int32) then (gd_ (ib_ (4 : Int32) 12584) <|
  bd_ (pt_ s 0 (ix_ (4 : Int32)) (1 : Int32)) fun s26 =>
  gd_ (ib_ (27 : Int32) 12584) <|
  bd_ (pt_ s26 0 (ix_ (27 : Int32)) (-1 : Int32)) fun s31 =>
  fX8_completes_j15 s31)
  else (fX8_completes_j15 s)
theorem kX8_completes {E : ev_} {H : Heap} {a : Nat} {s : st_} {r : st_} (hm : fX8_completes s = some r) (h0 : has_ E H a ly_IW s) (hf : ev_fr E a) : sp_ E mX8_completes [.ref a] H (po1 (.inl (none)) (fun Hn => sm_ H Hn a 1 ∧ has_ E Hn a ly_IW r)) := by
  refine sp_of (by decide +kernel) rfl rfl ?_
  generalize hQ : po1 _ _ = Q
  have hs : sm_ H H a 1 := sm_.rfl'
  unfold fX8_completes at hm
  refine aw_lv (lv' := [(0, .ref a)]) [0] rfl ?_
  refine aw_b (pc' := 2) (lv' := [(0, .ref a)]) (st' := [.int (4 : Int32), .ref a]) [(0, .aload_n 0, 1, .null), (1, .iconst 4, 1, .int (4 : Int32))] (by decide +kernel) rfl ?_
  obtain ⟨g1, hm⟩ := gd_x hm
  refine aw_ial a 0 h0 rfl g1 (by decide +kernel) ?_
  have J15 : ∀ (s_j15 : st_) (H_j15 : Heap), has_ E H_j15 a ly_IW s_j15 → sm_ H H_j15 a 1 → fX8_completes_j15 s_j15 = some r → aw E mX8_completes Q 15 [(0, .ref a)] [] H_j15 0 0 := by
    intro s_j15 H_j15 h0 hs hm
    unfold fX8_completes_j15 at hm
    refine aw_b (pc' := 17) (lv' := [(1, .int (0 : Int32)), (0, .ref a)]) (st' := []) [(15, .iconst 0, 1, .int (0 : Int32)), (16, .istore_n 1, 1, .null)] (by decide +kernel) rfl ?_
    obtain ⟨x17, hx17, hr17⟩ := bn_x hm
    have X17_42 : ∀ (s_x17_42 : st_) (H_x17_42 : Heap), has_ E H_x17_42 a ly_IW s_x17_42 → sm_ H H_x17_42 a 1 → fX8_completes_x17_42 s_x17_42 = some r → aw E mX8_completes Q 42 [(0, .ref a)] [] H_x17_42 0 0 := by
      intro s_x17_42 H_x17_42 h0 hs hm
      unfold fX8_completes_x17_42 at hm
      refine aw_b (pc' := 48) (lv' := [(0, .ref a)]) (st' := [.int (8 : Int32), .ref a, .int (23 : Int32), .ref a]) [(42, .aload_n 0, 1, .null), (43, .bipush 23, 2, .int (23 : Int32)), (45, .aload_n 0, 1, .null), (46, .bipush 8, 2, .int (8 : Int32))] (by decide +kernel) rfl ?_
      obtain ⟨g2, hm⟩ := gd_x hm
      refine aw_ial a 0 h0 rfl g2 (by decide +kernel) ?_
      obtain ⟨g3, hm⟩ := gd_x hm
      obtain ⟨s4, e5, hm⟩ := bd_x hm
      refine aw_isl a 0 h0 rfl hf g3 e5 (by decide +kernel) (fun H6 h0 z7 => ?_)
      have hs := hs.step z7 (by omega) (by omega)
      refine aw_b (pc' := 52) (lv' := [(1, .int (0 : Int32)), (0, .ref a)]) (st' := []) [(50, .iconst 0, 1, .int (0 : Int32)), (51, .istore_n 1, 1, .null)] (by decide +kernel) rfl ?_
      obtain ⟨x52, hx52, hr52⟩ := bn_x hm
      have X52_90 : ∀ (s_x52_90 : st_) (H_x52_90 : Heap), has_ E H_x52_90 a ly_IW s_x52_90 → sm_ H H_x52_90 a 1 → fX8_completes_x52_90 s_x52_90 = some r → aw E mX8_completes Q 90 [] [] H_x52_90 0 0 := by
        intro s_x52_90 H_x52_90 h0 hs hm
        unfold fX8_completes_x52_90 at hm
        obtain rfl := Option.some.inj hm
        subst hQ
        exact aw_vret rfl (Nat.zero_le _) (Nat.zero_le _) (by decide +kernel) ⟨rfl, hs, h0⟩
      have L52 : ∀ (fu : Nat) (v1_b52 : Int32) (s_b52 : st_) (H_b52 : Heap), has_ E H_b52 a ly_IW s_b52 → sm_ H H_b52 a 1 → fX8_completes_l52 fu (v1_b52, s_b52) = some x52 → aw E mX8_completes Q 52 [(0, .ref a), (1, .int v1_b52)] [] H_b52 0 0 := by
        intro fu
        induction fu with
        | zero =>
          intro v1_b52 s_b52 H_b52 h0 hs hm
          exact (it_0 hm).elim
        | succ fu ih52 =>
          intro v1_b52 s_b52 H_b52 h0 hs hm
          obtain ⟨y52, hm, hk52⟩ := it_s hm
          have hm : fX8_completes_b52 v1_b52 s_b52 = some y52 := hm
          unfold fX8_completes_b52 at hm
          refine aw_b (pc' := 55) (lv' := [(0, .ref a), (1, .int v1_b52)]) (st' := [.int (8 : Int32), .int v1_b52]) [(52, .iload_n 1, 1, .null), (53, .bipush 8, 2, .int (8 : Int32))] (by decide +kernel) rfl ?_
          refine aw_ic_ge (off := 35) 90 (by decide) (by decide +kernel) (fun hc => ?_) (fun hc => ?_)
          · have hm := (if_pos hc).symm.trans hm
            cases hm
            refine aw_lv (lv' := []) [] rfl ?_
            exact X52_90 s_b52 H_b52 h0 hs ((congrArg fX8_completes_k52 (show (s_b52) = x52 from hk52)).trans hr52)
          · have hm := (if_neg hc).symm.trans hm
            refine aw_b (pc' := 70) (lv' := [(0, .ref a), (1, .int v1_b52)]) (st' := [.int (1 : Int32), .ref a, .int (((72 : Int32) + ((47 : Int32) * v1_b52)) + (0 : Int32)), .ref a]) [(58, .aload_n 0, 1, .null), (59, .bipush 72, 2, .int (72 : Int32)), (61, .bipush 47, 2, .int (47 : Int32)), (63, .iload_n 1, 1, .null), (64, .imul, 1, .null), (65, .iadd, 1, .null), (66, .iconst 0, 1, .int (0 : Int32)), (67, .iadd, 1, .null), (68, .aload_n 0, 1, .null), (69, .iconst 1, 1, .int (1 : Int32))] (by decide +kernel) rfl ?_
            obtain ⟨g8, hm⟩ := gd_x hm
            refine aw_ial a 0 h0 rfl g8 (by decide +kernel) ?_
            obtain ⟨g9, hm⟩ := gd_x hm
            obtain ⟨s10, e11, hm⟩ := bd_x hm
            refine aw_isl a 0 h0 rfl hf g9 e11 (by decide +kernel) (fun H12 h0 z13 => ?_)
            have hs := hs.step z13 (by omega) (by omega)
            refine aw_b (pc' := 83) (lv' := [(0, .ref a), (1, .int v1_b52)]) (st' := [.int (1 : Int32), .int (((72 : Int32) + ((47 : Int32) * v1_b52)) + (1 : Int32)), .ref a]) [(72, .aload_n 0, 1, .null), (73, .bipush 72, 2, .int (72 : Int32)), (75, .bipush 47, 2, .int (47 : Int32)), (77, .iload_n 1, 1, .null), (78, .imul, 1, .null), (79, .iadd, 1, .null), (80, .iconst 1, 1, .int (1 : Int32)), (81, .iadd, 1, .null), (82, .iconst 1, 1, .int (1 : Int32))] (by decide +kernel) rfl ?_
            obtain ⟨g14, hm⟩ := gd_x hm
            obtain ⟨s15, e16, hm⟩ := bd_x hm
            refine aw_isl a 0 h0 rfl hf g14 e16 (by decide +kernel) (fun H17 h0 z18 => ?_)
            have hs := hs.step z18 (by omega) (by omega)
            refine aw_b (pc' := 52) (lv' := [(1, .int (v1_b52 + (1 : Int32))), (0, .ref a)]) (st' := []) [(84, .iinc 1 1, 3, .int (1 : Int32)), (87, .goto (-35), 3, .null)] (by decide +kernel) rfl ?_
            cases hm
            refine aw_lv (lv' := [(0, .ref a), (1, .int (v1_b52 + (1 : Int32)))]) [1, 0] rfl ?_
            exact ih52 (v1_b52 + (1 : Int32)) s15 H17 h0 hs hk52
      refine aw_lv (lv' := [(0, .ref a), (1, .int (0 : Int32))]) [1, 0] rfl ?_
      exact L52 FU_ (0 : Int32) s4 H6 h0 hs hx52
    have L17 : ∀ (fu : Nat) (v1_b17 : Int32) (s_b17 : st_) (H_b17 : Heap), has_ E H_b17 a ly_IW s_b17 → sm_ H H_b17 a 1 → fX8_completes_l17 fu (v1_b17, s_b17) = some x17 → aw E mX8_completes Q 17 [(0, .ref a), (1, .int v1_b17)] [] H_b17 0 0 := by
      intro fu
      induction fu with
      | zero =>
        intro v1_b17 s_b17 H_b17 h0 hs hm
        exact (it_0 hm).elim
      | succ fu ih17 =>
        intro v1_b17 s_b17 H_b17 h0 hs hm
        obtain ⟨y17, hm, hk17⟩ := it_s hm
        have hm : fX8_completes_b17 v1_b17 s_b17 = some y17 := hm
        unfold fX8_completes_b17 at hm
        refine aw_b (pc' := 20) (lv' := [(0, .ref a), (1, .int v1_b17)]) (st' := [.int (4 : Int32), .ref a, .int v1_b17]) [(17, .iload_n 1, 1, .null), (18, .aload_n 0, 1, .null), (19, .iconst 4, 1, .int (4 : Int32))] (by decide +kernel) rfl ?_
        obtain ⟨g19, hm⟩ := gd_x hm
        refine aw_ial a 0 h0 rfl g19 (by decide +kernel) ?_
        refine aw_ic_ge (off := 21) 42 (by decide) (by decide +kernel) (fun hc => ?_) (fun hc => ?_)
        · have hm := (if_pos hc).symm.trans hm
          cases hm
          refine aw_lv (lv' := [(0, .ref a)]) [0] rfl ?_
          exact X17_42 s_b17 H_b17 h0 hs ((congrArg fX8_completes_k17 (show (s_b17) = x17 from hk17)).trans hr17)
        · have hm := (if_neg hc).symm.trans hm
          refine aw_b (pc' := 33) (lv' := [(0, .ref a), (1, .int v1_b17)]) (st' := [.int (((26 : Int32) + ((5 : Int32) * v1_b17)) + (2 : Int32)), .ref a]) [(24, .aload_n 0, 1, .null), (25, .bipush 26, 2, .int (26 : Int32)), (27, .iconst 5, 1, .int (5 : Int32)), (28, .iload_n 1, 1, .null), (29, .imul, 1, .null), (30, .iadd, 1, .null), (31, .iconst 2, 1, .int (2 : Int32)), (32, .iadd, 1, .null)] (by decide +kernel) rfl ?_
          refine aw_ldc (v := (1000000 : Int32)) kwX8_53 (by decide +kernel) ?_
          obtain ⟨g20, hm⟩ := gd_x hm
          obtain ⟨s21, e22, hm⟩ := bd_x hm
          refine aw_isl a 0 h0 rfl hf g20 e22 (by decide +kernel) (fun H23 h0 z24 => ?_)
          have hs := hs.step z24 (by omega) (by omega)
          refine aw_b (pc' := 17) (lv' := [(1, .int (v1_b17 + (1 : Int32))), (0, .ref a)]) (st' := []) [(36, .iinc 1 1, 3, .int (1 : Int32)), (39, .goto (-22), 3, .null)] (by decide +kernel) rfl ?_
          cases hm
          refine aw_lv (lv' := [(0, .ref a), (1, .int (v1_b17 + (1 : Int32)))]) [1, 0] rfl ?_
          exact ih17 (v1_b17 + (1 : Int32)) s21 H23 h0 hs hk17
    refine aw_lv (lv' := [(0, .ref a), (1, .int (0 : Int32))]) [1, 0] rfl ?_
    exact L17 FU_ (0 : Int32) s_j15 H_j15 h0 hs hx17
  refine aw_if_ne (off := 12) 15 (by decide) (by decide +kernel) (fun hc => ?_) (fun hc => ?_)
  · have hm := (if_neg hc).symm.trans hm
    exact J15 s H h0 hs hm
  · have hm := (if_pos hc).symm.trans hm
    refine aw_b (pc' := 9) (lv' := [(0, .ref a)]) (st' := [.int (1 : Int32), .int (4 : Int32), .ref a]) [(6, .aload_n 0, 1, .null), (7, .iconst 4, 1, .int (4 : Int32)), (8, .iconst 1, 1, .int (1 : Int32))] (by decide +kernel) rfl ?_
    obtain ⟨g25, hm⟩ := gd_x hm
    obtain ⟨s26, e27, hm⟩ := bd_x hm
    refine aw_isl a 0 h0 rfl hf g25 e27 (by decide +kernel) (fun H28 h0 z29 => ?_)
    have hs := hs.step z29 (by omega) (by omega)
    refine aw_b (pc' := 14) (lv' := [(0, .ref a)]) (st' := [.int (-1 : Int32), .int (27 : Int32), .ref a]) [(10, .aload_n 0, 1, .null), (11, .bipush 27, 2, .int (27 : Int32)), (13, .iconst (-1), 1, .int (-1 : Int32))] (by decide +kernel) rfl ?_
    obtain ⟨g30, hm⟩ := gd_x hm
    obtain ⟨s31, e32, hm⟩ := bd_x hm
    refine aw_isl a 0 h0 rfl hf g30 e32 (by decide +kernel) (fun H33 h0 z34 => ?_)
    have hs := hs.step z34 (by omega) (by omega)
    exact J15 s31 H33 h0 hs hm
def mX8_thrown : mt_ := (yX8_thrown, cX8_thrown, 1, some .int, [], { frames := 0, locals := 0, cells := 0, slots := 0 })
theorem ckX8_thrown : cokV_ mX8_thrown := ⟨⟨(uw_mem 1497 (by decide +kernel) (by decide +kernel)), (uw_mem 112 (by decide +kernel) (by decide +kernel)), by decide +kernel, by decide +kernel⟩, (uw_mem 1495 (by decide +kernel) (by decide +kernel)), (uw_mem 1496 (by decide +kernel) (by decide +kernel))⟩
theorem nkX8_thrown : nok_ mX8_thrown 0 := by decide +kernel
theorem fgX8_45 : fok_ RX8 45 8 6 := ⟨_, _, _, rfl, by decide, (uw_mem 1441 (by decide +kernel) (by decide +kernel)), wkX8⟩
theorem eo_O_0 : eo_ ly_O 0 8 fsX8 := rfl
def fX8_thrown (s : st_) : Option (Int32) :=
  some (s 0 6)
theorem kX8_thrown {E : ev_} {H : Heap} {a : Nat} {s : st_} {r : Int32} (hm : fX8_thrown s = some r) (h0 : has_ E H a ly_O s) : sp_ E mX8_thrown [.ref a] H (po1 (.inl (some (.int r))) (fun Hn => sm_ H Hn 0 0)) := by
  refine sp_of (by decide +kernel) rfl rfl ?_
  generalize hQ : po1 _ _ = Q
  have hs : sm_ H H 0 0 := sm_.rfl'
  unfold fX8_thrown at hm
  refine aw_lv (lv' := [(0, .ref a)]) [0] rfl ?_
  refine aw_b (pc' := 1) (lv' := [(0, .ref a)]) (st' := [.ref a]) [(0, .aload_n 0, 1, .null)] (by decide +kernel) rfl ?_
  refine aw_gl (v := .int (s 0 6)) a 0 h0 eo_O_0 fgX8_45 rfl (by decide +kernel) ?_
  obtain rfl := Option.some.inj hm
  subst hQ
  exact aw_iret rfl (Nat.zero_le _) (Nat.zero_le _) (by decide +kernel) ⟨rfl, hs⟩
def mX8_in : mt_ := (yX8_in, cX8_in, 6, some .boolean, [], { frames := 0, locals := 0, cells := 0, slots := 0 })
theorem ckX8_in : cokS_ mX8_in := ⟨⟨(uw_mem 1536 (by decide +kernel) (by decide +kernel)), (uw_mem 112 (by decide +kernel) (by decide +kernel)), by decide +kernel, by decide +kernel⟩, (uw_mem 1535 (by decide +kernel) (by decide +kernel))⟩
theorem nkX8_in : nok_ mX8_in 3 := by decide +kernel
def fX8_in_j17 : Option (Int32) :=
  some (0 : Int32)
def fX8_in (i0 : Int64) (i1 : Int64) (i2 : Int64) : Option (Int32) :=
  if (lg_cmp i0 i1) < (0 : Int32) then (fX8_in_j17)
  else (if (0 : Int32) < (lg_cmp i0 i2) then (fX8_in_j17)
  else (some (1 : Int32)))
theorem kX8_in {E : ev_} {H : Heap} {i0 : Int64} {i1 : Int64} {i2 : Int64} {r : Int32} (hm : fX8_in i0 i1 i2 = some r) : sp_ E mX8_in [.long i0, .long i1, .long i2] H (po1 (.inl (some (.int r))) (fun Hn => sm_ H Hn 0 0)) := by
  refine sp_of (by decide +kernel) rfl rfl ?_
  generalize hQ : po1 _ _ = Q
  have hs : sm_ H H 0 0 := sm_.rfl'
  unfold fX8_in at hm
  refine aw_lv (lv' := [(0, .long i0), (2, .long i1), (4, .long i2)]) [0, 1, 2] rfl ?_
  refine aw_b (pc' := 3) (lv' := [(0, .long i0), (2, .long i1), (4, .long i2)]) (st' := [.int (lg_cmp i0 i1)]) [(0, .lload_n 0, 1, .null), (1, .lload_n 2, 1, .null), (2, .lcmp, 1, .null)] (by decide +kernel) rfl ?_
  have J17 : ∀ (H_j17 : Heap), sm_ H H_j17 0 0 → fX8_in_j17 = some r → aw E mX8_in Q 17 [] [] H_j17 0 0 := by
    intro H_j17 hs hm
    unfold fX8_in_j17 at hm
    refine aw_b (pc' := 18) (lv' := []) (st' := [.int (0 : Int32)]) [(17, .iconst 0, 1, .int (0 : Int32))] (by decide +kernel) rfl ?_
    obtain rfl := Option.some.inj hm
    subst hQ
    exact aw_zret rfl (by decide +kernel) (Nat.zero_le _) (Nat.zero_le _) (by decide +kernel) ⟨rfl, hs⟩
  refine aw_if_lt (off := 14) 17 (by decide) (by decide +kernel) (fun hc => ?_) (fun hc => ?_)
  · have hm := (if_pos hc).symm.trans hm
    refine aw_lv (lv' := []) [] rfl ?_
    exact J17 H hs hm
  · have hm := (if_neg hc).symm.trans hm
    refine aw_b (pc' := 10) (lv' := [(0, .long i0), (2, .long i1), (4, .long i2)]) (st' := [.int (lg_cmp i0 i2)]) [(6, .lload_n 0, 1, .null), (7, .lload 4, 2, .null), (9, .lcmp, 1, .null)] (by decide +kernel) rfl ?_
    refine aw_if_gt (off := 7) 17 (by decide) (by decide +kernel) (fun hc => ?_) (fun hc => ?_)
    · have hm := (if_pos hc).symm.trans hm
      refine aw_lv (lv' := []) [] rfl ?_
      exact J17 H hs hm
    · have hm := (if_neg hc).symm.trans hm
      refine aw_b (pc' := 18) (lv' := [(0, .long i0), (2, .long i1), (4, .long i2)]) (st' := [.int (1 : Int32)]) [(13, .iconst 1, 1, .int (1 : Int32)), (14, .goto 4, 3, .null)] (by decide +kernel) rfl ?_
      obtain rfl := Option.some.inj hm
      subst hQ
      exact aw_zret rfl (by decide +kernel) (Nat.zero_le _) (Nat.zero_le _) (by decide +kernel) ⟨rfl, hs⟩
def mX8_throwsIf : mt_ := (yX8_throwsIf, cX8_throwsIf, 3, some .boolean, [], { frames := 0, locals := 0, cells := 0, slots := 0 })
theorem ckX8_throwsIf : cokV_ mX8_throwsIf := ⟨⟨(uw_mem 1629 (by decide +kernel) (by decide +kernel)), (uw_mem 112 (by decide +kernel) (by decide +kernel)), by decide +kernel, by decide +kernel⟩, (uw_mem 1628 (by decide +kernel) (by decide +kernel)), (uw_mem 45 (by decide +kernel) (by decide +kernel))⟩
theorem nkX8_throwsIf : nok_ mX8_throwsIf 2 := by decide +kernel
theorem fpX8_45 : fpk_ RX8 45 8 6 .int := ⟨_, _, _, tyX8, rfl, by decide, (uw_mem 1441 (by decide +kernel) (by decide +kernel)), wkX8, tyX8_ok, nmX8, rfl, by decide +kernel⟩
theorem fsq_8_6 : fsp_ fsX8 6 := ⟨fun _ _ => rfl, fun _ _ _ => rfl⟩
def fX8_throwsIf_j16 (s_j16 : st_) : Option (st_ × Int32) :=
  if (s_j16 0 6) = (0 : Int32) then (some (s_j16, (0 : Int32)))
  else (some (s_j16, (1 : Int32)))
def fX8_throwsIf (s : st_) (i0 : Int32) (i1 : Int32) : Option (st_ × Int32) :=
  if (s 0 6) = (0 : Int32) then (if i0 = (0 : Int32) then (fX8_throwsIf_j16 s)
  else (bd_ (pt_ s 0 6 i1) fun s1 =>
  fX8_throwsIf_j16 s1))
  else (fX8_throwsIf_j16 s)
theorem kX8_throwsIf {E : ev_} {H : Heap} {a : Nat} {s : st_} {i0 : Int32} {i1 : Int32} {r : st_ × Int32} (hm : fX8_throwsIf s i0 i1 = some r) (h0 : has_ E H a ly_O s) (hf : ev_fr E a) : sp_ E mX8_throwsIf [.ref a, .int i0, .int i1] H (po1 (.inl (some (.int r.2))) (fun Hn => sm_ H Hn a 10 ∧ has_ E Hn a ly_O r.1)) := by
  refine sp_of (by decide +kernel) rfl rfl ?_
  generalize hQ : po1 _ _ = Q
  have hs : sm_ H H a 10 := sm_.rfl'
  unfold fX8_throwsIf at hm
  refine aw_lv (lv' := [(0, .ref a), (1, .int i0), (2, .int i1)]) [0, 1, 2] rfl ?_
  refine aw_b (pc' := 1) (lv' := [(0, .ref a), (1, .int i0), (2, .int i1)]) (st' := [.ref a]) [(0, .aload_n 0, 1, .null)] (by decide +kernel) rfl ?_
  refine aw_gl (v := .int (s 0 6)) a 0 h0 eo_O_0 fgX8_45 rfl (by decide +kernel) ?_
  have J16 : ∀ (s_j16 : st_) (H_j16 : Heap), has_ E H_j16 a ly_O s_j16 → sm_ H H_j16 a 10 → fX8_throwsIf_j16 s_j16 = some r → aw E mX8_throwsIf Q 16 [(0, .ref a)] [] H_j16 0 0 := by
    intro s_j16 H_j16 h0 hs hm
    unfold fX8_throwsIf_j16 at hm
    refine aw_b (pc' := 17) (lv' := [(0, .ref a)]) (st' := [.ref a]) [(16, .aload_n 0, 1, .null)] (by decide +kernel) rfl ?_
    refine aw_gl (v := .int (s_j16 0 6)) a 0 h0 eo_O_0 fgX8_45 rfl (by decide +kernel) ?_
    refine aw_if_eq (off := 7) 27 (by decide) (by decide +kernel) (fun hc => ?_) (fun hc => ?_)
    · have hm := (if_pos hc).symm.trans hm
      refine aw_b (pc' := 28) (lv' := [(0, .ref a)]) (st' := [.int (0 : Int32)]) [(27, .iconst 0, 1, .int (0 : Int32))] (by decide +kernel) rfl ?_
      obtain rfl := Option.some.inj hm
      subst hQ
      exact aw_zret rfl (by decide +kernel) (Nat.zero_le _) (Nat.zero_le _) (by decide +kernel) ⟨rfl, hs, h0⟩
    · have hm := (if_neg hc).symm.trans hm
      refine aw_b (pc' := 28) (lv' := [(0, .ref a)]) (st' := [.int (1 : Int32)]) [(23, .iconst 1, 1, .int (1 : Int32)), (24, .goto 4, 3, .null)] (by decide +kernel) rfl ?_
      obtain rfl := Option.some.inj hm
      subst hQ
      exact aw_zret rfl (by decide +kernel) (Nat.zero_le _) (Nat.zero_le _) (by decide +kernel) ⟨rfl, hs, h0⟩
  refine aw_if_ne (off := 12) 16 (by decide) (by decide +kernel) (fun hc => ?_) (fun hc => ?_)
  · have hm := (if_neg hc).symm.trans hm
    refine aw_lv (lv' := [(0, .ref a)]) [0] rfl ?_
    exact J16 s H h0 hs hm
  · have hm := (if_pos hc).symm.trans hm
    refine aw_b (pc' := 8) (lv' := [(0, .ref a), (1, .int i0), (2, .int i1)]) (st' := [.int i0]) [(7, .iload_n 1, 1, .null)] (by decide +kernel) rfl ?_
    refine aw_if_eq (off := 8) 16 (by decide) (by decide +kernel) (fun hc => ?_) (fun hc => ?_)
    · have hm := (if_pos hc).symm.trans hm
      refine aw_lv (lv' := [(0, .ref a)]) [0] rfl ?_
      exact J16 s H h0 hs hm
    · have hm := (if_neg hc).symm.trans hm
      refine aw_b (pc' := 13) (lv' := [(0, .ref a), (1, .int i0), (2, .int i1)]) (st' := [.int i1, .ref a]) [(11, .aload_n 0, 1, .null), (12, .iload_n 2, 1, .null)] (by decide +kernel) rfl ?_
      obtain ⟨s1, e2, hm⟩ := bd_x hm
      refine aw_pl a 0 h0 eo_O_0 fsq_8_6 fpX8_45 hf rfl rfl e2 (by decide +kernel) (fun H3 h0 z4 => ?_)
      have hs := hs.step z4 (by omega) (by omega)
      refine aw_lv (lv' := [(0, .ref a)]) [0] rfl ?_
      exact J16 s1 H3 h0 hs hm
def mX8_wrong : mt_ := (yX8_wrong, cX8_wrong, 2, some .boolean, [], { frames := 1, locals := 22, cells := 0, slots := 0 })
theorem ckX8_wrong : cokV_ mX8_wrong := ⟨⟨(uw_mem 1625 (by decide +kernel) (by decide +kernel)), (uw_mem 112 (by decide +kernel) (by decide +kernel)), by decide +kernel, by decide +kernel⟩, (uw_mem 1624 (by decide +kernel) (by decide +kernel)), (uw_mem 44 (by decide +kernel) (by decide +kernel))⟩
theorem nkX8_wrong : nok_ mX8_wrong 1 := by decide +kernel
theorem lkX8_49 : Cond.methodLink RX8 49 yX8_throwsIf ∈ uw_ := (uw_mem 1626 (by decide +kernel) (by decide +kernel))
def fX8_wrong (s : st_) (i0 : Int32) : Option (st_ × Int32) :=
  bd_ (pt_ s 0 6 (0 : Int32)) fun s1 =>
  bn_ (fX8_throwsIf s1 i0 (1 : Int32)) fun r5 =>
  gd_ (bz_ r5.2) <|
  some (r5.1, r5.2)
theorem kX8_wrong {E : ev_} {H : Heap} {a : Nat} {s : st_} {i0 : Int32} {r : st_ × Int32} (hm : fX8_wrong s i0 = some r) (h0 : has_ E H a ly_O s) (hf : ev_fr E a) : sp_ E mX8_wrong [.ref a, .int i0] H (po1 (.inl (some (.int r.2))) (fun Hn => sm_ H Hn a 10 ∧ has_ E Hn a ly_O r.1)) := by
  refine sp_of (by decide +kernel) rfl rfl ?_
  generalize hQ : po1 _ _ = Q
  have hs : sm_ H H a 10 := sm_.rfl'
  unfold fX8_wrong at hm
  refine aw_lv (lv' := [(0, .ref a), (1, .int i0)]) [0, 1] rfl ?_
  refine aw_b (pc' := 2) (lv' := [(0, .ref a), (1, .int i0)]) (st' := [.int (0 : Int32), .ref a]) [(0, .aload_n 0, 1, .null), (1, .iconst 0, 1, .int (0 : Int32))] (by decide +kernel) rfl ?_
  obtain ⟨s1, e2, hm⟩ := bd_x hm
  refine aw_pl a 0 h0 eo_O_0 fsq_8_6 fpX8_45 hf rfl rfl e2 (by decide +kernel) (fun H3 h0 z4 => ?_)
  have hs := hs.step z4 (by omega) (by omega)
  refine aw_b (pc' := 8) (lv' := [(0, .ref a), (1, .int i0)]) (st' := [.int (1 : Int32), .int i0, .ref a]) [(5, .aload_n 0, 1, .null), (6, .iload_n 1, 1, .null), (7, .iconst 1, 1, .int (1 : Int32))] (by decide +kernel) rfl ?_
  obtain ⟨r5, e6, hm⟩ := bn_x hm
  refine aw_cv (rest := []) (st1 := [.int r5.2]) a 0 (kX8_throwsIf e6 h0 hf) rfl rfl ckX8_throwsIf lkX8_49 h0 eo_O_0 ⟨_, _, rfl⟩ nkX8_throwsIf rfl rfl rfl (Nat.le_of_ble_eq_true rfl) (Nat.zero_le _) (Nat.zero_le _) (by decide +kernel) (fun H7 z8 => ?_)
  obtain ⟨z8, hn⟩ := z8
  have h0 := hn
  have hs := hs.step z8 (by omega) (by omega)
  obtain ⟨g9, hm⟩ := gd_x hm
  obtain rfl := Option.some.inj hm
  subst hQ
  exact aw_zret rfl (bz_n g9) (Nat.zero_le _) (Nat.zero_le _) (by decide +kernel) ⟨rfl, hs, h0⟩
def mX8_copies : mt_ := (yX8_copies, cX8_copies, 3, none, [], { frames := 0, locals := 0, cells := 0, slots := 0 })
theorem ckX8_copies : cokS_ mX8_copies := ⟨⟨(uw_mem 1616 (by decide +kernel) (by decide +kernel)), (uw_mem 112 (by decide +kernel) (by decide +kernel)), by decide +kernel, by decide +kernel⟩, (uw_mem 1615 (by decide +kernel) (by decide +kernel))⟩
theorem nkX8_copies : nok_ mX8_copies 2 := by decide +kernel
def fX8_copies_x2_21 (t_x2_21 : st_) : Option (st_) :=
  some t_x2_21
def fX8_copies_k2 (x : st_) : Option (st_) :=
  fX8_copies_x2_21 x
def fX8_copies_b2 (s : st_) (v2_b2 : Int32) (t_b2 : st_) : Option ((Int32 × st_) ⊕ (st_)) :=
  if (12584 : Int32) ≤ v2_b2 then (some (.inr t_b2))
  else (gd_ (ib_ v2_b2 12584) <|
  gd_ (ib_ v2_b2 12584) <|
  bd_ (pt_ t_b2 0 (ix_ v2_b2) (s 0 (ix_ v2_b2))) fun t3 =>
  some (.inl ((v2_b2 + (1 : Int32)), t3)))
def fX8_copies_l2 (s : st_) : Nat → (Int32 × st_) → Option (st_) :=
  it_ (fun v => fX8_copies_b2 s v.1 v.2)
def fX8_copies (s : st_) (t : st_) : Option (st_) :=
  bn_ (fX8_copies_l2 s FU_ ((0 : Int32), t)) (fX8_copies_k2)
theorem kX8_copies {E : ev_} {H : Heap} {a b : Nat} {s : st_} {t : st_} {r : st_} (hm : fX8_copies s t = some r) (h0 : has_ E H a ly_IW s) (h1 : has_ E H b ly_IW t) (hf : ev_fr E b) (d0 : b + 1 ≤ a ∨ a + 1 ≤ b) : sp_ E mX8_copies [.ref a, .ref b] H (po1 (.inl (none)) (fun Hn => sm_ H Hn b 1 ∧ has_ E Hn b ly_IW r)) := by
  refine sp_of (by decide +kernel) rfl rfl ?_
  generalize hQ : po1 _ _ = Q
  have hs : sm_ H H b 1 := sm_.rfl'
  unfold fX8_copies at hm
  refine aw_lv (lv' := [(0, .ref a), (1, .ref b)]) [0, 1] rfl ?_
  refine aw_b (pc' := 2) (lv' := [(2, .int (0 : Int32)), (0, .ref a), (1, .ref b)]) (st' := []) [(0, .iconst 0, 1, .int (0 : Int32)), (1, .istore_n 2, 1, .null)] (by decide +kernel) rfl ?_
  obtain ⟨x2, hx2, hr2⟩ := bn_x hm
  have X2_21 : ∀ (t_x2_21 : st_) (H_x2_21 : Heap), has_ E H_x2_21 a ly_IW s → has_ E H_x2_21 b ly_IW t_x2_21 → sm_ H H_x2_21 b 1 → fX8_copies_x2_21 t_x2_21 = some r → aw E mX8_copies Q 21 [] [] H_x2_21 0 0 := by
    intro t_x2_21 H_x2_21 h0 h1 hs hm
    unfold fX8_copies_x2_21 at hm
    obtain rfl := Option.some.inj hm
    subst hQ
    exact aw_vret rfl (Nat.zero_le _) (Nat.zero_le _) (by decide +kernel) ⟨rfl, hs, h1⟩
  have L2 : ∀ (fu : Nat) (v2_b2 : Int32) (t_b2 : st_) (H_b2 : Heap), has_ E H_b2 a ly_IW s → has_ E H_b2 b ly_IW t_b2 → sm_ H H_b2 b 1 → fX8_copies_l2 s fu (v2_b2, t_b2) = some x2 → aw E mX8_copies Q 2 [(0, .ref a), (1, .ref b), (2, .int v2_b2)] [] H_b2 0 0 := by
    intro fu
    induction fu with
    | zero =>
      intro v2_b2 t_b2 H_b2 h0 h1 hs hm
      exact (it_0 hm).elim
    | succ fu ih2 =>
      intro v2_b2 t_b2 H_b2 h0 h1 hs hm
      obtain ⟨y2, hm, hk2⟩ := it_s hm
      have hm : fX8_copies_b2 s v2_b2 t_b2 = some y2 := hm
      unfold fX8_copies_b2 at hm
      refine aw_b (pc' := 6) (lv' := [(0, .ref a), (1, .ref b), (2, .int v2_b2)]) (st' := [.int (12584 : Int32), .int v2_b2]) [(2, .iload_n 2, 1, .null), (3, .sipush 12584, 3, .int (12584 : Int32))] (by decide +kernel) rfl ?_
      refine aw_ic_ge (off := 15) 21 (by decide) (by decide +kernel) (fun hc => ?_) (fun hc => ?_)
      · have hm := (if_pos hc).symm.trans hm
        cases hm
        refine aw_lv (lv' := []) [] rfl ?_
        exact X2_21 t_b2 H_b2 h0 h1 hs ((congrArg fX8_copies_k2 (show (t_b2) = x2 from hk2)).trans hr2)
      · have hm := (if_neg hc).symm.trans hm
        refine aw_b (pc' := 13) (lv' := [(0, .ref a), (1, .ref b), (2, .int v2_b2)]) (st' := [.int v2_b2, .ref a, .int v2_b2, .ref b]) [(9, .aload_n 1, 1, .null), (10, .iload_n 2, 1, .null), (11, .aload_n 0, 1, .null), (12, .iload_n 2, 1, .null)] (by decide +kernel) rfl ?_
        obtain ⟨g1, hm⟩ := gd_x hm
        refine aw_ial a 0 h0 rfl g1 (by decide +kernel) ?_
        obtain ⟨g2, hm⟩ := gd_x hm
        obtain ⟨t3, e4, hm⟩ := bd_x hm
        refine aw_isl b 0 h1 rfl hf g2 e4 (by decide +kernel) (fun H5 h1 z6 => ?_)
        have h0 := h0.kept (n := 1) z6 rfl (by omega)
        have hs := hs.step z6 (by omega) (by omega)
        refine aw_b (pc' := 2) (lv' := [(2, .int (v2_b2 + (1 : Int32))), (0, .ref a), (1, .ref b)]) (st' := []) [(15, .iinc 2 1, 3, .int (1 : Int32)), (18, .goto (-16), 3, .null)] (by decide +kernel) rfl ?_
        cases hm
        refine aw_lv (lv' := [(0, .ref a), (1, .ref b), (2, .int (v2_b2 + (1 : Int32)))]) [1, 2, 0] rfl ?_
        exact ih2 (v2_b2 + (1 : Int32)) t3 H5 h0 h1 hs hk2
  refine aw_lv (lv' := [(0, .ref a), (1, .ref b), (2, .int (0 : Int32))]) [1, 2, 0] rfl ?_
  exact L2 FU_ (0 : Int32) t H h0 h1 hs hx2
def mX8_append : mt_ := (yX8_append, cX8_append, 6, some .int, [], { frames := 0, locals := 0, cells := 0, slots := 0 })
theorem ckX8_append : cokV_ mX8_append := ⟨⟨(uw_mem 1501 (by decide +kernel) (by decide +kernel)), (uw_mem 112 (by decide +kernel) (by decide +kernel)), by decide +kernel, by decide +kernel⟩, (uw_mem 1499 (by decide +kernel) (by decide +kernel)), (uw_mem 1500 (by decide +kernel) (by decide +kernel))⟩
theorem nkX8_append : nok_ mX8_append 1 := by decide +kernel
theorem fgX8_56 : fok_ RX8 56 8 8 := ⟨_, _, _, rfl, by decide, (uw_mem 1443 (by decide +kernel) (by decide +kernel)), wkX8⟩
theorem kwX8_54 : Cond.constantLong RX8 54 (255 : Int64) ∈ uw_ := (uw_mem 1502 (by decide +kernel) (by decide +kernel))
theorem fgX8_29 : fok_ RX8 29 8 7 := ⟨_, _, _, rfl, by decide, (uw_mem 1442 (by decide +kernel) (by decide +kernel)), wkX8⟩
theorem fpX8_56 : fpk_ RX8 56 8 8 .int := ⟨_, _, _, tyX8, rfl, by decide, (uw_mem 1443 (by decide +kernel) (by decide +kernel)), wkX8, tyX8_ok, nmX8, rfl, by decide +kernel⟩
theorem fsq_8_8 : fsp_ fsX8 8 := ⟨fun _ _ => rfl, fun _ _ _ => rfl⟩
def fX8_append_x62_113 (s_x62_113 : st_) : Option (st_ × Int32) :=
  some (s_x62_113, (s_x62_113 0 8))
def fX8_append_k62 (x : st_) : Option (st_ × Int32) :=
  fX8_append_x62_113 x
def fX8_append_j107 (v4_b62 : Int32) (s_j107 : st_) : Option ((Int32 × st_) ⊕ (st_)) :=
  some (.inl ((v4_b62 + (-8 : Int32)), s_j107))
def fX8_append_b62 (i0 : Int64) (v4_b62 : Int32) (s_b62 : st_) : Option ((Int32 × st_) ⊕ (st_)) :=
  if v4_b62 < (0 : Int32) then (some (.inr s_b62))
  else (if (Int64.toInt32 ((((Int64.toUInt64 i0) >>> ((Int64.toUInt64 (Int32.toInt64 v4_b62)) &&& Int64.toUInt64 63)).toInt64) &&& (255 : Int64))) = (0 : Int32) then (fX8_append_j107 v4_b62 s_b62)
  else (gd_ (ib_ (s_b62 0 8) 500) <|
  bd_ (pt_ s_b62 7 (ix_ (s_b62 0 8)) (Int64.toInt32 ((((Int64.toUInt64 i0) >>> ((Int64.toUInt64 (Int32.toInt64 v4_b62)) &&& Int64.toUInt64 63)).toInt64) &&& (255 : Int64)))) fun s6 =>
  bd_ (pt_ s6 0 8 ((s6 0 8) + (1 : Int32))) fun s10 =>
  fX8_append_j107 v4_b62 s10))
def fX8_append_l62 (i0 : Int64) : Nat → (Int32 × st_) → Option (st_) :=
  it_ (fun v => fX8_append_b62 i0 v.1 v.2)
def fX8_append_x11_43 (i0 : Int64) (s1 : st_) (v3_x11_43 : Int32) : Option (st_ × Int32) :=
  if ((s1 0 8) + v3_x11_43) ≤ (500 : Int32) then (bn_ (fX8_append_l62 i0 FU_ ((56 : Int32), s1)) (fX8_append_k62))
  else (some (s1, (-2 : Int32)))
def fX8_append_k11 (i0 : Int64) (s1 : st_) (x : Int32) : Option (st_ × Int32) :=
  fX8_append_x11_43 i0 s1 x
def fX8_append_j35 (v3_b11 : Int32) (v4_b11 : Int32) (z1_j35 : Int32) : Option ((Int32 × Int32) ⊕ (Int32)) :=
  some (.inl ((v3_b11 + z1_j35), (v4_b11 + (-8 : Int32))))
def fX8_append_b11 (i0 : Int64) (v3_b11 : Int32) (v4_b11 : Int32) : Option ((Int32 × Int32) ⊕ (Int32)) :=
  if v4_b11 < (0 : Int32) then (some (.inr v3_b11))
  else (if (lg_cmp ((((Int64.toUInt64 i0) >>> ((Int64.toUInt64 (Int32.toInt64 v4_b11)) &&& Int64.toUInt64 63)).toInt64) &&& (255 : Int64)) (0 : Int64)) = (0 : Int32) then (fX8_append_j35 v3_b11 v4_b11 (0 : Int32))
  else (fX8_append_j35 v3_b11 v4_b11 (1 : Int32)))
def fX8_append_l11 (i0 : Int64) : Nat → (Int32 × Int32) → Option (Int32) :=
  it_ (fun v => fX8_append_b11 i0 v.1 v.2)
def fX8_append (s : st_) (i0 : Int64) : Option (st_ × Int32) :=
  bd_ (pt_ s 0 6 (0 : Int32)) fun s1 =>
  bn_ (fX8_append_l11 i0 FU_ ((0 : Int32), (56 : Int32))) (fX8_append_k11 i0 s1)
theorem kX8_append {E : ev_} {H : Heap} {a : Nat} {s : st_} {i0 : Int64} {r : st_ × Int32} (hm : fX8_append s i0 = some r) (h0 : has_ E H a ly_O s) (hf : ev_fr E a) : sp_ E mX8_append [.ref a, .long i0] H (po1 (.inl (some (.int r.2))) (fun Hn => sm_ H Hn a 10 ∧ has_ E Hn a ly_O r.1)) := by
  refine sp_of (by decide +kernel) rfl rfl ?_
  generalize hQ : po1 _ _ = Q
  have hs : sm_ H H a 10 := sm_.rfl'
  unfold fX8_append at hm
  refine aw_lv (lv' := [(0, .ref a), (1, .long i0)]) [0, 1] rfl ?_
  refine aw_b (pc' := 2) (lv' := [(0, .ref a), (1, .long i0)]) (st' := [.int (0 : Int32), .ref a]) [(0, .aload_n 0, 1, .null), (1, .iconst 0, 1, .int (0 : Int32))] (by decide +kernel) rfl ?_
  obtain ⟨s1, e2, hm⟩ := bd_x hm
  refine aw_pl a 0 h0 eo_O_0 fsq_8_6 fpX8_45 hf rfl rfl e2 (by decide +kernel) (fun H3 h0 z4 => ?_)
  have hs := hs.step z4 (by omega) (by omega)
  refine aw_b (pc' := 11) (lv' := [(4, .int (56 : Int32)), (3, .int (0 : Int32)), (0, .ref a), (1, .long i0)]) (st' := []) [(5, .iconst 0, 1, .int (0 : Int32)), (6, .istore_n 3, 1, .null), (7, .bipush 56, 2, .int (56 : Int32)), (9, .istore 4, 2, .null)] (by decide +kernel) rfl ?_
  obtain ⟨x11, hx11, hr11⟩ := bn_x hm
  have X11_43 : ∀ (v3_x11_43 : Int32) (H_x11_43 : Heap), has_ E H_x11_43 a ly_O s1 → sm_ H H_x11_43 a 10 → fX8_append_x11_43 i0 s1 v3_x11_43 = some r → aw E mX8_append Q 43 [(0, .ref a), (1, .long i0), (3, .int v3_x11_43)] [] H_x11_43 0 0 := by
    intro v3_x11_43 H_x11_43 h0 hs hm
    unfold fX8_append_x11_43 at hm
    refine aw_b (pc' := 44) (lv' := [(0, .ref a), (1, .long i0), (3, .int v3_x11_43)]) (st' := [.ref a]) [(43, .aload_n 0, 1, .null)] (by decide +kernel) rfl ?_
    refine aw_gl (v := .int (s1 0 8)) a 0 h0 eo_O_0 fgX8_56 rfl (by decide +kernel) ?_
    refine aw_b (pc' := 52) (lv' := [(0, .ref a), (1, .long i0), (3, .int v3_x11_43)]) (st' := [.int (500 : Int32), .int ((s1 0 8) + v3_x11_43)]) [(47, .iload_n 3, 1, .null), (48, .iadd, 1, .null), (49, .sipush 500, 3, .int (500 : Int32))] (by decide +kernel) rfl ?_
    refine aw_ic_le (off := 6) 58 (by decide) (by decide +kernel) (fun hc => ?_) (fun hc => ?_)
    · have hm := (if_pos hc).symm.trans hm
      refine aw_b (pc' := 62) (lv' := [(4, .int (56 : Int32)), (0, .ref a), (1, .long i0), (3, .int v3_x11_43)]) (st' := []) [(58, .bipush 56, 2, .int (56 : Int32)), (60, .istore 4, 2, .null)] (by decide +kernel) rfl ?_
      obtain ⟨x62, hx62, hr62⟩ := bn_x hm
      have X62_113 : ∀ (s_x62_113 : st_) (H_x62_113 : Heap), has_ E H_x62_113 a ly_O s_x62_113 → sm_ H H_x62_113 a 10 → fX8_append_x62_113 s_x62_113 = some r → aw E mX8_append Q 113 [(0, .ref a)] [] H_x62_113 0 0 := by
        intro s_x62_113 H_x62_113 h0 hs hm
        unfold fX8_append_x62_113 at hm
        refine aw_b (pc' := 114) (lv' := [(0, .ref a)]) (st' := [.ref a]) [(113, .aload_n 0, 1, .null)] (by decide +kernel) rfl ?_
        refine aw_gl (v := .int (s_x62_113 0 8)) a 0 h0 eo_O_0 fgX8_56 rfl (by decide +kernel) ?_
        obtain rfl := Option.some.inj hm
        subst hQ
        exact aw_iret rfl (Nat.zero_le _) (Nat.zero_le _) (by decide +kernel) ⟨rfl, hs, h0⟩
      have L62 : ∀ (fu : Nat) (v4_b62 : Int32) (s_b62 : st_) (H_b62 : Heap), has_ E H_b62 a ly_O s_b62 → sm_ H H_b62 a 10 → fX8_append_l62 i0 fu (v4_b62, s_b62) = some x62 → aw E mX8_append Q 62 [(0, .ref a), (1, .long i0), (4, .int v4_b62)] [] H_b62 0 0 := by
        intro fu
        induction fu with
        | zero =>
          intro v4_b62 s_b62 H_b62 h0 hs hm
          exact (it_0 hm).elim
        | succ fu ih62 =>
          intro v4_b62 s_b62 H_b62 h0 hs hm
          obtain ⟨y62, hm, hk62⟩ := it_s hm
          have hm : fX8_append_b62 i0 v4_b62 s_b62 = some y62 := hm
          unfold fX8_append_b62 at hm
          refine aw_b (pc' := 64) (lv' := [(0, .ref a), (1, .long i0), (4, .int v4_b62)]) (st' := [.int v4_b62]) [(62, .iload 4, 2, .null)] (by decide +kernel) rfl ?_
          refine aw_if_lt (off := 49) 113 (by decide) (by decide +kernel) (fun hc => ?_) (fun hc => ?_)
          · have hm := (if_pos hc).symm.trans hm
            cases hm
            refine aw_lv (lv' := [(0, .ref a)]) [0] rfl ?_
            exact X62_113 s_b62 H_b62 h0 hs ((congrArg fX8_append_k62 (show (s_b62) = x62 from hk62)).trans hr62)
          · have hm := (if_neg hc).symm.trans hm
            refine aw_b (pc' := 71) (lv' := [(0, .ref a), (1, .long i0), (4, .int v4_b62)]) (st' := [.long (((Int64.toUInt64 i0) >>> ((Int64.toUInt64 (Int32.toInt64 v4_b62)) &&& Int64.toUInt64 63)).toInt64)]) [(67, .lload_n 1, 1, .null), (68, .iload 4, 2, .null), (70, .lushr, 1, .null)] (by decide +kernel) rfl ?_
            refine aw_ldc2 (v := (255 : Int64)) kwX8_54 (by decide +kernel) ?_
            refine aw_b (pc' := 80) (lv' := [(5, .int (Int64.toInt32 ((((Int64.toUInt64 i0) >>> ((Int64.toUInt64 (Int32.toInt64 v4_b62)) &&& Int64.toUInt64 63)).toInt64) &&& (255 : Int64)))), (0, .ref a), (1, .long i0), (4, .int v4_b62)]) (st' := [.int (Int64.toInt32 ((((Int64.toUInt64 i0) >>> ((Int64.toUInt64 (Int32.toInt64 v4_b62)) &&& Int64.toUInt64 63)).toInt64) &&& (255 : Int64)))]) [(74, .land, 1, .null), (75, .l2i, 1, .null), (76, .istore 5, 2, .null), (78, .iload 5, 2, .null)] (by decide +kernel) rfl ?_
            have J107 : ∀ (s_j107 : st_) (H_j107 : Heap), has_ E H_j107 a ly_O s_j107 → sm_ H H_j107 a 10 → fX8_append_j107 v4_b62 s_j107 = some y62 → aw E mX8_append Q 107 [(0, .ref a), (1, .long i0), (4, .int v4_b62)] [] H_j107 0 0 := by
              intro s_j107 H_j107 h0 hs hm
              unfold fX8_append_j107 at hm
              refine aw_b (pc' := 62) (lv' := [(4, .int (v4_b62 + (-8 : Int32))), (0, .ref a), (1, .long i0)]) (st' := []) [(107, .iinc 4 (-8), 3, .int (-8 : Int32)), (110, .goto (-48), 3, .null)] (by decide +kernel) rfl ?_
              cases hm
              refine aw_lv (lv' := [(0, .ref a), (1, .long i0), (4, .int (v4_b62 + (-8 : Int32)))]) [1, 2, 0] rfl ?_
              exact ih62 (v4_b62 + (-8 : Int32)) s_j107 H_j107 h0 hs hk62
            refine aw_if_ne (off := 6) 86 (by decide) (by decide +kernel) (fun hc => ?_) (fun hc => ?_)
            · have hm := (if_neg hc).symm.trans hm
              refine aw_b (pc' := 87) (lv' := [(5, .int (Int64.toInt32 ((((Int64.toUInt64 i0) >>> ((Int64.toUInt64 (Int32.toInt64 v4_b62)) &&& Int64.toUInt64 63)).toInt64) &&& (255 : Int64)))), (0, .ref a), (1, .long i0), (4, .int v4_b62)]) (st' := [.ref a]) [(86, .aload_n 0, 1, .null)] (by decide +kernel) rfl ?_
              refine aw_gl (v := .ref (a + 7)) a 0 h0 eo_O_0 fgX8_29 rfl (by decide +kernel) ?_
              refine aw_b (pc' := 91) (lv' := [(5, .int (Int64.toInt32 ((((Int64.toUInt64 i0) >>> ((Int64.toUInt64 (Int32.toInt64 v4_b62)) &&& Int64.toUInt64 63)).toInt64) &&& (255 : Int64)))), (0, .ref a), (1, .long i0), (4, .int v4_b62)]) (st' := [.ref a, .ref (a + 7)]) [(90, .aload_n 0, 1, .null)] (by decide +kernel) rfl ?_
              refine aw_gl (v := .int (s_b62 0 8)) a 0 h0 eo_O_0 fgX8_56 rfl (by decide +kernel) ?_
              refine aw_b (pc' := 96) (lv' := [(5, .int (Int64.toInt32 ((((Int64.toUInt64 i0) >>> ((Int64.toUInt64 (Int32.toInt64 v4_b62)) &&& Int64.toUInt64 63)).toInt64) &&& (255 : Int64)))), (0, .ref a), (1, .long i0), (4, .int v4_b62)]) (st' := [.int (Int64.toInt32 ((((Int64.toUInt64 i0) >>> ((Int64.toUInt64 (Int32.toInt64 v4_b62)) &&& Int64.toUInt64 63)).toInt64) &&& (255 : Int64))), .int (s_b62 0 8), .ref (a + 7)]) [(94, .iload 5, 2, .null)] (by decide +kernel) rfl ?_
              obtain ⟨g5, hm⟩ := gd_x hm
              obtain ⟨s6, e7, hm⟩ := bd_x hm
              refine aw_isl a 7 h0 rfl hf g5 e7 (by decide +kernel) (fun H8 h0 z9 => ?_)
              have hs := hs.step z9 (by omega) (by omega)
              refine aw_b (pc' := 99) (lv' := [(5, .int (Int64.toInt32 ((((Int64.toUInt64 i0) >>> ((Int64.toUInt64 (Int32.toInt64 v4_b62)) &&& Int64.toUInt64 63)).toInt64) &&& (255 : Int64)))), (0, .ref a), (1, .long i0), (4, .int v4_b62)]) (st' := [.ref a, .ref a]) [(97, .aload_n 0, 1, .null), (98, .dup, 1, .null)] (by decide +kernel) rfl ?_
              refine aw_gl (v := .int (s6 0 8)) a 0 h0 eo_O_0 fgX8_56 rfl (by decide +kernel) ?_
              refine aw_b (pc' := 104) (lv' := [(5, .int (Int64.toInt32 ((((Int64.toUInt64 i0) >>> ((Int64.toUInt64 (Int32.toInt64 v4_b62)) &&& Int64.toUInt64 63)).toInt64) &&& (255 : Int64)))), (0, .ref a), (1, .long i0), (4, .int v4_b62)]) (st' := [.int ((s6 0 8) + (1 : Int32)), .ref a]) [(102, .iconst 1, 1, .int (1 : Int32)), (103, .iadd, 1, .null)] (by decide +kernel) rfl ?_
              obtain ⟨s10, e11, hm⟩ := bd_x hm
              refine aw_pl a 0 h0 eo_O_0 fsq_8_8 fpX8_56 hf rfl rfl e11 (by decide +kernel) (fun H12 h0 z13 => ?_)
              have hs := hs.step z13 (by omega) (by omega)
              refine aw_lv (lv' := [(0, .ref a), (1, .long i0), (4, .int v4_b62)]) [1, 2, 3] rfl ?_
              exact J107 s10 H12 h0 hs hm
            · have hm := (if_pos hc).symm.trans hm
              refine aw_b (pc' := 107) (lv' := [(5, .int (Int64.toInt32 ((((Int64.toUInt64 i0) >>> ((Int64.toUInt64 (Int32.toInt64 v4_b62)) &&& Int64.toUInt64 63)).toInt64) &&& (255 : Int64)))), (0, .ref a), (1, .long i0), (4, .int v4_b62)]) (st' := []) [(83, .goto 24, 3, .null)] (by decide +kernel) rfl ?_
              refine aw_lv (lv' := [(0, .ref a), (1, .long i0), (4, .int v4_b62)]) [1, 2, 3] rfl ?_
              exact J107 s_b62 H_b62 h0 hs hm
      refine aw_lv (lv' := [(0, .ref a), (1, .long i0), (4, .int (56 : Int32))]) [1, 2, 0] rfl ?_
      exact L62 FU_ (56 : Int32) s1 H_x11_43 h0 hs hx62
    · have hm := (if_neg hc).symm.trans hm
      refine aw_b (pc' := 57) (lv' := [(0, .ref a), (1, .long i0), (3, .int v3_x11_43)]) (st' := [.int (-2 : Int32)]) [(55, .bipush (-2), 2, .int (-2 : Int32))] (by decide +kernel) rfl ?_
      obtain rfl := Option.some.inj hm
      subst hQ
      exact aw_iret rfl (Nat.zero_le _) (Nat.zero_le _) (by decide +kernel) ⟨rfl, hs, h0⟩
  have L11 : ∀ (fu : Nat) (v3_b11 : Int32) (v4_b11 : Int32) (H_b11 : Heap), has_ E H_b11 a ly_O s1 → sm_ H H_b11 a 10 → fX8_append_l11 i0 fu (v3_b11, v4_b11) = some x11 → aw E mX8_append Q 11 [(0, .ref a), (1, .long i0), (3, .int v3_b11), (4, .int v4_b11)] [] H_b11 0 0 := by
    intro fu
    induction fu with
    | zero =>
      intro v3_b11 v4_b11 H_b11 h0 hs hm
      exact (it_0 hm).elim
    | succ fu ih11 =>
      intro v3_b11 v4_b11 H_b11 h0 hs hm
      obtain ⟨y11, hm, hk11⟩ := it_s hm
      have hm : fX8_append_b11 i0 v3_b11 v4_b11 = some y11 := hm
      unfold fX8_append_b11 at hm
      refine aw_b (pc' := 13) (lv' := [(0, .ref a), (1, .long i0), (3, .int v3_b11), (4, .int v4_b11)]) (st' := [.int v4_b11]) [(11, .iload 4, 2, .null)] (by decide +kernel) rfl ?_
      refine aw_if_lt (off := 30) 43 (by decide) (by decide +kernel) (fun hc => ?_) (fun hc => ?_)
      · have hm := (if_pos hc).symm.trans hm
        cases hm
        refine aw_lv (lv' := [(0, .ref a), (1, .long i0), (3, .int v3_b11)]) [0, 1, 2] rfl ?_
        exact X11_43 v3_b11 H_b11 h0 hs ((congrArg (fX8_append_k11 i0 s1) (show (v3_b11) = x11 from hk11)).trans hr11)
      · have hm := (if_neg hc).symm.trans hm
        refine aw_b (pc' := 21) (lv' := [(0, .ref a), (1, .long i0), (3, .int v3_b11), (4, .int v4_b11)]) (st' := [.long (((Int64.toUInt64 i0) >>> ((Int64.toUInt64 (Int32.toInt64 v4_b11)) &&& Int64.toUInt64 63)).toInt64), .int v3_b11]) [(16, .iload_n 3, 1, .null), (17, .lload_n 1, 1, .null), (18, .iload 4, 2, .null), (20, .lushr, 1, .null)] (by decide +kernel) rfl ?_
        refine aw_ldc2 (v := (255 : Int64)) kwX8_54 (by decide +kernel) ?_
        refine aw_b (pc' := 27) (lv' := [(0, .ref a), (1, .long i0), (3, .int v3_b11), (4, .int v4_b11)]) (st' := [.int (lg_cmp ((((Int64.toUInt64 i0) >>> ((Int64.toUInt64 (Int32.toInt64 v4_b11)) &&& Int64.toUInt64 63)).toInt64) &&& (255 : Int64)) (0 : Int64)), .int v3_b11]) [(24, .land, 1, .null), (25, .lconst 0, 1, .long (0 : Int64)), (26, .lcmp, 1, .null)] (by decide +kernel) rfl ?_
        have J35 : ∀ (z1_j35 : Int32) (H_j35 : Heap), has_ E H_j35 a ly_O s1 → sm_ H H_j35 a 10 → fX8_append_j35 v3_b11 v4_b11 z1_j35 = some y11 → aw E mX8_append Q 35 [(0, .ref a), (1, .long i0), (4, .int v4_b11)] [.int z1_j35, .int v3_b11] H_j35 0 0 := by
          intro z1_j35 H_j35 h0 hs hm
          unfold fX8_append_j35 at hm
          refine aw_b (pc' := 11) (lv' := [(4, .int (v4_b11 + (-8 : Int32))), (3, .int (v3_b11 + z1_j35)), (0, .ref a), (1, .long i0)]) (st' := []) [(35, .iadd, 1, .null), (36, .istore_n 3, 1, .null), (37, .iinc 4 (-8), 3, .int (-8 : Int32)), (40, .goto (-29), 3, .null)] (by decide +kernel) rfl ?_
          cases hm
          refine aw_lv (lv' := [(0, .ref a), (1, .long i0), (3, .int (v3_b11 + z1_j35)), (4, .int (v4_b11 + (-8 : Int32)))]) [2, 3, 1, 0] rfl ?_
          exact ih11 (v3_b11 + z1_j35) (v4_b11 + (-8 : Int32)) H_j35 h0 hs hk11
        refine aw_if_eq (off := 7) 34 (by decide) (by decide +kernel) (fun hc => ?_) (fun hc => ?_)
        · have hm := (if_pos hc).symm.trans hm
          refine aw_b (pc' := 35) (lv' := [(0, .ref a), (1, .long i0), (3, .int v3_b11), (4, .int v4_b11)]) (st' := [.int (0 : Int32), .int v3_b11]) [(34, .iconst 0, 1, .int (0 : Int32))] (by decide +kernel) rfl ?_
          refine aw_lv (lv' := [(0, .ref a), (1, .long i0), (4, .int v4_b11)]) [0, 1, 3] rfl ?_
          exact J35 (0 : Int32) H_b11 h0 hs hm
        · have hm := (if_neg hc).symm.trans hm
          refine aw_b (pc' := 35) (lv' := [(0, .ref a), (1, .long i0), (3, .int v3_b11), (4, .int v4_b11)]) (st' := [.int (1 : Int32), .int v3_b11]) [(30, .iconst 1, 1, .int (1 : Int32)), (31, .goto 4, 3, .null)] (by decide +kernel) rfl ?_
          refine aw_lv (lv' := [(0, .ref a), (1, .long i0), (4, .int v4_b11)]) [0, 1, 3] rfl ?_
          exact J35 (1 : Int32) H_b11 h0 hs hm
  refine aw_lv (lv' := [(0, .ref a), (1, .long i0), (3, .int (0 : Int32)), (4, .int (56 : Int32))]) [2, 3, 1, 0] rfl ?_
  exact L11 FU_ (0 : Int32) (56 : Int32) H3 h0 hs hx11
def mX8_loadError : mt_ := (yX8_loadError, cX8_loadError, 1, some .int, [], { frames := 0, locals := 0, cells := 0, slots := 0 })
theorem ckX8_loadError : cokV_ mX8_loadError := ⟨⟨(uw_mem 1506 (by decide +kernel) (by decide +kernel)), (uw_mem 112 (by decide +kernel) (by decide +kernel)), by decide +kernel, by decide +kernel⟩, (uw_mem 1504 (by decide +kernel) (by decide +kernel)), (uw_mem 1505 (by decide +kernel) (by decide +kernel))⟩
theorem nkX8_loadError : nok_ mX8_loadError 0 := by decide +kernel
theorem fgX8_59 : fok_ RX8 59 8 13 := ⟨_, _, _, rfl, by decide, (uw_mem 1448 (by decide +kernel) (by decide +kernel)), wkX8⟩
def fX8_loadError (s : st_) : Option (st_ × Int32) :=
  bd_ (pt_ s 0 6 (0 : Int32)) fun s1 =>
  some (s1, (s1 0 13))
theorem kX8_loadError {E : ev_} {H : Heap} {a : Nat} {s : st_} {r : st_ × Int32} (hm : fX8_loadError s = some r) (h0 : has_ E H a ly_O s) (hf : ev_fr E a) : sp_ E mX8_loadError [.ref a] H (po1 (.inl (some (.int r.2))) (fun Hn => sm_ H Hn a 10 ∧ has_ E Hn a ly_O r.1)) := by
  refine sp_of (by decide +kernel) rfl rfl ?_
  generalize hQ : po1 _ _ = Q
  have hs : sm_ H H a 10 := sm_.rfl'
  unfold fX8_loadError at hm
  refine aw_lv (lv' := [(0, .ref a)]) [0] rfl ?_
  refine aw_b (pc' := 2) (lv' := [(0, .ref a)]) (st' := [.int (0 : Int32), .ref a]) [(0, .aload_n 0, 1, .null), (1, .iconst 0, 1, .int (0 : Int32))] (by decide +kernel) rfl ?_
  obtain ⟨s1, e2, hm⟩ := bd_x hm
  refine aw_pl a 0 h0 eo_O_0 fsq_8_6 fpX8_45 hf rfl rfl e2 (by decide +kernel) (fun H3 h0 z4 => ?_)
  have hs := hs.step z4 (by omega) (by omega)
  refine aw_b (pc' := 6) (lv' := [(0, .ref a)]) (st' := [.ref a]) [(5, .aload_n 0, 1, .null)] (by decide +kernel) rfl ?_
  refine aw_gl (v := .int (s1 0 13)) a 0 h0 eo_O_0 fgX8_59 rfl (by decide +kernel) ?_
  obtain rfl := Option.some.inj hm
  subst hQ
  exact aw_iret rfl (Nat.zero_le _) (Nat.zero_le _) (by decide +kernel) ⟨rfl, hs, h0⟩
def mX8_byteAt : mt_ := (yX8_byteAt, cX8_byteAt, 2, some .int, [], { frames := 0, locals := 0, cells := 0, slots := 0 })
theorem ckX8_byteAt : cokV_ mX8_byteAt := ⟨⟨(uw_mem 1527 (by decide +kernel) (by decide +kernel)), (uw_mem 112 (by decide +kernel) (by decide +kernel)), by decide +kernel, by decide +kernel⟩, (uw_mem 1526 (by decide +kernel) (by decide +kernel)), (uw_mem 31 (by decide +kernel) (by decide +kernel))⟩
theorem nkX8_byteAt : nok_ mX8_byteAt 1 := by decide +kernel
def fX8_byteAt (s : st_) (i0 : Int32) : Option (Int32) :=
  if (s 0 8) ≤ i0 then (some (-1 : Int32))
  else (gd_ (ib_ i0 500) <|
  some (s 7 (ix_ i0)))
theorem kX8_byteAt {E : ev_} {H : Heap} {a : Nat} {s : st_} {i0 : Int32} {r : Int32} (hm : fX8_byteAt s i0 = some r) (h0 : has_ E H a ly_O s) : sp_ E mX8_byteAt [.ref a, .int i0] H (po1 (.inl (some (.int r))) (fun Hn => sm_ H Hn 0 0)) := by
  refine sp_of (by decide +kernel) rfl rfl ?_
  generalize hQ : po1 _ _ = Q
  have hs : sm_ H H 0 0 := sm_.rfl'
  unfold fX8_byteAt at hm
  refine aw_lv (lv' := [(0, .ref a), (1, .int i0)]) [0, 1] rfl ?_
  refine aw_b (pc' := 2) (lv' := [(0, .ref a), (1, .int i0)]) (st' := [.ref a, .int i0]) [(0, .iload_n 1, 1, .null), (1, .aload_n 0, 1, .null)] (by decide +kernel) rfl ?_
  refine aw_gl (v := .int (s 0 8)) a 0 h0 eo_O_0 fgX8_56 rfl (by decide +kernel) ?_
  refine aw_ic_ge (off := 12) 17 (by decide) (by decide +kernel) (fun hc => ?_) (fun hc => ?_)
  · have hm := (if_pos hc).symm.trans hm
    refine aw_b (pc' := 18) (lv' := [(0, .ref a), (1, .int i0)]) (st' := [.int (-1 : Int32)]) [(17, .iconst (-1), 1, .int (-1 : Int32))] (by decide +kernel) rfl ?_
    obtain rfl := Option.some.inj hm
    subst hQ
    exact aw_iret rfl (Nat.zero_le _) (Nat.zero_le _) (by decide +kernel) ⟨rfl, hs⟩
  · have hm := (if_neg hc).symm.trans hm
    refine aw_b (pc' := 9) (lv' := [(0, .ref a), (1, .int i0)]) (st' := [.ref a]) [(8, .aload_n 0, 1, .null)] (by decide +kernel) rfl ?_
    refine aw_gl (v := .ref (a + 7)) a 0 h0 eo_O_0 fgX8_29 rfl (by decide +kernel) ?_
    refine aw_b (pc' := 13) (lv' := [(0, .ref a), (1, .int i0)]) (st' := [.int i0, .ref (a + 7)]) [(12, .iload_n 1, 1, .null)] (by decide +kernel) rfl ?_
    obtain ⟨g1, hm⟩ := gd_x hm
    refine aw_ial a 7 h0 rfl g1 (by decide +kernel) ?_
    refine aw_b (pc' := 18) (lv' := [(0, .ref a), (1, .int i0)]) (st' := [.int (s 7 (ix_ i0))]) [(14, .goto 4, 3, .null)] (by decide +kernel) rfl ?_
    obtain rfl := Option.some.inj hm
    subst hQ
    exact aw_iret rfl (Nat.zero_le _) (Nat.zero_le _) (by decide +kernel) ⟨rfl, hs⟩
def mX8_isLetter : mt_ := (yX8_isLetter, cX8_isLetter, 2, some .boolean, [], { frames := 1, locals := 25, cells := 0, slots := 0 })
theorem ckX8_isLetter : cokV_ mX8_isLetter := ⟨⟨(uw_mem 1531 (by decide +kernel) (by decide +kernel)), (uw_mem 112 (by decide +kernel) (by decide +kernel)), by decide +kernel, by decide +kernel⟩, (uw_mem 1530 (by decide +kernel) (by decide +kernel)), (uw_mem 32 (by decide +kernel) (by decide +kernel))⟩
theorem nkX8_isLetter : nok_ mX8_isLetter 1 := by decide +kernel
theorem lkX8_62 : Cond.methodLink RX8 62 yX8_byteAt ∈ uw_ := (uw_mem 1524 (by decide +kernel) (by decide +kernel))
theorem kwX8_66 : Cond.constantLong RX8 66 (97 : Int64) ∈ uw_ := (uw_mem 1532 (by decide +kernel) (by decide +kernel))
theorem kwX8_68 : Cond.constantLong RX8 68 (122 : Int64) ∈ uw_ := (uw_mem 1533 (by decide +kernel) (by decide +kernel))
theorem lkX8_70 : Cond.methodLink RX8 70 yX8_in ∈ uw_ := (uw_mem 1534 (by decide +kernel) (by decide +kernel))
def fX8_isLetter (s : st_) (i0 : Int32) : Option (Int32) :=
  bn_ (fX8_byteAt s i0) fun r1 =>
  bn_ (fX8_in (Int32.toInt64 r1) (97 : Int64) (122 : Int64)) fun r5 =>
  gd_ (bz_ r5) <|
  some r5
theorem kX8_isLetter {E : ev_} {H : Heap} {a : Nat} {s : st_} {i0 : Int32} {r : Int32} (hm : fX8_isLetter s i0 = some r) (h0 : has_ E H a ly_O s) : sp_ E mX8_isLetter [.ref a, .int i0] H (po1 (.inl (some (.int r))) (fun Hn => sm_ H Hn 0 0)) := by
  refine sp_of (by decide +kernel) rfl rfl ?_
  generalize hQ : po1 _ _ = Q
  have hs : sm_ H H 0 0 := sm_.rfl'
  unfold fX8_isLetter at hm
  refine aw_lv (lv' := [(0, .ref a), (1, .int i0)]) [0, 1] rfl ?_
  refine aw_b (pc' := 2) (lv' := [(0, .ref a), (1, .int i0)]) (st' := [.int i0, .ref a]) [(0, .aload_n 0, 1, .null), (1, .iload_n 1, 1, .null)] (by decide +kernel) rfl ?_
  obtain ⟨r1, e2, hm⟩ := bn_x hm
  refine aw_cv (rest := []) (st1 := [.int r1]) a 0 (kX8_byteAt e2 h0) rfl rfl ckX8_byteAt lkX8_62 h0 eo_O_0 ⟨_, _, rfl⟩ nkX8_byteAt rfl rfl rfl (Nat.le_of_ble_eq_true rfl) (Nat.zero_le _) (Nat.zero_le _) (by decide +kernel) (fun H3 z4 => ?_)
  have h0 := h0.kept0 z4
  have hs := hs.step0 z4
  refine aw_b (pc' := 6) (lv' := [(0, .ref a), (1, .int i0)]) (st' := [.long (Int32.toInt64 r1)]) [(5, .i2l, 1, .null)] (by decide +kernel) rfl ?_
  refine aw_ldc2 (v := (97 : Int64)) kwX8_66 (by decide +kernel) ?_
  refine aw_ldc2 (v := (122 : Int64)) kwX8_68 (by decide +kernel) ?_
  obtain ⟨r5, e6, hm⟩ := bn_x hm
  refine aw_cs (rest := []) (st1 := [.int r5]) (kX8_in e6) rfl rfl ckX8_in lkX8_70 nkX8_in rfl rfl rfl (Nat.le_of_ble_eq_true rfl) (Nat.zero_le _) (Nat.zero_le _) (by decide +kernel) (fun H7 z8 => ?_)
  have h0 := h0.kept0 z8
  have hs := hs.step0 z8
  obtain ⟨g9, hm⟩ := gd_x hm
  obtain rfl := Option.some.inj hm
  subst hQ
  exact aw_zret rfl (bz_n g9) (Nat.zero_le _) (Nat.zero_le _) (by decide +kernel) ⟨rfl, hs⟩
def mX8_isDigit : mt_ := (yX8_isDigit, cX8_isDigit, 2, some .boolean, [], { frames := 1, locals := 25, cells := 0, slots := 0 })
theorem ckX8_isDigit : cokV_ mX8_isDigit := ⟨⟨(uw_mem 1550 (by decide +kernel) (by decide +kernel)), (uw_mem 112 (by decide +kernel) (by decide +kernel)), by decide +kernel, by decide +kernel⟩, (uw_mem 1549 (by decide +kernel) (by decide +kernel)), (uw_mem 35 (by decide +kernel) (by decide +kernel))⟩
theorem nkX8_isDigit : nok_ mX8_isDigit 1 := by decide +kernel
theorem kwX8_74 : Cond.constantLong RX8 74 (48 : Int64) ∈ uw_ := (uw_mem 1551 (by decide +kernel) (by decide +kernel))
theorem kwX8_76 : Cond.constantLong RX8 76 (57 : Int64) ∈ uw_ := (uw_mem 1552 (by decide +kernel) (by decide +kernel))
def fX8_isDigit (s : st_) (i0 : Int32) : Option (Int32) :=
  bn_ (fX8_byteAt s i0) fun r1 =>
  bn_ (fX8_in (Int32.toInt64 r1) (48 : Int64) (57 : Int64)) fun r5 =>
  gd_ (bz_ r5) <|
  some r5
theorem kX8_isDigit {E : ev_} {H : Heap} {a : Nat} {s : st_} {i0 : Int32} {r : Int32} (hm : fX8_isDigit s i0 = some r) (h0 : has_ E H a ly_O s) : sp_ E mX8_isDigit [.ref a, .int i0] H (po1 (.inl (some (.int r))) (fun Hn => sm_ H Hn 0 0)) := by
  refine sp_of (by decide +kernel) rfl rfl ?_
  generalize hQ : po1 _ _ = Q
  have hs : sm_ H H 0 0 := sm_.rfl'
  unfold fX8_isDigit at hm
  refine aw_lv (lv' := [(0, .ref a), (1, .int i0)]) [0, 1] rfl ?_
  refine aw_b (pc' := 2) (lv' := [(0, .ref a), (1, .int i0)]) (st' := [.int i0, .ref a]) [(0, .aload_n 0, 1, .null), (1, .iload_n 1, 1, .null)] (by decide +kernel) rfl ?_
  obtain ⟨r1, e2, hm⟩ := bn_x hm
  refine aw_cv (rest := []) (st1 := [.int r1]) a 0 (kX8_byteAt e2 h0) rfl rfl ckX8_byteAt lkX8_62 h0 eo_O_0 ⟨_, _, rfl⟩ nkX8_byteAt rfl rfl rfl (Nat.le_of_ble_eq_true rfl) (Nat.zero_le _) (Nat.zero_le _) (by decide +kernel) (fun H3 z4 => ?_)
  have h0 := h0.kept0 z4
  have hs := hs.step0 z4
  refine aw_b (pc' := 6) (lv' := [(0, .ref a), (1, .int i0)]) (st' := [.long (Int32.toInt64 r1)]) [(5, .i2l, 1, .null)] (by decide +kernel) rfl ?_
  refine aw_ldc2 (v := (48 : Int64)) kwX8_74 (by decide +kernel) ?_
  refine aw_ldc2 (v := (57 : Int64)) kwX8_76 (by decide +kernel) ?_
  obtain ⟨r5, e6, hm⟩ := bn_x hm
  refine aw_cs (rest := []) (st1 := [.int r5]) (kX8_in e6) rfl rfl ckX8_in lkX8_70 nkX8_in rfl rfl rfl (Nat.le_of_ble_eq_true rfl) (Nat.zero_le _) (Nat.zero_le _) (by decide +kernel) (fun H7 z8 => ?_)
  have h0 := h0.kept0 z8
  have hs := hs.step0 z8
  obtain ⟨g9, hm⟩ := gd_x hm
  obtain rfl := Option.some.inj hm
  subst hQ
  exact aw_zret rfl (bz_n g9) (Nat.zero_le _) (Nat.zero_le _) (by decide +kernel) ⟨rfl, hs⟩
def mX8_see : mt_ := (yX8_see, cX8_see, 1, some .int, [], { frames := 1, locals := 21, cells := 0, slots := 0 })
theorem ckX8_see : cokV_ mX8_see := ⟨⟨(uw_mem 1523 (by decide +kernel) (by decide +kernel)), (uw_mem 112 (by decide +kernel) (by decide +kernel)), by decide +kernel, by decide +kernel⟩, (uw_mem 1522 (by decide +kernel) (by decide +kernel)), (uw_mem 30 (by decide +kernel) (by decide +kernel))⟩
theorem nkX8_see : nok_ mX8_see 0 := by decide +kernel
theorem fgX8_78 : fok_ RX8 78 8 9 := ⟨_, _, _, rfl, by decide, (uw_mem 1444 (by decide +kernel) (by decide +kernel)), wkX8⟩
theorem fpX8_81 : fpk_ RX8 81 8 10 .int := ⟨_, _, _, tyX8, rfl, by decide, (uw_mem 1445 (by decide +kernel) (by decide +kernel)), wkX8, tyX8_ok, nmX8, rfl, by decide +kernel⟩
theorem fsq_8_10 : fsp_ fsX8 10 := ⟨fun _ _ => rfl, fun _ _ _ => rfl⟩
theorem fpX8_78 : fpk_ RX8 78 8 9 .int := ⟨_, _, _, tyX8, rfl, by decide, (uw_mem 1444 (by decide +kernel) (by decide +kernel)), wkX8, tyX8_ok, nmX8, rfl, by decide +kernel⟩
theorem fsq_8_9 : fsp_ fsX8 9 := ⟨fun _ _ => rfl, fun _ _ _ => rfl⟩
def fX8_see_x0_26 (s_x0_26 : st_) : Option (st_ × Int32) :=
  bd_ (pt_ s_x0_26 0 10 (s_x0_26 0 9)) fun s1 =>
  bn_ (fX8_byteAt s1 (s1 0 9)) fun r5 =>
  some (s1, r5)
def fX8_see_k0 (x : st_) : Option (st_ × Int32) :=
  fX8_see_x0_26 x
def fX8_see_b0 (s_b0 : st_) : Option ((st_) ⊕ (st_)) :=
  bn_ (fX8_byteAt s_b0 (s_b0 0 9)) fun r9 =>
  if r9 = (32 : Int32) then (bd_ (pt_ s_b0 0 9 ((s_b0 0 9) + (1 : Int32))) fun s13 =>
  some (.inl s13))
  else (some (.inr s_b0))
def fX8_see_l0 : Nat → st_ → Option (st_) :=
  it_ (fun v => fX8_see_b0 v)
def fX8_see (s : st_) : Option (st_ × Int32) :=
  bn_ (fX8_see_l0 FU_ s) (fX8_see_k0)
theorem kX8_see {E : ev_} {H : Heap} {a : Nat} {s : st_} {r : st_ × Int32} (hm : fX8_see s = some r) (h0 : has_ E H a ly_O s) (hf : ev_fr E a) : sp_ E mX8_see [.ref a] H (po1 (.inl (some (.int r.2))) (fun Hn => sm_ H Hn a 10 ∧ has_ E Hn a ly_O r.1)) := by
  refine sp_of (by decide +kernel) rfl rfl ?_
  generalize hQ : po1 _ _ = Q
  have hs : sm_ H H a 10 := sm_.rfl'
  unfold fX8_see at hm
  refine aw_lv (lv' := [(0, .ref a)]) [0] rfl ?_
  obtain ⟨x0, hx0, hr0⟩ := bn_x hm
  have X0_26 : ∀ (s_x0_26 : st_) (H_x0_26 : Heap), has_ E H_x0_26 a ly_O s_x0_26 → sm_ H H_x0_26 a 10 → fX8_see_x0_26 s_x0_26 = some r → aw E mX8_see Q 26 [(0, .ref a)] [] H_x0_26 0 0 := by
    intro s_x0_26 H_x0_26 h0 hs hm
    unfold fX8_see_x0_26 at hm
    refine aw_b (pc' := 28) (lv' := [(0, .ref a)]) (st' := [.ref a, .ref a]) [(26, .aload_n 0, 1, .null), (27, .aload_n 0, 1, .null)] (by decide +kernel) rfl ?_
    refine aw_gl (v := .int (s_x0_26 0 9)) a 0 h0 eo_O_0 fgX8_78 rfl (by decide +kernel) ?_
    obtain ⟨s1, e2, hm⟩ := bd_x hm
    refine aw_pl a 0 h0 eo_O_0 fsq_8_10 fpX8_81 hf rfl rfl e2 (by decide +kernel) (fun H3 h0 z4 => ?_)
    have hs := hs.step z4 (by omega) (by omega)
    refine aw_b (pc' := 36) (lv' := [(0, .ref a)]) (st' := [.ref a, .ref a]) [(34, .aload_n 0, 1, .null), (35, .aload_n 0, 1, .null)] (by decide +kernel) rfl ?_
    refine aw_gl (v := .int (s1 0 9)) a 0 h0 eo_O_0 fgX8_78 rfl (by decide +kernel) ?_
    obtain ⟨r5, e6, hm⟩ := bn_x hm
    refine aw_cv (rest := []) (st1 := [.int r5]) a 0 (kX8_byteAt e6 h0) rfl rfl ckX8_byteAt lkX8_62 h0 eo_O_0 ⟨_, _, rfl⟩ nkX8_byteAt rfl rfl rfl (Nat.le_of_ble_eq_true rfl) (Nat.zero_le _) (Nat.zero_le _) (by decide +kernel) (fun H7 z8 => ?_)
    have h0 := h0.kept0 z8
    have hs := hs.step0 z8
    obtain rfl := Option.some.inj hm
    subst hQ
    exact aw_iret rfl (Nat.zero_le _) (Nat.zero_le _) (by decide +kernel) ⟨rfl, hs, h0⟩
  have L0 : ∀ (fu : Nat) (s_b0 : st_) (H_b0 : Heap), has_ E H_b0 a ly_O s_b0 → sm_ H H_b0 a 10 → fX8_see_l0 fu s_b0 = some x0 → aw E mX8_see Q 0 [(0, .ref a)] [] H_b0 0 0 := by
    intro fu
    induction fu with
    | zero =>
      intro s_b0 H_b0 h0 hs hm
      exact (it_0 hm).elim
    | succ fu ih0 =>
      intro s_b0 H_b0 h0 hs hm
      obtain ⟨y0, hm, hk0⟩ := it_s hm
      have hm : fX8_see_b0 s_b0 = some y0 := hm
      unfold fX8_see_b0 at hm
      refine aw_b (pc' := 2) (lv' := [(0, .ref a)]) (st' := [.ref a, .ref a]) [(0, .aload_n 0, 1, .null), (1, .aload_n 0, 1, .null)] (by decide +kernel) rfl ?_
      refine aw_gl (v := .int (s_b0 0 9)) a 0 h0 eo_O_0 fgX8_78 rfl (by decide +kernel) ?_
      obtain ⟨r9, e10, hm⟩ := bn_x hm
      refine aw_cv (rest := []) (st1 := [.int r9]) a 0 (kX8_byteAt e10 h0) rfl rfl ckX8_byteAt lkX8_62 h0 eo_O_0 ⟨_, _, rfl⟩ nkX8_byteAt rfl rfl rfl (Nat.le_of_ble_eq_true rfl) (Nat.zero_le _) (Nat.zero_le _) (by decide +kernel) (fun H11 z12 => ?_)
      have h0 := h0.kept0 z12
      have hs := hs.step0 z12
      refine aw_b (pc' := 10) (lv' := [(0, .ref a)]) (st' := [.int (32 : Int32), .int r9]) [(8, .bipush 32, 2, .int (32 : Int32))] (by decide +kernel) rfl ?_
      refine aw_ic_ne (off := 16) 26 (by decide) (by decide +kernel) (fun hc => ?_) (fun hc => ?_)
      · have hm := (if_neg hc).symm.trans hm
        cases hm
        exact X0_26 s_b0 H11 h0 hs ((congrArg fX8_see_k0 (show (s_b0) = x0 from hk0)).trans hr0)
      · have hm := (if_pos hc).symm.trans hm
        refine aw_b (pc' := 15) (lv' := [(0, .ref a)]) (st' := [.ref a, .ref a]) [(13, .aload_n 0, 1, .null), (14, .dup, 1, .null)] (by decide +kernel) rfl ?_
        refine aw_gl (v := .int (s_b0 0 9)) a 0 h0 eo_O_0 fgX8_78 rfl (by decide +kernel) ?_
        refine aw_b (pc' := 20) (lv' := [(0, .ref a)]) (st' := [.int ((s_b0 0 9) + (1 : Int32)), .ref a]) [(18, .iconst 1, 1, .int (1 : Int32)), (19, .iadd, 1, .null)] (by decide +kernel) rfl ?_
        obtain ⟨s13, e14, hm⟩ := bd_x hm
        refine aw_pl a 0 h0 eo_O_0 fsq_8_9 fpX8_78 hf rfl rfl e14 (by decide +kernel) (fun H15 h0 z16 => ?_)
        have hs := hs.step z16 (by omega) (by omega)
        refine aw_b (pc' := 0) (lv' := [(0, .ref a)]) (st' := []) [(23, .goto (-23), 3, .null)] (by decide +kernel) rfl ?_
        cases hm
        exact ih0 s13 H15 h0 hs hk0
  exact L0 FU_ s H h0 hs hx0
def mX8_fails : mt_ := (yX8_fails, cX8_fails, 2, some .boolean, [], { frames := 0, locals := 0, cells := 0, slots := 0 })
theorem ckX8_fails : cokV_ mX8_fails := ⟨⟨(uw_mem 1542 (by decide +kernel) (by decide +kernel)), (uw_mem 112 (by decide +kernel) (by decide +kernel)), by decide +kernel, by decide +kernel⟩, (uw_mem 1541 (by decide +kernel) (by decide +kernel)), (uw_mem 33 (by decide +kernel) (by decide +kernel))⟩
theorem nkX8_fails : nok_ mX8_fails 1 := by decide +kernel
theorem fgX8_84 : fok_ RX8 84 8 12 := ⟨_, _, _, rfl, by decide, (uw_mem 1447 (by decide +kernel) (by decide +kernel)), wkX8⟩
theorem fpX8_84 : fpk_ RX8 84 8 12 .int := ⟨_, _, _, tyX8, rfl, by decide, (uw_mem 1447 (by decide +kernel) (by decide +kernel)), wkX8, tyX8_ok, nmX8, rfl, by decide +kernel⟩
theorem fsq_8_12 : fsp_ fsX8 12 := ⟨fun _ _ => rfl, fun _ _ _ => rfl⟩
theorem fgX8_81 : fok_ RX8 81 8 10 := ⟨_, _, _, rfl, by decide, (uw_mem 1445 (by decide +kernel) (by decide +kernel)), wkX8⟩
theorem fpX8_87 : fpk_ RX8 87 8 11 .int := ⟨_, _, _, tyX8, rfl, by decide, (uw_mem 1446 (by decide +kernel) (by decide +kernel)), wkX8, tyX8_ok, nmX8, rfl, by decide +kernel⟩
theorem fsq_8_11 : fsp_ fsX8 11 := ⟨fun _ _ => rfl, fun _ _ _ => rfl⟩
def fX8_fails (s : st_) (i0 : Int32) : Option (st_ × Int32) :=
  if (s 0 12) = (0 : Int32) then (bd_ (pt_ s 0 12 i0) fun s1 =>
  bd_ (pt_ s1 0 11 (s1 0 10)) fun s5 =>
  some (s5, (0 : Int32)))
  else (some (s, (0 : Int32)))
theorem kX8_fails {E : ev_} {H : Heap} {a : Nat} {s : st_} {i0 : Int32} {r : st_ × Int32} (hm : fX8_fails s i0 = some r) (h0 : has_ E H a ly_O s) (hf : ev_fr E a) : sp_ E mX8_fails [.ref a, .int i0] H (po1 (.inl (some (.int r.2))) (fun Hn => sm_ H Hn a 10 ∧ has_ E Hn a ly_O r.1)) := by
  refine sp_of (by decide +kernel) rfl rfl ?_
  generalize hQ : po1 _ _ = Q
  have hs : sm_ H H a 10 := sm_.rfl'
  unfold fX8_fails at hm
  refine aw_lv (lv' := [(0, .ref a), (1, .int i0)]) [0, 1] rfl ?_
  refine aw_b (pc' := 1) (lv' := [(0, .ref a), (1, .int i0)]) (st' := [.ref a]) [(0, .aload_n 0, 1, .null)] (by decide +kernel) rfl ?_
  refine aw_gl (v := .int (s 0 12)) a 0 h0 eo_O_0 fgX8_84 rfl (by decide +kernel) ?_
  refine aw_if_ne (off := 16) 20 (by decide) (by decide +kernel) (fun hc => ?_) (fun hc => ?_)
  · have hm := (if_neg hc).symm.trans hm
    refine aw_b (pc' := 21) (lv' := [(0, .ref a), (1, .int i0)]) (st' := [.int (0 : Int32)]) [(20, .iconst 0, 1, .int (0 : Int32))] (by decide +kernel) rfl ?_
    obtain rfl := Option.some.inj hm
    subst hQ
    exact aw_zret rfl (by decide +kernel) (Nat.zero_le _) (Nat.zero_le _) (by decide +kernel) ⟨rfl, hs, h0⟩
  · have hm := (if_pos hc).symm.trans hm
    refine aw_b (pc' := 9) (lv' := [(0, .ref a), (1, .int i0)]) (st' := [.int i0, .ref a]) [(7, .aload_n 0, 1, .null), (8, .iload_n 1, 1, .null)] (by decide +kernel) rfl ?_
    obtain ⟨s1, e2, hm⟩ := bd_x hm
    refine aw_pl a 0 h0 eo_O_0 fsq_8_12 fpX8_84 hf rfl rfl e2 (by decide +kernel) (fun H3 h0 z4 => ?_)
    have hs := hs.step z4 (by omega) (by omega)
    refine aw_b (pc' := 14) (lv' := [(0, .ref a), (1, .int i0)]) (st' := [.ref a, .ref a]) [(12, .aload_n 0, 1, .null), (13, .aload_n 0, 1, .null)] (by decide +kernel) rfl ?_
    refine aw_gl (v := .int (s1 0 10)) a 0 h0 eo_O_0 fgX8_81 rfl (by decide +kernel) ?_
    obtain ⟨s5, e6, hm⟩ := bd_x hm
    refine aw_pl a 0 h0 eo_O_0 fsq_8_11 fpX8_87 hf rfl rfl e6 (by decide +kernel) (fun H7 h0 z8 => ?_)
    have hs := hs.step z8 (by omega) (by omega)
    refine aw_b (pc' := 21) (lv' := [(0, .ref a), (1, .int i0)]) (st' := [.int (0 : Int32)]) [(20, .iconst 0, 1, .int (0 : Int32))] (by decide +kernel) rfl ?_
    obtain rfl := Option.some.inj hm
    subst hQ
    exact aw_zret rfl (by decide +kernel) (Nat.zero_le _) (Nat.zero_le _) (by decide +kernel) ⟨rfl, hs, h0⟩
def mX8_takes : mt_ := (yX8_takes, cX8_takes, 5, some .boolean, [], { frames := 6, locals := 160, cells := 0, slots := 0 })
theorem ckX8_takes : cokV_ mX8_takes := ⟨⟨(uw_mem 1519 (by decide +kernel) (by decide +kernel)), (uw_mem 112 (by decide +kernel) (by decide +kernel)), by decide +kernel, by decide +kernel⟩, (uw_mem 1518 (by decide +kernel) (by decide +kernel)), (uw_mem 29 (by decide +kernel) (by decide +kernel))⟩
theorem nkX8_takes : nok_ mX8_takes 1 := by decide +kernel
theorem lkX8_90 : Cond.methodLink RX8 90 yX8_see ∈ uw_ := (uw_mem 1520 (by decide +kernel) (by decide +kernel))
theorem lkX8_98 : Cond.methodLink RX8 98 yJ0_length_8abf5 ∈ uw_ := (uw_mem 1537 (by decide +kernel) (by decide +kernel))
theorem lkX8_102 : Cond.methodLink RX8 102 yJ0_charAt_5068e ∈ uw_ := (uw_mem 1538 (by decide +kernel) (by decide +kernel))
theorem lkX8_94 : Cond.methodLink RX8 94 yX8_isLetter ∈ uw_ := (uw_mem 1528 (by decide +kernel) (by decide +kernel))
def fX8_takes_j106 (r1 : st_ × Int32) (v3_x46_93 : Int32) (z1_j106 : Int32) : Option (st_ × Int32) :=
  bd_ (pt_ r1.1 0 9 z1_j106) fun s8 =>
  gd_ (bz_ v3_x46_93) <|
  some (s8, v3_x46_93)
def fX8_takes_x46_93 (r1 : st_ × Int32) (v2_x10_24 : Int32) (v3_x46_93 : Int32) : Option (st_ × Int32) :=
  if v3_x46_93 = (0 : Int32) then (fX8_takes_j106 r1 v3_x46_93 (r1.1 0 9))
  else (fX8_takes_j106 r1 v3_x46_93 v2_x10_24)
def fX8_takes_k46 (r1 : st_ × Int32) (v2_x10_24 : Int32) (x : Int32) : Option (st_ × Int32) :=
  fX8_takes_x46_93 r1 v2_x10_24 x
def fX8_takes_j86 (v4_b46 : Int32) (z0_j86 : Int32) : Option ((Int32 × Int32) ⊕ (Int32)) :=
  some (.inl (z0_j86, (v4_b46 + (1 : Int32))))
def fX8_takes_b46 (w0 : Nat) (r1 : st_ × Int32) (v2_x10_24 : Int32) (v3_b46 : Int32) (v4_b46 : Int32) : Option ((Int32 × Int32) ⊕ (Int32)) :=
  if v3_b46 = (0 : Int32) then (some (.inr v3_b46))
  else (if v2_x10_24 ≤ ((r1.1 0 10) + v4_b46) then (some (.inr v3_b46))
  else (bn_ (fX8_byteAt r1.1 ((r1.1 0 10) + v4_b46)) fun r13 =>
  gd_ (sw_ w0) <|
  gd_ (ib_ v4_b46 (sb_y w0).length) <|
  if r13 = (sch_ w0 v4_b46) then (fX8_takes_j86 v4_b46 (1 : Int32))
  else (fX8_takes_j86 v4_b46 (0 : Int32))))
def fX8_takes_l46 (w0 : Nat) (r1 : st_ × Int32) (v2_x10_24 : Int32) : Nat → (Int32 × Int32) → Option (Int32) :=
  it_ (fun v => fX8_takes_b46 w0 r1 v2_x10_24 v.1 v.2)
def fX8_takes_j42 (w0 : Nat) (r1 : st_ × Int32) (v2_x10_24 : Int32) (z0_j42 : Int32) : Option (st_ × Int32) :=
  bn_ (fX8_takes_l46 w0 r1 v2_x10_24 FU_ (z0_j42, (0 : Int32))) (fX8_takes_k46 r1 v2_x10_24)
def fX8_takes_x10_24 (w0 : Nat) (r1 : st_ × Int32) (v2_x10_24 : Int32) : Option (st_ × Int32) :=
  gd_ (sw_ w0) <|
  if (v2_x10_24 - (r1.1 0 10)) = (sl_ w0) then (fX8_takes_j42 w0 r1 v2_x10_24 (1 : Int32))
  else (fX8_takes_j42 w0 r1 v2_x10_24 (0 : Int32))
def fX8_takes_k10 (w0 : Nat) (r1 : st_ × Int32) (x : Int32) : Option (st_ × Int32) :=
  fX8_takes_x10_24 w0 r1 x
def fX8_takes_b10 (r1 : st_ × Int32) (v2_b10 : Int32) : Option ((Int32) ⊕ (Int32)) :=
  bn_ (fX8_isLetter r1.1 v2_b10) fun r21 =>
  if r21 = (0 : Int32) then (some (.inr v2_b10))
  else (some (.inl (v2_b10 + (1 : Int32))))
def fX8_takes_l10 (r1 : st_ × Int32) : Nat → Int32 → Option (Int32) :=
  it_ (fun v => fX8_takes_b10 r1 v)
def fX8_takes (s : st_) (w0 : Nat) : Option (st_ × Int32) :=
  bn_ (fX8_see s) fun r1 =>
  bn_ (fX8_takes_l10 r1 FU_ (r1.1 0 10)) (fX8_takes_k10 w0 r1)
theorem kX8_takes {E : ev_} {H : Heap} {a : Nat} {s : st_} {w0 : Nat} {r : st_ × Int32} (hm : fX8_takes s w0 = some r) (h0 : has_ E H a ly_O s) (hf : ev_fr E a) : sp_ E mX8_takes [.ref a, .ref (sa_ E w0)] H (po1 (.inl (some (.int r.2))) (fun Hn => sm_ H Hn a 10 ∧ has_ E Hn a ly_O r.1)) := by
  refine sp_of (by decide +kernel) rfl rfl ?_
  generalize hQ : po1 _ _ = Q
  have hs : sm_ H H a 10 := sm_.rfl'
  unfold fX8_takes at hm
  refine aw_lv (lv' := [(0, .ref a), (1, .ref (sa_ E w0))]) [0, 1] rfl ?_
  refine aw_b (pc' := 1) (lv' := [(0, .ref a), (1, .ref (sa_ E w0))]) (st' := [.ref a]) [(0, .aload_n 0, 1, .null)] (by decide +kernel) rfl ?_
  obtain ⟨r1, e2, hm⟩ := bn_x hm
  refine aw_cv (rest := []) (st1 := [.int r1.2]) a 0 (kX8_see e2 h0 hf) rfl rfl ckX8_see lkX8_90 h0 eo_O_0 ⟨_, _, rfl⟩ nkX8_see rfl rfl rfl (Nat.le_of_ble_eq_true rfl) (Nat.zero_le _) (Nat.zero_le _) (by decide +kernel) (fun H3 z4 => ?_)
  obtain ⟨z4, hn⟩ := z4
  have h0 := hn
  have hs := hs.step z4 (by omega) (by omega)
  refine aw_b (pc' := 6) (lv' := [(0, .ref a), (1, .ref (sa_ E w0))]) (st' := [.ref a]) [(4, .pop, 1, .null), (5, .aload_n 0, 1, .null)] (by decide +kernel) rfl ?_
  refine aw_gl (v := .int (r1.1 0 10)) a 0 h0 eo_O_0 fgX8_81 rfl (by decide +kernel) ?_
  refine aw_b (pc' := 10) (lv' := [(2, .int (r1.1 0 10)), (0, .ref a), (1, .ref (sa_ E w0))]) (st' := []) [(9, .istore_n 2, 1, .null)] (by decide +kernel) rfl ?_
  obtain ⟨x10, hx10, hr10⟩ := bn_x hm
  have X10_24 : ∀ (v2_x10_24 : Int32) (H_x10_24 : Heap), has_ E H_x10_24 a ly_O r1.1 → sm_ H H_x10_24 a 10 → fX8_takes_x10_24 w0 r1 v2_x10_24 = some r → aw E mX8_takes Q 24 [(0, .ref a), (1, .ref (sa_ E w0)), (2, .int v2_x10_24)] [] H_x10_24 0 0 := by
    intro v2_x10_24 H_x10_24 h0 hs hm
    unfold fX8_takes_x10_24 at hm
    refine aw_b (pc' := 26) (lv' := [(0, .ref a), (1, .ref (sa_ E w0)), (2, .int v2_x10_24)]) (st' := [.ref a, .int v2_x10_24]) [(24, .iload_n 2, 1, .null), (25, .aload_n 0, 1, .null)] (by decide +kernel) rfl ?_
    refine aw_gl (v := .int (r1.1 0 10)) a 0 h0 eo_O_0 fgX8_81 rfl (by decide +kernel) ?_
    refine aw_b (pc' := 31) (lv' := [(0, .ref a), (1, .ref (sa_ E w0)), (2, .int v2_x10_24)]) (st' := [.ref (sa_ E w0), .int (v2_x10_24 - (r1.1 0 10))]) [(29, .isub, 1, .null), (30, .aload_n 1, 1, .null)] (by decide +kernel) rfl ?_
    obtain ⟨g7, hm⟩ := gd_x hm
    refine aw_sln (rest := [.int (v2_x10_24 - (r1.1 0 10))]) w0 g7 lkX8_98 rfl rfl (Nat.le_of_ble_eq_true rfl) (Nat.zero_le _) (Nat.zero_le _) (by decide +kernel) (fun H5 z6 => ?_)
    have h0 := h0.kept0 z6
    have hs := hs.step0 z6
    have J42 : ∀ (z0_j42 : Int32) (H_j42 : Heap), has_ E H_j42 a ly_O r1.1 → sm_ H H_j42 a 10 → fX8_takes_j42 w0 r1 v2_x10_24 z0_j42 = some r → aw E mX8_takes Q 42 [(0, .ref a), (1, .ref (sa_ E w0)), (2, .int v2_x10_24)] [.int z0_j42] H_j42 0 0 := by
      intro z0_j42 H_j42 h0 hs hm
      unfold fX8_takes_j42 at hm
      refine aw_b (pc' := 46) (lv' := [(4, .int (0 : Int32)), (3, .int z0_j42), (0, .ref a), (1, .ref (sa_ E w0)), (2, .int v2_x10_24)]) (st' := []) [(42, .istore_n 3, 1, .null), (43, .iconst 0, 1, .int (0 : Int32)), (44, .istore 4, 2, .null)] (by decide +kernel) rfl ?_
      obtain ⟨x46, hx46, hr46⟩ := bn_x hm
      have X46_93 : ∀ (v3_x46_93 : Int32) (H_x46_93 : Heap), has_ E H_x46_93 a ly_O r1.1 → sm_ H H_x46_93 a 10 → fX8_takes_x46_93 r1 v2_x10_24 v3_x46_93 = some r → aw E mX8_takes Q 93 [(0, .ref a), (2, .int v2_x10_24), (3, .int v3_x46_93)] [] H_x46_93 0 0 := by
        intro v3_x46_93 H_x46_93 h0 hs hm
        unfold fX8_takes_x46_93 at hm
        refine aw_b (pc' := 95) (lv' := [(0, .ref a), (2, .int v2_x10_24), (3, .int v3_x46_93)]) (st' := [.int v3_x46_93, .ref a]) [(93, .aload_n 0, 1, .null), (94, .iload_n 3, 1, .null)] (by decide +kernel) rfl ?_
        have J106 : ∀ (z1_j106 : Int32) (H_j106 : Heap), has_ E H_j106 a ly_O r1.1 → sm_ H H_j106 a 10 → fX8_takes_j106 r1 v3_x46_93 z1_j106 = some r → aw E mX8_takes Q 106 [(3, .int v3_x46_93)] [.int z1_j106, .ref a] H_j106 0 0 := by
          intro z1_j106 H_j106 h0 hs hm
          unfold fX8_takes_j106 at hm
          obtain ⟨s8, e9, hm⟩ := bd_x hm
          refine aw_pl a 0 h0 eo_O_0 fsq_8_9 fpX8_78 hf rfl rfl e9 (by decide +kernel) (fun H10 h0 z11 => ?_)
          have hs := hs.step z11 (by omega) (by omega)
          refine aw_b (pc' := 110) (lv' := [(3, .int v3_x46_93)]) (st' := [.int v3_x46_93]) [(109, .iload_n 3, 1, .null)] (by decide +kernel) rfl ?_
          obtain ⟨g12, hm⟩ := gd_x hm
          obtain rfl := Option.some.inj hm
          subst hQ
          exact aw_zret rfl (bz_n g12) (Nat.zero_le _) (Nat.zero_le _) (by decide +kernel) ⟨rfl, hs, h0⟩
        refine aw_if_eq (off := 7) 102 (by decide) (by decide +kernel) (fun hc => ?_) (fun hc => ?_)
        · have hm := (if_pos hc).symm.trans hm
          refine aw_b (pc' := 103) (lv' := [(0, .ref a), (2, .int v2_x10_24), (3, .int v3_x46_93)]) (st' := [.ref a, .ref a]) [(102, .aload_n 0, 1, .null)] (by decide +kernel) rfl ?_
          refine aw_gl (v := .int (r1.1 0 9)) a 0 h0 eo_O_0 fgX8_78 rfl (by decide +kernel) ?_
          refine aw_lv (lv' := [(3, .int v3_x46_93)]) [2] rfl ?_
          exact J106 (r1.1 0 9) H_x46_93 h0 hs hm
        · have hm := (if_neg hc).symm.trans hm
          refine aw_b (pc' := 106) (lv' := [(0, .ref a), (2, .int v2_x10_24), (3, .int v3_x46_93)]) (st' := [.int v2_x10_24, .ref a]) [(98, .iload_n 2, 1, .null), (99, .goto 7, 3, .null)] (by decide +kernel) rfl ?_
          refine aw_lv (lv' := [(3, .int v3_x46_93)]) [2] rfl ?_
          exact J106 v2_x10_24 H_x46_93 h0 hs hm
      have L46 : ∀ (fu : Nat) (v3_b46 : Int32) (v4_b46 : Int32) (H_b46 : Heap), has_ E H_b46 a ly_O r1.1 → sm_ H H_b46 a 10 → fX8_takes_l46 w0 r1 v2_x10_24 fu (v3_b46, v4_b46) = some x46 → aw E mX8_takes Q 46 [(0, .ref a), (1, .ref (sa_ E w0)), (2, .int v2_x10_24), (3, .int v3_b46), (4, .int v4_b46)] [] H_b46 0 0 := by
        intro fu
        induction fu with
        | zero =>
          intro v3_b46 v4_b46 H_b46 h0 hs hm
          exact (it_0 hm).elim
        | succ fu ih46 =>
          intro v3_b46 v4_b46 H_b46 h0 hs hm
          obtain ⟨y46, hm, hk46⟩ := it_s hm
          have hm : fX8_takes_b46 w0 r1 v2_x10_24 v3_b46 v4_b46 = some y46 := hm
          unfold fX8_takes_b46 at hm
          refine aw_b (pc' := 47) (lv' := [(0, .ref a), (1, .ref (sa_ E w0)), (2, .int v2_x10_24), (3, .int v3_b46), (4, .int v4_b46)]) (st' := [.int v3_b46]) [(46, .iload_n 3, 1, .null)] (by decide +kernel) rfl ?_
          refine aw_if_eq (off := 46) 93 (by decide) (by decide +kernel) (fun hc => ?_) (fun hc => ?_)
          · have hm := (if_pos hc).symm.trans hm
            cases hm
            refine aw_lv (lv' := [(0, .ref a), (2, .int v2_x10_24), (3, .int v3_b46)]) [0, 2, 3] rfl ?_
            exact X46_93 v3_b46 H_b46 h0 hs ((congrArg (fX8_takes_k46 r1 v2_x10_24) (show (v3_b46) = x46 from hk46)).trans hr46)
          · have hm := (if_neg hc).symm.trans hm
            refine aw_b (pc' := 51) (lv' := [(0, .ref a), (1, .ref (sa_ E w0)), (2, .int v2_x10_24), (3, .int v3_b46), (4, .int v4_b46)]) (st' := [.ref a]) [(50, .aload_n 0, 1, .null)] (by decide +kernel) rfl ?_
            refine aw_gl (v := .int (r1.1 0 10)) a 0 h0 eo_O_0 fgX8_81 rfl (by decide +kernel) ?_
            refine aw_b (pc' := 58) (lv' := [(0, .ref a), (1, .ref (sa_ E w0)), (2, .int v2_x10_24), (3, .int v3_b46), (4, .int v4_b46)]) (st' := [.int v2_x10_24, .int ((r1.1 0 10) + v4_b46)]) [(54, .iload 4, 2, .null), (56, .iadd, 1, .null), (57, .iload_n 2, 1, .null)] (by decide +kernel) rfl ?_
            refine aw_ic_ge (off := 35) 93 (by decide) (by decide +kernel) (fun hc => ?_) (fun hc => ?_)
            · have hm := (if_pos hc).symm.trans hm
              cases hm
              refine aw_lv (lv' := [(0, .ref a), (2, .int v2_x10_24), (3, .int v3_b46)]) [0, 2, 3] rfl ?_
              exact X46_93 v3_b46 H_b46 h0 hs ((congrArg (fX8_takes_k46 r1 v2_x10_24) (show (v3_b46) = x46 from hk46)).trans hr46)
            · have hm := (if_neg hc).symm.trans hm
              refine aw_b (pc' := 63) (lv' := [(0, .ref a), (1, .ref (sa_ E w0)), (2, .int v2_x10_24), (3, .int v3_b46), (4, .int v4_b46)]) (st' := [.ref a, .ref a]) [(61, .aload_n 0, 1, .null), (62, .aload_n 0, 1, .null)] (by decide +kernel) rfl ?_
              refine aw_gl (v := .int (r1.1 0 10)) a 0 h0 eo_O_0 fgX8_81 rfl (by decide +kernel) ?_
              refine aw_b (pc' := 69) (lv' := [(0, .ref a), (1, .ref (sa_ E w0)), (2, .int v2_x10_24), (3, .int v3_b46), (4, .int v4_b46)]) (st' := [.int ((r1.1 0 10) + v4_b46), .ref a]) [(66, .iload 4, 2, .null), (68, .iadd, 1, .null)] (by decide +kernel) rfl ?_
              obtain ⟨r13, e14, hm⟩ := bn_x hm
              refine aw_cv (rest := []) (st1 := [.int r13]) a 0 (kX8_byteAt e14 h0) rfl rfl ckX8_byteAt lkX8_62 h0 eo_O_0 ⟨_, _, rfl⟩ nkX8_byteAt rfl rfl rfl (Nat.le_of_ble_eq_true rfl) (Nat.zero_le _) (Nat.zero_le _) (by decide +kernel) (fun H15 z16 => ?_)
              have h0 := h0.kept0 z16
              have hs := hs.step0 z16
              refine aw_b (pc' := 75) (lv' := [(0, .ref a), (1, .ref (sa_ E w0)), (2, .int v2_x10_24), (3, .int v3_b46), (4, .int v4_b46)]) (st' := [.int v4_b46, .ref (sa_ E w0), .int r13]) [(72, .aload_n 1, 1, .null), (73, .iload 4, 2, .null)] (by decide +kernel) rfl ?_
              obtain ⟨g19, hm⟩ := gd_x hm
              obtain ⟨g20, hm⟩ := gd_x hm
              refine aw_sch (rest := [.int r13]) w0 g19 g20 lkX8_102 rfl rfl (Nat.le_of_ble_eq_true rfl) (Nat.zero_le _) (Nat.zero_le _) (by decide +kernel) (fun H17 z18 => ?_)
              have h0 := h0.kept0 z18
              have hs := hs.step0 z18
              have J86 : ∀ (z0_j86 : Int32) (H_j86 : Heap), has_ E H_j86 a ly_O r1.1 → sm_ H H_j86 a 10 → fX8_takes_j86 v4_b46 z0_j86 = some y46 → aw E mX8_takes Q 86 [(0, .ref a), (1, .ref (sa_ E w0)), (2, .int v2_x10_24), (4, .int v4_b46)] [.int z0_j86] H_j86 0 0 := by
                intro z0_j86 H_j86 h0 hs hm
                unfold fX8_takes_j86 at hm
                refine aw_b (pc' := 46) (lv' := [(4, .int (v4_b46 + (1 : Int32))), (3, .int z0_j86), (0, .ref a), (1, .ref (sa_ E w0)), (2, .int v2_x10_24)]) (st' := []) [(86, .istore_n 3, 1, .null), (87, .iinc 4 1, 3, .int (1 : Int32)), (90, .goto (-44), 3, .null)] (by decide +kernel) rfl ?_
                cases hm
                refine aw_lv (lv' := [(0, .ref a), (1, .ref (sa_ E w0)), (2, .int v2_x10_24), (3, .int z0_j86), (4, .int (v4_b46 + (1 : Int32)))]) [2, 3, 4, 1, 0] rfl ?_
                exact ih46 z0_j86 (v4_b46 + (1 : Int32)) H_j86 h0 hs hk46
              refine aw_ic_ne (off := 7) 85 (by decide) (by decide +kernel) (fun hc => ?_) (fun hc => ?_)
              · have hm := (if_neg hc).symm.trans hm
                refine aw_b (pc' := 86) (lv' := [(0, .ref a), (1, .ref (sa_ E w0)), (2, .int v2_x10_24), (3, .int v3_b46), (4, .int v4_b46)]) (st' := [.int (0 : Int32)]) [(85, .iconst 0, 1, .int (0 : Int32))] (by decide +kernel) rfl ?_
                refine aw_lv (lv' := [(0, .ref a), (1, .ref (sa_ E w0)), (2, .int v2_x10_24), (4, .int v4_b46)]) [0, 1, 2, 4] rfl ?_
                exact J86 (0 : Int32) H17 h0 hs hm
              · have hm := (if_pos hc).symm.trans hm
                refine aw_b (pc' := 86) (lv' := [(0, .ref a), (1, .ref (sa_ E w0)), (2, .int v2_x10_24), (3, .int v3_b46), (4, .int v4_b46)]) (st' := [.int (1 : Int32)]) [(81, .iconst 1, 1, .int (1 : Int32)), (82, .goto 4, 3, .null)] (by decide +kernel) rfl ?_
                refine aw_lv (lv' := [(0, .ref a), (1, .ref (sa_ E w0)), (2, .int v2_x10_24), (4, .int v4_b46)]) [0, 1, 2, 4] rfl ?_
                exact J86 (1 : Int32) H17 h0 hs hm
      refine aw_lv (lv' := [(0, .ref a), (1, .ref (sa_ E w0)), (2, .int v2_x10_24), (3, .int z0_j42), (4, .int (0 : Int32))]) [2, 3, 4, 1, 0] rfl ?_
      exact L46 FU_ z0_j42 (0 : Int32) H_j42 h0 hs hx46
    refine aw_ic_ne (off := 7) 41 (by decide) (by decide +kernel) (fun hc => ?_) (fun hc => ?_)
    · have hm := (if_neg hc).symm.trans hm
      refine aw_b (pc' := 42) (lv' := [(0, .ref a), (1, .ref (sa_ E w0)), (2, .int v2_x10_24)]) (st' := [.int (0 : Int32)]) [(41, .iconst 0, 1, .int (0 : Int32))] (by decide +kernel) rfl ?_
      exact J42 (0 : Int32) H5 h0 hs hm
    · have hm := (if_pos hc).symm.trans hm
      refine aw_b (pc' := 42) (lv' := [(0, .ref a), (1, .ref (sa_ E w0)), (2, .int v2_x10_24)]) (st' := [.int (1 : Int32)]) [(37, .iconst 1, 1, .int (1 : Int32)), (38, .goto 4, 3, .null)] (by decide +kernel) rfl ?_
      exact J42 (1 : Int32) H5 h0 hs hm
  have L10 : ∀ (fu : Nat) (v2_b10 : Int32) (H_b10 : Heap), has_ E H_b10 a ly_O r1.1 → sm_ H H_b10 a 10 → fX8_takes_l10 r1 fu v2_b10 = some x10 → aw E mX8_takes Q 10 [(0, .ref a), (1, .ref (sa_ E w0)), (2, .int v2_b10)] [] H_b10 0 0 := by
    intro fu
    induction fu with
    | zero =>
      intro v2_b10 H_b10 h0 hs hm
      exact (it_0 hm).elim
    | succ fu ih10 =>
      intro v2_b10 H_b10 h0 hs hm
      obtain ⟨y10, hm, hk10⟩ := it_s hm
      have hm : fX8_takes_b10 r1 v2_b10 = some y10 := hm
      unfold fX8_takes_b10 at hm
      refine aw_b (pc' := 12) (lv' := [(0, .ref a), (1, .ref (sa_ E w0)), (2, .int v2_b10)]) (st' := [.int v2_b10, .ref a]) [(10, .aload_n 0, 1, .null), (11, .iload_n 2, 1, .null)] (by decide +kernel) rfl ?_
      obtain ⟨r21, e22, hm⟩ := bn_x hm
      refine aw_cv (rest := []) (st1 := [.int r21]) a 0 (kX8_isLetter e22 h0) rfl rfl ckX8_isLetter lkX8_94 h0 eo_O_0 ⟨_, _, rfl⟩ nkX8_isLetter rfl rfl rfl (Nat.le_of_ble_eq_true rfl) (Nat.zero_le _) (Nat.zero_le _) (by decide +kernel) (fun H23 z24 => ?_)
      have h0 := h0.kept0 z24
      have hs := hs.step0 z24
      refine aw_if_eq (off := 9) 24 (by decide) (by decide +kernel) (fun hc => ?_) (fun hc => ?_)
      · have hm := (if_pos hc).symm.trans hm
        cases hm
        exact X10_24 v2_b10 H23 h0 hs ((congrArg (fX8_takes_k10 w0 r1) (show (v2_b10) = x10 from hk10)).trans hr10)
      · have hm := (if_neg hc).symm.trans hm
        refine aw_b (pc' := 10) (lv' := [(2, .int (v2_b10 + (1 : Int32))), (0, .ref a), (1, .ref (sa_ E w0))]) (st' := []) [(18, .iinc 2 1, 3, .int (1 : Int32)), (21, .goto (-11), 3, .null)] (by decide +kernel) rfl ?_
        cases hm
        refine aw_lv (lv' := [(0, .ref a), (1, .ref (sa_ E w0)), (2, .int (v2_b10 + (1 : Int32)))]) [1, 2, 0] rfl ?_
        exact ih10 (v2_b10 + (1 : Int32)) H23 h0 hs hk10
  refine aw_lv (lv' := [(0, .ref a), (1, .ref (sa_ E w0)), (2, .int (r1.1 0 10))]) [1, 2, 0] rfl ?_
  exact L10 FU_ (r1.1 0 10) H3 h0 hs hx10
def mX8_digits : mt_ := (yX8_digits, cX8_digits, 3, some .int, [], { frames := 2, locals := 46, cells := 0, slots := 0 })
theorem ckX8_digits : cokV_ mX8_digits := ⟨⟨(uw_mem 1556 (by decide +kernel) (by decide +kernel)), (uw_mem 112 (by decide +kernel) (by decide +kernel)), by decide +kernel, by decide +kernel⟩, (uw_mem 1555 (by decide +kernel) (by decide +kernel)), (uw_mem 36 (by decide +kernel) (by decide +kernel))⟩
theorem nkX8_digits : nok_ mX8_digits 0 := by decide +kernel
theorem lkX8_106 : Cond.methodLink RX8 106 yX8_isDigit ∈ uw_ := (uw_mem 1547 (by decide +kernel) (by decide +kernel))
theorem kwX8_109 : Cond.constantLong RX8 109 (100000000 : Int64) ∈ uw_ := (uw_mem 1557 (by decide +kernel) (by decide +kernel))
theorem kwX8_111 : Cond.constantLong RX8 111 (10 : Int64) ∈ uw_ := (uw_mem 1558 (by decide +kernel) (by decide +kernel))
theorem mtX8_113 : ml_ RX8 113 Lib.MathLoose.min_long.x Lib.MathLoose.min_long.code 4 .long := ⟨(uw_mem 1559 (by decide +kernel) (by decide +kernel)), (uw_mem 1560 (by decide +kernel) (by decide +kernel)), (uw_mem 113 (by decide +kernel) (by decide +kernel)), (uw_mem 1561 (by decide +kernel) (by decide +kernel))⟩
def fX8_digits_x2_52 (v1_x2_52 : Int64) (s_x2_52 : st_) : Option (st_ × Int32) :=
  some (s_x2_52, (Int64.toInt32 v1_x2_52))
def fX8_digits_k2 (x : Int64 × st_) : Option (st_ × Int32) :=
  fX8_digits_x2_52 x.1 x.2
def fX8_digits_b2 (v1_b2 : Int64) (s_b2 : st_) : Option ((Int64 × st_) ⊕ (Int64 × st_)) :=
  bn_ (fX8_isDigit s_b2 (s_b2 0 9)) fun r1 =>
  if r1 = (0 : Int32) then (some (.inr (v1_b2, s_b2)))
  else (bn_ (fX8_byteAt s_b2 (s_b2 0 9)) fun r5 =>
  bd_ (pt_ s_b2 0 9 ((s_b2 0 9) + (1 : Int32))) fun s9 =>
  some (.inl ((if ((((10 : Int64) * v1_b2) + (Int32.toInt64 r5)) - (48 : Int64)) < (100000000 : Int64) then ((((10 : Int64) * v1_b2) + (Int32.toInt64 r5)) - (48 : Int64)) else (100000000 : Int64)), s9)))
def fX8_digits_l2 : Nat → (Int64 × st_) → Option (Int64 × st_) :=
  it_ (fun v => fX8_digits_b2 v.1 v.2)
def fX8_digits (s : st_) : Option (st_ × Int32) :=
  bn_ (fX8_digits_l2 FU_ ((0 : Int64), s)) (fX8_digits_k2)
theorem kX8_digits {E : ev_} {H : Heap} {a : Nat} {s : st_} {r : st_ × Int32} (hm : fX8_digits s = some r) (h0 : has_ E H a ly_O s) (hf : ev_fr E a) : sp_ E mX8_digits [.ref a] H (po1 (.inl (some (.int r.2))) (fun Hn => sm_ H Hn a 10 ∧ has_ E Hn a ly_O r.1)) := by
  refine sp_of (by decide +kernel) rfl rfl ?_
  generalize hQ : po1 _ _ = Q
  have hs : sm_ H H a 10 := sm_.rfl'
  unfold fX8_digits at hm
  refine aw_lv (lv' := [(0, .ref a)]) [0] rfl ?_
  refine aw_b (pc' := 2) (lv' := [(1, .long (0 : Int64)), (0, .ref a)]) (st' := []) [(0, .lconst 0, 1, .long (0 : Int64)), (1, .lstore_n 1, 1, .null)] (by decide +kernel) rfl ?_
  obtain ⟨x2, hx2, hr2⟩ := bn_x hm
  have X2_52 : ∀ (v1_x2_52 : Int64) (s_x2_52 : st_) (H_x2_52 : Heap), has_ E H_x2_52 a ly_O s_x2_52 → sm_ H H_x2_52 a 10 → fX8_digits_x2_52 v1_x2_52 s_x2_52 = some r → aw E mX8_digits Q 52 [(1, .long v1_x2_52)] [] H_x2_52 0 0 := by
    intro v1_x2_52 s_x2_52 H_x2_52 h0 hs hm
    unfold fX8_digits_x2_52 at hm
    refine aw_b (pc' := 54) (lv' := [(1, .long v1_x2_52)]) (st' := [.int (Int64.toInt32 v1_x2_52)]) [(52, .lload_n 1, 1, .null), (53, .l2i, 1, .null)] (by decide +kernel) rfl ?_
    obtain rfl := Option.some.inj hm
    subst hQ
    exact aw_iret rfl (Nat.zero_le _) (Nat.zero_le _) (by decide +kernel) ⟨rfl, hs, h0⟩
  have L2 : ∀ (fu : Nat) (v1_b2 : Int64) (s_b2 : st_) (H_b2 : Heap), has_ E H_b2 a ly_O s_b2 → sm_ H H_b2 a 10 → fX8_digits_l2 fu (v1_b2, s_b2) = some x2 → aw E mX8_digits Q 2 [(0, .ref a), (1, .long v1_b2)] [] H_b2 0 0 := by
    intro fu
    induction fu with
    | zero =>
      intro v1_b2 s_b2 H_b2 h0 hs hm
      exact (it_0 hm).elim
    | succ fu ih2 =>
      intro v1_b2 s_b2 H_b2 h0 hs hm
      obtain ⟨y2, hm, hk2⟩ := it_s hm
      have hm : fX8_digits_b2 v1_b2 s_b2 = some y2 := hm
      unfold fX8_digits_b2 at hm
      refine aw_b (pc' := 4) (lv' := [(0, .ref a), (1, .long v1_b2)]) (st' := [.ref a, .ref a]) [(2, .aload_n 0, 1, .null), (3, .aload_n 0, 1, .null)] (by decide +kernel) rfl ?_
      refine aw_gl (v := .int (s_b2 0 9)) a 0 h0 eo_O_0 fgX8_78 rfl (by decide +kernel) ?_
      obtain ⟨r1, e2, hm⟩ := bn_x hm
      refine aw_cv (rest := []) (st1 := [.int r1]) a 0 (kX8_isDigit e2 h0) rfl rfl ckX8_isDigit lkX8_106 h0 eo_O_0 ⟨_, _, rfl⟩ nkX8_isDigit rfl rfl rfl (Nat.le_of_ble_eq_true rfl) (Nat.zero_le _) (Nat.zero_le _) (by decide +kernel) (fun H3 z4 => ?_)
      have h0 := h0.kept0 z4
      have hs := hs.step0 z4
      refine aw_if_eq (off := 42) 52 (by decide) (by decide +kernel) (fun hc => ?_) (fun hc => ?_)
      · have hm := (if_pos hc).symm.trans hm
        cases hm
        refine aw_lv (lv' := [(1, .long v1_b2)]) [1] rfl ?_
        exact X2_52 v1_b2 s_b2 H3 h0 hs ((congrArg fX8_digits_k2 (show ((v1_b2, s_b2)) = x2 from hk2)).trans hr2)
      · have hm := (if_neg hc).symm.trans hm
        refine aw_ldc2 (v := (100000000 : Int64)) kwX8_109 (by decide +kernel) ?_
        refine aw_ldc2 (v := (10 : Int64)) kwX8_111 (by decide +kernel) ?_
        refine aw_b (pc' := 23) (lv' := [(0, .ref a), (1, .long v1_b2)]) (st' := [.ref a, .ref a, .long ((10 : Int64) * v1_b2), .long (100000000 : Int64)]) [(19, .lload_n 1, 1, .null), (20, .lmul, 1, .null), (21, .aload_n 0, 1, .null), (22, .aload_n 0, 1, .null)] (by decide +kernel) rfl ?_
        refine aw_gl (v := .int (s_b2 0 9)) a 0 h0 eo_O_0 fgX8_78 rfl (by decide +kernel) ?_
        obtain ⟨r5, e6, hm⟩ := bn_x hm
        refine aw_cv (rest := [.long ((10 : Int64) * v1_b2), .long (100000000 : Int64)]) (st1 := [.int r5, .long ((10 : Int64) * v1_b2), .long (100000000 : Int64)]) a 0 (kX8_byteAt e6 h0) rfl rfl ckX8_byteAt lkX8_62 h0 eo_O_0 ⟨_, _, rfl⟩ nkX8_byteAt rfl rfl rfl (Nat.le_of_ble_eq_true rfl) (Nat.zero_le _) (Nat.zero_le _) (by decide +kernel) (fun H7 z8 => ?_)
        have h0 := h0.kept0 z8
        have hs := hs.step0 z8
        refine aw_b (pc' := 31) (lv' := [(0, .ref a), (1, .long v1_b2)]) (st' := [.long (((10 : Int64) * v1_b2) + (Int32.toInt64 r5)), .long (100000000 : Int64)]) [(29, .i2l, 1, .null), (30, .ladd, 1, .null)] (by decide +kernel) rfl ?_
        refine aw_ldc2 (v := (48 : Int64)) kwX8_74 (by decide +kernel) ?_
        refine aw_b (pc' := 35) (lv' := [(0, .ref a), (1, .long v1_b2)]) (st' := [.long ((((10 : Int64) * v1_b2) + (Int32.toInt64 r5)) - (48 : Int64)), .long (100000000 : Int64)]) [(34, .lsub, 1, .null)] (by decide +kernel) rfl ?_
        refine aw_mnl (rest := []) mtX8_113 rfl (Nat.le_of_ble_eq_true rfl) (Nat.zero_le _) (Nat.zero_le _) (by decide +kernel) ?_
        refine aw_b (pc' := 41) (lv' := [(1, .long (if ((((10 : Int64) * v1_b2) + (Int32.toInt64 r5)) - (48 : Int64)) < (100000000 : Int64) then ((((10 : Int64) * v1_b2) + (Int32.toInt64 r5)) - (48 : Int64)) else (100000000 : Int64))), (0, .ref a)]) (st' := [.ref a, .ref a]) [(38, .lstore_n 1, 1, .null), (39, .aload_n 0, 1, .null), (40, .dup, 1, .null)] (by decide +kernel) rfl ?_
        refine aw_gl (v := .int (s_b2 0 9)) a 0 h0 eo_O_0 fgX8_78 rfl (by decide +kernel) ?_
        refine aw_b (pc' := 46) (lv' := [(1, .long (if ((((10 : Int64) * v1_b2) + (Int32.toInt64 r5)) - (48 : Int64)) < (100000000 : Int64) then ((((10 : Int64) * v1_b2) + (Int32.toInt64 r5)) - (48 : Int64)) else (100000000 : Int64))), (0, .ref a)]) (st' := [.int ((s_b2 0 9) + (1 : Int32)), .ref a]) [(44, .iconst 1, 1, .int (1 : Int32)), (45, .iadd, 1, .null)] (by decide +kernel) rfl ?_
        obtain ⟨s9, e10, hm⟩ := bd_x hm
        refine aw_pl a 0 h0 eo_O_0 fsq_8_9 fpX8_78 hf rfl rfl e10 (by decide +kernel) (fun H11 h0 z12 => ?_)
        have hs := hs.step z12 (by omega) (by omega)
        refine aw_b (pc' := 2) (lv' := [(1, .long (if ((((10 : Int64) * v1_b2) + (Int32.toInt64 r5)) - (48 : Int64)) < (100000000 : Int64) then ((((10 : Int64) * v1_b2) + (Int32.toInt64 r5)) - (48 : Int64)) else (100000000 : Int64))), (0, .ref a)]) (st' := []) [(49, .goto (-47), 3, .null)] (by decide +kernel) rfl ?_
        cases hm
        refine aw_lv (lv' := [(0, .ref a), (1, .long (if ((((10 : Int64) * v1_b2) + (Int32.toInt64 r5)) - (48 : Int64)) < (100000000 : Int64) then ((((10 : Int64) * v1_b2) + (Int32.toInt64 r5)) - (48 : Int64)) else (100000000 : Int64)))]) [1, 0] rfl ?_
        exact ih2 (if ((((10 : Int64) * v1_b2) + (Int32.toInt64 r5)) - (48 : Int64)) < (100000000 : Int64) then ((((10 : Int64) * v1_b2) + (Int32.toInt64 r5)) - (48 : Int64)) else (100000000 : Int64)) s9 H11 h0 hs hk2
  refine aw_lv (lv' := [(0, .ref a), (1, .long (0 : Int64))]) [1, 0] rfl ?_
  exact L2 FU_ (0 : Int64) s H h0 hs hx2
def mX8_into : mt_ := (yX8_into, cX8_into, 4, some .boolean, [], { frames := 3, locals := 68, cells := 0, slots := 0 })
theorem ckX8_into : cokV_ mX8_into := ⟨⟨(uw_mem 1546 (by decide +kernel) (by decide +kernel)), (uw_mem 112 (by decide +kernel) (by decide +kernel)), by decide +kernel, by decide +kernel⟩, (uw_mem 1545 (by decide +kernel) (by decide +kernel)), (uw_mem 34 (by decide +kernel) (by decide +kernel))⟩
theorem nkX8_into : nok_ mX8_into 3 := by decide +kernel
theorem lkX8_122 : Cond.methodLink RX8 122 yX8_digits ∈ uw_ := (uw_mem 1553 (by decide +kernel) (by decide +kernel))
theorem fpX8_125 : fpk_ RX8 125 8 14 .int := ⟨_, _, _, tyX8, rfl, by decide, (uw_mem 1449 (by decide +kernel) (by decide +kernel)), wkX8, tyX8_ok, nmX8, rfl, by decide +kernel⟩
theorem fsq_8_14 : fsp_ fsX8 14 := ⟨fun _ _ => rfl, fun _ _ _ => rfl⟩
theorem fgX8_16 : fok_ RX8 16 8 2 := ⟨_, _, _, rfl, by decide, (uw_mem 1437 (by decide +kernel) (by decide +kernel)), wkX8⟩
theorem fgX8_125 : fok_ RX8 125 8 14 := ⟨_, _, _, rfl, by decide, (uw_mem 1449 (by decide +kernel) (by decide +kernel)), wkX8⟩
theorem lkX8_119 : Cond.methodLink RX8 119 yX8_fails ∈ uw_ := (uw_mem 1539 (by decide +kernel) (by decide +kernel))
def fX8_into_j63 (s_j63 : st_) : Option (st_ × Int32) :=
  some (s_j63, (1 : Int32))
def fX8_into (s : st_) (i0 : Int32) (i1 : Int32) (i2 : Int32) : Option (st_ × Int32) :=
  bn_ (fX8_see s) fun r1 =>
  bn_ (fX8_isDigit r1.1 (r1.1 0 9)) fun r5 =>
  if r5 = (0 : Int32) then (bn_ (fX8_fails r1.1 (1 : Int32)) fun r30 =>
  gd_ (bz_ r30.2) <|
  some (r30.1, r30.2))
  else (bn_ (fX8_digits r1.1) fun r9 =>
  bd_ (pt_ r9.1 0 14 r9.2) fun s13 =>
  gd_ (ib_ i0 12584) <|
  bd_ (pt_ s13 3 (ix_ i0) (s13 0 14)) fun s18 =>
  bn_ (fX8_in (Int32.toInt64 (s18 0 14)) (Int32.toInt64 i1) (Int32.toInt64 i2)) fun r22 =>
  if r22 = (0 : Int32) then (bn_ (fX8_fails s18 (2 : Int32)) fun r26 =>
  if r26.2 = (0 : Int32) then (some (r26.1, (0 : Int32)))
  else (fX8_into_j63 r26.1))
  else (fX8_into_j63 s18))
theorem kX8_into {E : ev_} {H : Heap} {a : Nat} {s : st_} {i0 : Int32} {i1 : Int32} {i2 : Int32} {r : st_ × Int32} (hm : fX8_into s i0 i1 i2 = some r) (h0 : has_ E H a ly_O s) (hf : ev_fr E a) : sp_ E mX8_into [.ref a, .int i0, .int i1, .int i2] H (po1 (.inl (some (.int r.2))) (fun Hn => sm_ H Hn a 10 ∧ has_ E Hn a ly_O r.1)) := by
  refine sp_of (by decide +kernel) rfl rfl ?_
  generalize hQ : po1 _ _ = Q
  have hs : sm_ H H a 10 := sm_.rfl'
  unfold fX8_into at hm
  refine aw_lv (lv' := [(0, .ref a), (1, .int i0), (2, .int i1), (3, .int i2)]) [0, 1, 2, 3] rfl ?_
  refine aw_b (pc' := 1) (lv' := [(0, .ref a), (1, .int i0), (2, .int i1), (3, .int i2)]) (st' := [.ref a]) [(0, .aload_n 0, 1, .null)] (by decide +kernel) rfl ?_
  obtain ⟨r1, e2, hm⟩ := bn_x hm
  refine aw_cv (rest := []) (st1 := [.int r1.2]) a 0 (kX8_see e2 h0 hf) rfl rfl ckX8_see lkX8_90 h0 eo_O_0 ⟨_, _, rfl⟩ nkX8_see rfl rfl rfl (Nat.le_of_ble_eq_true rfl) (Nat.zero_le _) (Nat.zero_le _) (by decide +kernel) (fun H3 z4 => ?_)
  obtain ⟨z4, hn⟩ := z4
  have h0 := hn
  have hs := hs.step z4 (by omega) (by omega)
  refine aw_b (pc' := 7) (lv' := [(0, .ref a), (1, .int i0), (2, .int i1), (3, .int i2)]) (st' := [.ref a, .ref a]) [(4, .pop, 1, .null), (5, .aload_n 0, 1, .null), (6, .aload_n 0, 1, .null)] (by decide +kernel) rfl ?_
  refine aw_gl (v := .int (r1.1 0 9)) a 0 h0 eo_O_0 fgX8_78 rfl (by decide +kernel) ?_
  obtain ⟨r5, e6, hm⟩ := bn_x hm
  refine aw_cv (rest := []) (st1 := [.int r5]) a 0 (kX8_isDigit e6 h0) rfl rfl ckX8_isDigit lkX8_106 h0 eo_O_0 ⟨_, _, rfl⟩ nkX8_isDigit rfl rfl rfl (Nat.le_of_ble_eq_true rfl) (Nat.zero_le _) (Nat.zero_le _) (by decide +kernel) (fun H7 z8 => ?_)
  have h0 := h0.kept0 z8
  have hs := hs.step0 z8
  refine aw_if_ne (off := 9) 22 (by decide) (by decide +kernel) (fun hc => ?_) (fun hc => ?_)
  · have hm := (if_neg hc).symm.trans hm
    refine aw_b (pc' := 24) (lv' := [(0, .ref a), (1, .int i0), (2, .int i1), (3, .int i2)]) (st' := [.ref a, .ref a]) [(22, .aload_n 0, 1, .null), (23, .aload_n 0, 1, .null)] (by decide +kernel) rfl ?_
    obtain ⟨r9, e10, hm⟩ := bn_x hm
    refine aw_cv (rest := [.ref a]) (st1 := [.int r9.2, .ref a]) a 0 (kX8_digits e10 h0 hf) rfl rfl ckX8_digits lkX8_122 h0 eo_O_0 ⟨_, _, rfl⟩ nkX8_digits rfl rfl rfl (Nat.le_of_ble_eq_true rfl) (Nat.zero_le _) (Nat.zero_le _) (by decide +kernel) (fun H11 z12 => ?_)
    obtain ⟨z12, hn⟩ := z12
    have h0 := hn
    have hs := hs.step z12 (by omega) (by omega)
    obtain ⟨s13, e14, hm⟩ := bd_x hm
    refine aw_pl a 0 h0 eo_O_0 fsq_8_14 fpX8_125 hf rfl rfl e14 (by decide +kernel) (fun H15 h0 z16 => ?_)
    have hs := hs.step z16 (by omega) (by omega)
    refine aw_b (pc' := 31) (lv' := [(0, .ref a), (1, .int i0), (2, .int i1), (3, .int i2)]) (st' := [.ref a]) [(30, .aload_n 0, 1, .null)] (by decide +kernel) rfl ?_
    refine aw_gl (v := .ref (a + 3)) a 0 h0 eo_O_0 fgX8_16 rfl (by decide +kernel) ?_
    refine aw_b (pc' := 36) (lv' := [(0, .ref a), (1, .int i0), (2, .int i1), (3, .int i2)]) (st' := [.ref a, .int i0, .ref (a + 3)]) [(34, .iload_n 1, 1, .null), (35, .aload_n 0, 1, .null)] (by decide +kernel) rfl ?_
    refine aw_gl (v := .int (s13 0 14)) a 0 h0 eo_O_0 fgX8_125 rfl (by decide +kernel) ?_
    obtain ⟨g17, hm⟩ := gd_x hm
    obtain ⟨s18, e19, hm⟩ := bd_x hm
    refine aw_isl a 3 h0 rfl hf g17 e19 (by decide +kernel) (fun H20 h0 z21 => ?_)
    have hs := hs.step z21 (by omega) (by omega)
    refine aw_b (pc' := 41) (lv' := [(0, .ref a), (1, .int i0), (2, .int i1), (3, .int i2)]) (st' := [.ref a]) [(40, .aload_n 0, 1, .null)] (by decide +kernel) rfl ?_
    refine aw_gl (v := .int (s18 0 14)) a 0 h0 eo_O_0 fgX8_125 rfl (by decide +kernel) ?_
    refine aw_b (pc' := 49) (lv' := [(0, .ref a), (1, .int i0), (2, .int i1), (3, .int i2)]) (st' := [.long (Int32.toInt64 i2), .long (Int32.toInt64 i1), .long (Int32.toInt64 (s18 0 14))]) [(44, .i2l, 1, .null), (45, .iload_n 2, 1, .null), (46, .i2l, 1, .null), (47, .iload_n 3, 1, .null), (48, .i2l, 1, .null)] (by decide +kernel) rfl ?_
    obtain ⟨r22, e23, hm⟩ := bn_x hm
    refine aw_cs (rest := []) (st1 := [.int r22]) (kX8_in e23) rfl rfl ckX8_in lkX8_70 nkX8_in rfl rfl rfl (Nat.le_of_ble_eq_true rfl) (Nat.zero_le _) (Nat.zero_le _) (by decide +kernel) (fun H24 z25 => ?_)
    have h0 := h0.kept0 z25
    have hs := hs.step0 z25
    have J63 : ∀ (s_j63 : st_) (H_j63 : Heap), has_ E H_j63 a ly_O s_j63 → sm_ H H_j63 a 10 → fX8_into_j63 s_j63 = some r → aw E mX8_into Q 63 [] [] H_j63 0 0 := by
      intro s_j63 H_j63 h0 hs hm
      unfold fX8_into_j63 at hm
      refine aw_b (pc' := 68) (lv' := []) (st' := [.int (1 : Int32)]) [(63, .iconst 1, 1, .int (1 : Int32)), (64, .goto 4, 3, .null)] (by decide +kernel) rfl ?_
      obtain rfl := Option.some.inj hm
      subst hQ
      exact aw_zret rfl (by decide +kernel) (Nat.zero_le _) (Nat.zero_le _) (by decide +kernel) ⟨rfl, hs, h0⟩
    refine aw_if_ne (off := 11) 63 (by decide) (by decide +kernel) (fun hc => ?_) (fun hc => ?_)
    · have hm := (if_neg hc).symm.trans hm
      refine aw_lv (lv' := []) [] rfl ?_
      exact J63 s18 H24 h0 hs hm
    · have hm := (if_pos hc).symm.trans hm
      refine aw_b (pc' := 57) (lv' := [(0, .ref a), (1, .int i0), (2, .int i1), (3, .int i2)]) (st' := [.int (2 : Int32), .ref a]) [(55, .aload_n 0, 1, .null), (56, .iconst 2, 1, .int (2 : Int32))] (by decide +kernel) rfl ?_
      obtain ⟨r26, e27, hm⟩ := bn_x hm
      refine aw_cv (rest := []) (st1 := [.int r26.2]) a 0 (kX8_fails e27 h0 hf) rfl rfl ckX8_fails lkX8_119 h0 eo_O_0 ⟨_, _, rfl⟩ nkX8_fails rfl rfl rfl (Nat.le_of_ble_eq_true rfl) (Nat.zero_le _) (Nat.zero_le _) (by decide +kernel) (fun H28 z29 => ?_)
      obtain ⟨z29, hn⟩ := z29
      have h0 := hn
      have hs := hs.step z29 (by omega) (by omega)
      refine aw_if_eq (off := 7) 67 (by decide) (by decide +kernel) (fun hc => ?_) (fun hc => ?_)
      · have hm := (if_pos hc).symm.trans hm
        refine aw_b (pc' := 68) (lv' := [(0, .ref a), (1, .int i0), (2, .int i1), (3, .int i2)]) (st' := [.int (0 : Int32)]) [(67, .iconst 0, 1, .int (0 : Int32))] (by decide +kernel) rfl ?_
        obtain rfl := Option.some.inj hm
        subst hQ
        exact aw_zret rfl (by decide +kernel) (Nat.zero_le _) (Nat.zero_le _) (by decide +kernel) ⟨rfl, hs, h0⟩
      · have hm := (if_neg hc).symm.trans hm
        refine aw_lv (lv' := []) [] rfl ?_
        exact J63 r26.1 H28 h0 hs hm
  · have hm := (if_pos hc).symm.trans hm
    refine aw_b (pc' := 18) (lv' := [(0, .ref a), (1, .int i0), (2, .int i1), (3, .int i2)]) (st' := [.int (1 : Int32), .ref a]) [(16, .aload_n 0, 1, .null), (17, .iconst 1, 1, .int (1 : Int32))] (by decide +kernel) rfl ?_
    obtain ⟨r30, e31, hm⟩ := bn_x hm
    refine aw_cv (rest := []) (st1 := [.int r30.2]) a 0 (kX8_fails e31 h0 hf) rfl rfl ckX8_fails lkX8_119 h0 eo_O_0 ⟨_, _, rfl⟩ nkX8_fails rfl rfl rfl (Nat.le_of_ble_eq_true rfl) (Nat.zero_le _) (Nat.zero_le _) (by decide +kernel) (fun H32 z33 => ?_)
    obtain ⟨z33, hn⟩ := z33
    have h0 := hn
    have hs := hs.step z33 (by omega) (by omega)
    obtain ⟨g34, hm⟩ := gd_x hm
    obtain rfl := Option.some.inj hm
    subst hQ
    exact aw_zret rfl (bz_n g34) (Nat.zero_le _) (Nat.zero_le _) (by decide +kernel) ⟨rfl, hs, h0⟩
def mX8_isRoom : mt_ := (yX8_isRoom, cX8_isRoom, 4, some .boolean, [], { frames := 1, locals := 21, cells := 0, slots := 0 })
theorem ckX8_isRoom : cokV_ mX8_isRoom := ⟨⟨(uw_mem 1575 (by decide +kernel) (by decide +kernel)), (uw_mem 112 (by decide +kernel) (by decide +kernel)), by decide +kernel, by decide +kernel⟩, (uw_mem 1574 (by decide +kernel) (by decide +kernel)), (uw_mem 39 (by decide +kernel) (by decide +kernel))⟩
theorem nkX8_isRoom : nok_ mX8_isRoom 3 := by decide +kernel
def fX8_isRoom_j23 (s_j23 : st_) : Option (st_ × Int32) :=
  some (s_j23, (1 : Int32))
def fX8_isRoom (s : st_) (i0 : Int32) (i1 : Int32) (i2 : Int32) : Option (st_ × Int32) :=
  bd_ (pt_ s 0 10 i0) fun s1 =>
  gd_ (ib_ i1 12584) <|
  if (s1 3 (ix_ i1)) < i2 then (fX8_isRoom_j23 s1)
  else (bn_ (fX8_fails s1 (3 : Int32)) fun r6 =>
  if r6.2 = (0 : Int32) then (some (r6.1, (0 : Int32)))
  else (fX8_isRoom_j23 r6.1))
theorem kX8_isRoom {E : ev_} {H : Heap} {a : Nat} {s : st_} {i0 : Int32} {i1 : Int32} {i2 : Int32} {r : st_ × Int32} (hm : fX8_isRoom s i0 i1 i2 = some r) (h0 : has_ E H a ly_O s) (hf : ev_fr E a) : sp_ E mX8_isRoom [.ref a, .int i0, .int i1, .int i2] H (po1 (.inl (some (.int r.2))) (fun Hn => sm_ H Hn a 10 ∧ has_ E Hn a ly_O r.1)) := by
  refine sp_of (by decide +kernel) rfl rfl ?_
  generalize hQ : po1 _ _ = Q
  have hs : sm_ H H a 10 := sm_.rfl'
  unfold fX8_isRoom at hm
  refine aw_lv (lv' := [(0, .ref a), (1, .int i0), (2, .int i1), (3, .int i2)]) [0, 1, 2, 3] rfl ?_
  refine aw_b (pc' := 2) (lv' := [(0, .ref a), (1, .int i0), (2, .int i1), (3, .int i2)]) (st' := [.int i0, .ref a]) [(0, .aload_n 0, 1, .null), (1, .iload_n 1, 1, .null)] (by decide +kernel) rfl ?_
  obtain ⟨s1, e2, hm⟩ := bd_x hm
  refine aw_pl a 0 h0 eo_O_0 fsq_8_10 fpX8_81 hf rfl rfl e2 (by decide +kernel) (fun H3 h0 z4 => ?_)
  have hs := hs.step z4 (by omega) (by omega)
  refine aw_b (pc' := 6) (lv' := [(0, .ref a), (1, .int i0), (2, .int i1), (3, .int i2)]) (st' := [.ref a]) [(5, .aload_n 0, 1, .null)] (by decide +kernel) rfl ?_
  refine aw_gl (v := .ref (a + 3)) a 0 h0 eo_O_0 fgX8_16 rfl (by decide +kernel) ?_
  refine aw_b (pc' := 10) (lv' := [(0, .ref a), (1, .int i0), (2, .int i1), (3, .int i2)]) (st' := [.int i1, .ref (a + 3)]) [(9, .iload_n 2, 1, .null)] (by decide +kernel) rfl ?_
  obtain ⟨g5, hm⟩ := gd_x hm
  refine aw_ial a 3 h0 rfl g5 (by decide +kernel) ?_
  refine aw_b (pc' := 12) (lv' := [(0, .ref a), (1, .int i0), (2, .int i1), (3, .int i2)]) (st' := [.int i2, .int (s1 3 (ix_ i1))]) [(11, .iload_n 3, 1, .null)] (by decide +kernel) rfl ?_
  have J23 : ∀ (s_j23 : st_) (H_j23 : Heap), has_ E H_j23 a ly_O s_j23 → sm_ H H_j23 a 10 → fX8_isRoom_j23 s_j23 = some r → aw E mX8_isRoom Q 23 [] [] H_j23 0 0 := by
    intro s_j23 H_j23 h0 hs hm
    unfold fX8_isRoom_j23 at hm
    refine aw_b (pc' := 28) (lv' := []) (st' := [.int (1 : Int32)]) [(23, .iconst 1, 1, .int (1 : Int32)), (24, .goto 4, 3, .null)] (by decide +kernel) rfl ?_
    obtain rfl := Option.some.inj hm
    subst hQ
    exact aw_zret rfl (by decide +kernel) (Nat.zero_le _) (Nat.zero_le _) (by decide +kernel) ⟨rfl, hs, h0⟩
  refine aw_ic_lt (off := 11) 23 (by decide) (by decide +kernel) (fun hc => ?_) (fun hc => ?_)
  · have hm := (if_pos hc).symm.trans hm
    refine aw_lv (lv' := []) [] rfl ?_
    exact J23 s1 H3 h0 hs hm
  · have hm := (if_neg hc).symm.trans hm
    refine aw_b (pc' := 17) (lv' := [(0, .ref a), (1, .int i0), (2, .int i1), (3, .int i2)]) (st' := [.int (3 : Int32), .ref a]) [(15, .aload_n 0, 1, .null), (16, .iconst 3, 1, .int (3 : Int32))] (by decide +kernel) rfl ?_
    obtain ⟨r6, e7, hm⟩ := bn_x hm
    refine aw_cv (rest := []) (st1 := [.int r6.2]) a 0 (kX8_fails e7 h0 hf) rfl rfl ckX8_fails lkX8_119 h0 eo_O_0 ⟨_, _, rfl⟩ nkX8_fails rfl rfl rfl (Nat.le_of_ble_eq_true rfl) (Nat.zero_le _) (Nat.zero_le _) (by decide +kernel) (fun H8 z9 => ?_)
    obtain ⟨z9, hn⟩ := z9
    have h0 := hn
    have hs := hs.step z9 (by omega) (by omega)
    refine aw_if_eq (off := 7) 27 (by decide) (by decide +kernel) (fun hc => ?_) (fun hc => ?_)
    · have hm := (if_pos hc).symm.trans hm
      refine aw_b (pc' := 28) (lv' := [(0, .ref a), (1, .int i0), (2, .int i1), (3, .int i2)]) (st' := [.int (0 : Int32)]) [(27, .iconst 0, 1, .int (0 : Int32))] (by decide +kernel) rfl ?_
      obtain rfl := Option.some.inj hm
      subst hQ
      exact aw_zret rfl (by decide +kernel) (Nat.zero_le _) (Nat.zero_le _) (by decide +kernel) ⟨rfl, hs, h0⟩
    · have hm := (if_neg hc).symm.trans hm
      refine aw_lv (lv' := []) [] rfl ?_
      exact J23 r6.1 H8 h0 hs hm
def mX8_is : mt_ := (yX8_is, cX8_is, 3, some .boolean, [], { frames := 0, locals := 0, cells := 0, slots := 0 })
theorem ckX8_is : cokV_ mX8_is := ⟨⟨(uw_mem 1590 (by decide +kernel) (by decide +kernel)), (uw_mem 112 (by decide +kernel) (by decide +kernel)), by decide +kernel, by decide +kernel⟩, (uw_mem 1589 (by decide +kernel) (by decide +kernel)), (uw_mem 41 (by decide +kernel) (by decide +kernel))⟩
theorem nkX8_is : nok_ mX8_is 2 := by decide +kernel
def fX8_is (s : st_) (i0 : Int32) (i1 : Int32) : Option (st_ × Int32) :=
  gd_ (ib_ i0 12584) <|
  bd_ (pt_ s 3 (ix_ i0) i1) fun s2 =>
  some (s2, (1 : Int32))
theorem kX8_is {E : ev_} {H : Heap} {a : Nat} {s : st_} {i0 : Int32} {i1 : Int32} {r : st_ × Int32} (hm : fX8_is s i0 i1 = some r) (h0 : has_ E H a ly_O s) (hf : ev_fr E a) : sp_ E mX8_is [.ref a, .int i0, .int i1] H (po1 (.inl (some (.int r.2))) (fun Hn => sm_ H Hn a 10 ∧ has_ E Hn a ly_O r.1)) := by
  refine sp_of (by decide +kernel) rfl rfl ?_
  generalize hQ : po1 _ _ = Q
  have hs : sm_ H H a 10 := sm_.rfl'
  unfold fX8_is at hm
  refine aw_lv (lv' := [(0, .ref a), (1, .int i0), (2, .int i1)]) [0, 1, 2] rfl ?_
  refine aw_b (pc' := 1) (lv' := [(0, .ref a), (1, .int i0), (2, .int i1)]) (st' := [.ref a]) [(0, .aload_n 0, 1, .null)] (by decide +kernel) rfl ?_
  refine aw_gl (v := .ref (a + 3)) a 0 h0 eo_O_0 fgX8_16 rfl (by decide +kernel) ?_
  refine aw_b (pc' := 6) (lv' := [(0, .ref a), (1, .int i0), (2, .int i1)]) (st' := [.int i1, .int i0, .ref (a + 3)]) [(4, .iload_n 1, 1, .null), (5, .iload_n 2, 1, .null)] (by decide +kernel) rfl ?_
  obtain ⟨g1, hm⟩ := gd_x hm
  obtain ⟨s2, e3, hm⟩ := bd_x hm
  refine aw_isl a 3 h0 rfl hf g1 e3 (by decide +kernel) (fun H4 h0 z5 => ?_)
  have hs := hs.step z5 (by omega) (by omega)
  refine aw_b (pc' := 8) (lv' := [(0, .ref a), (1, .int i0), (2, .int i1)]) (st' := [.int (1 : Int32)]) [(7, .iconst 1, 1, .int (1 : Int32))] (by decide +kernel) rfl ?_
  obtain rfl := Option.some.inj hm
  subst hQ
  exact aw_zret rfl (by decide +kernel) (Nat.zero_le _) (Nat.zero_le _) (by decide +kernel) ⟨rfl, hs, h0⟩
def mX8_readRule : mt_ := (yX8_readRule, cX8_readRule, 4, some .boolean, [], { frames := 7, locals := 184, cells := 0, slots := 0 })
theorem ckX8_readRule : cokV_ mX8_readRule := ⟨⟨(uw_mem 1571 (by decide +kernel) (by decide +kernel)), (uw_mem 112 (by decide +kernel) (by decide +kernel)), by decide +kernel, by decide +kernel⟩, (uw_mem 1570 (by decide +kernel) (by decide +kernel)), (uw_mem 38 (by decide +kernel) (by decide +kernel))⟩
theorem nkX8_readRule : nok_ mX8_readRule 1 := by decide +kernel
theorem lkX8_128 : Cond.methodLink RX8 128 yX8_isRoom ∈ uw_ := (uw_mem 1572 (by decide +kernel) (by decide +kernel))
theorem lkX8_134 : Cond.methodLink RX8 134 yX8_takes ∈ uw_ := (uw_mem 1516 (by decide +kernel) (by decide +kernel))
theorem lkX8_146 : Cond.methodLink RX8 146 yX8_into ∈ uw_ := (uw_mem 1543 (by decide +kernel) (by decide +kernel))
def fX8_readRule_j141 (s_j141 : st_) : Option (st_ × Int32) :=
  gd_ (ib_ (4 : Int32) 12584) <|
  gd_ (ib_ (4 : Int32) 12584) <|
  bd_ (pt_ s_j141 3 (ix_ (4 : Int32)) ((s_j141 3 (ix_ (4 : Int32))) + (1 : Int32))) fun s22 =>
  some (s22, (1 : Int32))
def fX8_readRule_j91 (r1 : st_ × Int32) (z0_j91 : Int32) (s_j91 : st_) : Option (st_ × Int32) :=
  if z0_j91 = (-1 : Int32) then (bn_ (fX8_fails s_j91 (1 : Int32)) fun r30 =>
  gd_ (bz_ r30.2) <|
  some (r30.1, r30.2))
  else (gd_ (ib_ (((26 : Int32) + ((5 : Int32) * (r1.1 3 (ix_ (4 : Int32))))) + (0 : Int32)) 12584) <|
  bd_ (pt_ s_j91 3 (ix_ (((26 : Int32) + ((5 : Int32) * (r1.1 3 (ix_ (4 : Int32))))) + (0 : Int32))) z0_j91) fun s11 =>
  gd_ (ib_ (((26 : Int32) + ((5 : Int32) * (r1.1 3 (ix_ (4 : Int32))))) + (1 : Int32)) 12584) <|
  bd_ (pt_ s11 3 (ix_ (((26 : Int32) + ((5 : Int32) * (r1.1 3 (ix_ (4 : Int32))))) + (1 : Int32))) (-1 : Int32)) fun s16 =>
  if z0_j91 = (4 : Int32) then (bn_ (fX8_into s16 (((26 : Int32) + ((5 : Int32) * (r1.1 3 (ix_ (4 : Int32))))) + (1 : Int32)) (0 : Int32) (99 : Int32)) fun r26 =>
  if r26.2 = (0 : Int32) then (some (r26.1, (0 : Int32)))
  else (fX8_readRule_j141 r26.1))
  else (fX8_readRule_j141 s16))
def fX8_readRule (s : st_) (i0 : Int32) : Option (st_ × Int32) :=
  bn_ (fX8_isRoom s i0 (4 : Int32) (6 : Int32)) fun r1 =>
  if r1.2 = (0 : Int32) then (some (r1.1, (0 : Int32)))
  else (gd_ (ib_ (4 : Int32) 12584) <|
  bn_ (fX8_takes r1.1 16) fun r6 =>
  if r6.2 = (0 : Int32) then (bn_ (fX8_takes r6.1 17) fun r35 =>
  if r35.2 = (0 : Int32) then (bn_ (fX8_takes r35.1 18) fun r39 =>
  if r39.2 = (0 : Int32) then (bn_ (fX8_takes r39.1 19) fun r43 =>
  if r43.2 = (0 : Int32) then (bn_ (fX8_takes r43.1 20) fun r47 =>
  if r47.2 = (0 : Int32) then (fX8_readRule_j91 r1 (-1 : Int32) r47.1)
  else (fX8_readRule_j91 r1 (4 : Int32) r47.1))
  else (fX8_readRule_j91 r1 (3 : Int32) r43.1))
  else (fX8_readRule_j91 r1 (2 : Int32) r39.1))
  else (fX8_readRule_j91 r1 (1 : Int32) r35.1))
  else (fX8_readRule_j91 r1 (0 : Int32) r6.1))
theorem kX8_readRule {E : ev_} {H : Heap} {a : Nat} {s : st_} {i0 : Int32} {r : st_ × Int32} (hm : fX8_readRule s i0 = some r) (h0 : has_ E H a ly_O s) (hf : ev_fr E a) : sp_ E mX8_readRule [.ref a, .int i0] H (po1 (.inl (some (.int r.2))) (fun Hn => sm_ H Hn a 10 ∧ has_ E Hn a ly_O r.1)) := by
  refine sp_of (by decide +kernel) rfl rfl ?_
  generalize hQ : po1 _ _ = Q
  have hs : sm_ H H a 10 := sm_.rfl'
  unfold fX8_readRule at hm
  refine aw_lv (lv' := [(0, .ref a), (1, .int i0)]) [0, 1] rfl ?_
  refine aw_b (pc' := 5) (lv' := [(0, .ref a), (1, .int i0)]) (st' := [.int (6 : Int32), .int (4 : Int32), .int i0, .ref a]) [(0, .aload_n 0, 1, .null), (1, .iload_n 1, 1, .null), (2, .iconst 4, 1, .int (4 : Int32)), (3, .bipush 6, 2, .int (6 : Int32))] (by decide +kernel) rfl ?_
  obtain ⟨r1, e2, hm⟩ := bn_x hm
  refine aw_cv (rest := []) (st1 := [.int r1.2]) a 0 (kX8_isRoom e2 h0 hf) rfl rfl ckX8_isRoom lkX8_128 h0 eo_O_0 ⟨_, _, rfl⟩ nkX8_isRoom rfl rfl rfl (Nat.le_of_ble_eq_true rfl) (Nat.zero_le _) (Nat.zero_le _) (by decide +kernel) (fun H3 z4 => ?_)
  obtain ⟨z4, hn⟩ := z4
  have h0 := hn
  have hs := hs.step z4 (by omega) (by omega)
  refine aw_if_ne (off := 5) 13 (by decide) (by decide +kernel) (fun hc => ?_) (fun hc => ?_)
  · have hm := (if_neg hc).symm.trans hm
    refine aw_b (pc' := 17) (lv' := [(0, .ref a), (1, .int i0)]) (st' := [.ref a, .int (5 : Int32), .int (26 : Int32)]) [(13, .bipush 26, 2, .int (26 : Int32)), (15, .iconst 5, 1, .int (5 : Int32)), (16, .aload_n 0, 1, .null)] (by decide +kernel) rfl ?_
    refine aw_gl (v := .ref (a + 3)) a 0 h0 eo_O_0 fgX8_16 rfl (by decide +kernel) ?_
    refine aw_b (pc' := 21) (lv' := [(0, .ref a), (1, .int i0)]) (st' := [.int (4 : Int32), .ref (a + 3), .int (5 : Int32), .int (26 : Int32)]) [(20, .iconst 4, 1, .int (4 : Int32))] (by decide +kernel) rfl ?_
    obtain ⟨g5, hm⟩ := gd_x hm
    refine aw_ial a 3 h0 rfl g5 (by decide +kernel) ?_
    refine aw_b (pc' := 26) (lv' := [(2, .int ((26 : Int32) + ((5 : Int32) * (r1.1 3 (ix_ (4 : Int32)))))), (0, .ref a), (1, .int i0)]) (st' := [.ref a]) [(22, .imul, 1, .null), (23, .iadd, 1, .null), (24, .istore_n 2, 1, .null), (25, .aload_n 0, 1, .null)] (by decide +kernel) rfl ?_
    refine aw_lds 16 (by decide) rfl rfl (by decide +kernel) ?_
    obtain ⟨r6, e7, hm⟩ := bn_x hm
    refine aw_cv (rest := []) (st1 := [.int r6.2]) a 0 (kX8_takes e7 h0 hf) rfl rfl ckX8_takes lkX8_134 h0 eo_O_0 ⟨_, _, rfl⟩ nkX8_takes rfl rfl rfl (Nat.le_of_ble_eq_true rfl) (Nat.zero_le _) (Nat.zero_le _) (by decide +kernel) (fun H8 z9 => ?_)
    obtain ⟨z9, hn⟩ := z9
    have h0 := hn
    have hs := hs.step z9 (by omega) (by omega)
    have J91 : ∀ (z0_j91 : Int32) (s_j91 : st_) (H_j91 : Heap), has_ E H_j91 a ly_O s_j91 → sm_ H H_j91 a 10 → fX8_readRule_j91 r1 z0_j91 s_j91 = some r → aw E mX8_readRule Q 91 [(0, .ref a), (2, .int ((26 : Int32) + ((5 : Int32) * (r1.1 3 (ix_ (4 : Int32))))))] [.int z0_j91] H_j91 0 0 := by
      intro z0_j91 s_j91 H_j91 h0 hs hm
      unfold fX8_readRule_j91 at hm
      refine aw_b (pc' := 94) (lv' := [(3, .int z0_j91), (0, .ref a), (2, .int ((26 : Int32) + ((5 : Int32) * (r1.1 3 (ix_ (4 : Int32))))))]) (st' := [.int (-1 : Int32), .int z0_j91]) [(91, .istore_n 3, 1, .null), (92, .iload_n 3, 1, .null), (93, .iconst (-1), 1, .int (-1 : Int32))] (by decide +kernel) rfl ?_
      refine aw_ic_ne (off := 9) 103 (by decide) (by decide +kernel) (fun hc => ?_) (fun hc => ?_)
      · have hm := (if_neg hc).symm.trans hm
        refine aw_b (pc' := 104) (lv' := [(3, .int z0_j91), (0, .ref a), (2, .int ((26 : Int32) + ((5 : Int32) * (r1.1 3 (ix_ (4 : Int32))))))]) (st' := [.ref a]) [(103, .aload_n 0, 1, .null)] (by decide +kernel) rfl ?_
        refine aw_gl (v := .ref (a + 3)) a 0 h0 eo_O_0 fgX8_16 rfl (by decide +kernel) ?_
        refine aw_b (pc' := 111) (lv' := [(3, .int z0_j91), (0, .ref a), (2, .int ((26 : Int32) + ((5 : Int32) * (r1.1 3 (ix_ (4 : Int32))))))]) (st' := [.int z0_j91, .int (((26 : Int32) + ((5 : Int32) * (r1.1 3 (ix_ (4 : Int32))))) + (0 : Int32)), .ref (a + 3)]) [(107, .iload_n 2, 1, .null), (108, .iconst 0, 1, .int (0 : Int32)), (109, .iadd, 1, .null), (110, .iload_n 3, 1, .null)] (by decide +kernel) rfl ?_
        obtain ⟨g10, hm⟩ := gd_x hm
        obtain ⟨s11, e12, hm⟩ := bd_x hm
        refine aw_isl a 3 h0 rfl hf g10 e12 (by decide +kernel) (fun H13 h0 z14 => ?_)
        have hs := hs.step z14 (by omega) (by omega)
        refine aw_b (pc' := 113) (lv' := [(3, .int z0_j91), (0, .ref a), (2, .int ((26 : Int32) + ((5 : Int32) * (r1.1 3 (ix_ (4 : Int32))))))]) (st' := [.ref a]) [(112, .aload_n 0, 1, .null)] (by decide +kernel) rfl ?_
        refine aw_gl (v := .ref (a + 3)) a 0 h0 eo_O_0 fgX8_16 rfl (by decide +kernel) ?_
        refine aw_b (pc' := 120) (lv' := [(3, .int z0_j91), (0, .ref a), (2, .int ((26 : Int32) + ((5 : Int32) * (r1.1 3 (ix_ (4 : Int32))))))]) (st' := [.int (-1 : Int32), .int (((26 : Int32) + ((5 : Int32) * (r1.1 3 (ix_ (4 : Int32))))) + (1 : Int32)), .ref (a + 3)]) [(116, .iload_n 2, 1, .null), (117, .iconst 1, 1, .int (1 : Int32)), (118, .iadd, 1, .null), (119, .iconst (-1), 1, .int (-1 : Int32))] (by decide +kernel) rfl ?_
        obtain ⟨g15, hm⟩ := gd_x hm
        obtain ⟨s16, e17, hm⟩ := bd_x hm
        refine aw_isl a 3 h0 rfl hf g15 e17 (by decide +kernel) (fun H18 h0 z19 => ?_)
        have hs := hs.step z19 (by omega) (by omega)
        refine aw_b (pc' := 123) (lv' := [(3, .int z0_j91), (0, .ref a), (2, .int ((26 : Int32) + ((5 : Int32) * (r1.1 3 (ix_ (4 : Int32))))))]) (st' := [.int (4 : Int32), .int z0_j91]) [(121, .iload_n 3, 1, .null), (122, .iconst 4, 1, .int (4 : Int32))] (by decide +kernel) rfl ?_
        have J141 : ∀ (s_j141 : st_) (H_j141 : Heap), has_ E H_j141 a ly_O s_j141 → sm_ H H_j141 a 10 → fX8_readRule_j141 s_j141 = some r → aw E mX8_readRule Q 141 [(0, .ref a)] [] H_j141 0 0 := by
          intro s_j141 H_j141 h0 hs hm
          unfold fX8_readRule_j141 at hm
          refine aw_b (pc' := 142) (lv' := [(0, .ref a)]) (st' := [.ref a]) [(141, .aload_n 0, 1, .null)] (by decide +kernel) rfl ?_
          refine aw_gl (v := .ref (a + 3)) a 0 h0 eo_O_0 fgX8_16 rfl (by decide +kernel) ?_
          refine aw_b (pc' := 147) (lv' := [(0, .ref a)]) (st' := [.int (4 : Int32), .ref (a + 3), .int (4 : Int32), .ref (a + 3)]) [(145, .iconst 4, 1, .int (4 : Int32)), (146, .dup2, 1, .null)] (by decide +kernel) rfl ?_
          obtain ⟨g20, hm⟩ := gd_x hm
          refine aw_ial a 3 h0 rfl g20 (by decide +kernel) ?_
          refine aw_b (pc' := 150) (lv' := [(0, .ref a)]) (st' := [.int ((s_j141 3 (ix_ (4 : Int32))) + (1 : Int32)), .int (4 : Int32), .ref (a + 3)]) [(148, .iconst 1, 1, .int (1 : Int32)), (149, .iadd, 1, .null)] (by decide +kernel) rfl ?_
          obtain ⟨g21, hm⟩ := gd_x hm
          obtain ⟨s22, e23, hm⟩ := bd_x hm
          refine aw_isl a 3 h0 rfl hf g21 e23 (by decide +kernel) (fun H24 h0 z25 => ?_)
          have hs := hs.step z25 (by omega) (by omega)
          refine aw_b (pc' := 152) (lv' := [(0, .ref a)]) (st' := [.int (1 : Int32)]) [(151, .iconst 1, 1, .int (1 : Int32))] (by decide +kernel) rfl ?_
          obtain rfl := Option.some.inj hm
          subst hQ
          exact aw_zret rfl (by decide +kernel) (Nat.zero_le _) (Nat.zero_le _) (by decide +kernel) ⟨rfl, hs, h0⟩
        refine aw_ic_ne (off := 18) 141 (by decide) (by decide +kernel) (fun hc => ?_) (fun hc => ?_)
        · have hm := (if_neg hc).symm.trans hm
          refine aw_lv (lv' := [(0, .ref a)]) [1] rfl ?_
          exact J141 s16 H18 h0 hs hm
        · have hm := (if_pos hc).symm.trans hm
          refine aw_b (pc' := 133) (lv' := [(3, .int z0_j91), (0, .ref a), (2, .int ((26 : Int32) + ((5 : Int32) * (r1.1 3 (ix_ (4 : Int32))))))]) (st' := [.int (99 : Int32), .int (0 : Int32), .int (((26 : Int32) + ((5 : Int32) * (r1.1 3 (ix_ (4 : Int32))))) + (1 : Int32)), .ref a]) [(126, .aload_n 0, 1, .null), (127, .iload_n 2, 1, .null), (128, .iconst 1, 1, .int (1 : Int32)), (129, .iadd, 1, .null), (130, .iconst 0, 1, .int (0 : Int32)), (131, .bipush 99, 2, .int (99 : Int32))] (by decide +kernel) rfl ?_
          obtain ⟨r26, e27, hm⟩ := bn_x hm
          refine aw_cv (rest := []) (st1 := [.int r26.2]) a 0 (kX8_into e27 h0 hf) rfl rfl ckX8_into lkX8_146 h0 eo_O_0 ⟨_, _, rfl⟩ nkX8_into rfl rfl rfl (Nat.le_of_ble_eq_true rfl) (Nat.zero_le _) (Nat.zero_le _) (by decide +kernel) (fun H28 z29 => ?_)
          obtain ⟨z29, hn⟩ := z29
          have h0 := hn
          have hs := hs.step z29 (by omega) (by omega)
          refine aw_if_ne (off := 5) 141 (by decide) (by decide +kernel) (fun hc => ?_) (fun hc => ?_)
          · have hm := (if_neg hc).symm.trans hm
            refine aw_lv (lv' := [(0, .ref a)]) [1] rfl ?_
            exact J141 r26.1 H28 h0 hs hm
          · have hm := (if_pos hc).symm.trans hm
            refine aw_b (pc' := 140) (lv' := [(3, .int z0_j91), (0, .ref a), (2, .int ((26 : Int32) + ((5 : Int32) * (r1.1 3 (ix_ (4 : Int32))))))]) (st' := [.int (0 : Int32)]) [(139, .iconst 0, 1, .int (0 : Int32))] (by decide +kernel) rfl ?_
            obtain rfl := Option.some.inj hm
            subst hQ
            exact aw_zret rfl (by decide +kernel) (Nat.zero_le _) (Nat.zero_le _) (by decide +kernel) ⟨rfl, hs, h0⟩
      · have hm := (if_pos hc).symm.trans hm
        refine aw_b (pc' := 99) (lv' := [(3, .int z0_j91), (0, .ref a), (2, .int ((26 : Int32) + ((5 : Int32) * (r1.1 3 (ix_ (4 : Int32))))))]) (st' := [.int (1 : Int32), .ref a]) [(97, .aload_n 0, 1, .null), (98, .iconst 1, 1, .int (1 : Int32))] (by decide +kernel) rfl ?_
        obtain ⟨r30, e31, hm⟩ := bn_x hm
        refine aw_cv (rest := []) (st1 := [.int r30.2]) a 0 (kX8_fails e31 h0 hf) rfl rfl ckX8_fails lkX8_119 h0 eo_O_0 ⟨_, _, rfl⟩ nkX8_fails rfl rfl rfl (Nat.le_of_ble_eq_true rfl) (Nat.zero_le _) (Nat.zero_le _) (by decide +kernel) (fun H32 z33 => ?_)
        obtain ⟨z33, hn⟩ := z33
        have h0 := hn
        have hs := hs.step z33 (by omega) (by omega)
        obtain ⟨g34, hm⟩ := gd_x hm
        obtain rfl := Option.some.inj hm
        subst hQ
        exact aw_zret rfl (bz_n g34) (Nat.zero_le _) (Nat.zero_le _) (by decide +kernel) ⟨rfl, hs, h0⟩
    refine aw_if_eq (off := 7) 38 (by decide) (by decide +kernel) (fun hc => ?_) (fun hc => ?_)
    · have hm := (if_pos hc).symm.trans hm
      refine aw_b (pc' := 39) (lv' := [(2, .int ((26 : Int32) + ((5 : Int32) * (r1.1 3 (ix_ (4 : Int32)))))), (0, .ref a), (1, .int i0)]) (st' := [.ref a]) [(38, .aload_n 0, 1, .null)] (by decide +kernel) rfl ?_
      refine aw_lds 17 (by decide) rfl rfl (by decide +kernel) ?_
      obtain ⟨r35, e36, hm⟩ := bn_x hm
      refine aw_cv (rest := []) (st1 := [.int r35.2]) a 0 (kX8_takes e36 h0 hf) rfl rfl ckX8_takes lkX8_134 h0 eo_O_0 ⟨_, _, rfl⟩ nkX8_takes rfl rfl rfl (Nat.le_of_ble_eq_true rfl) (Nat.zero_le _) (Nat.zero_le _) (by decide +kernel) (fun H37 z38 => ?_)
      obtain ⟨z38, hn⟩ := z38
      have h0 := hn
      have hs := hs.step z38 (by omega) (by omega)
      refine aw_if_eq (off := 7) 51 (by decide) (by decide +kernel) (fun hc => ?_) (fun hc => ?_)
      · have hm := (if_pos hc).symm.trans hm
        refine aw_b (pc' := 52) (lv' := [(2, .int ((26 : Int32) + ((5 : Int32) * (r1.1 3 (ix_ (4 : Int32)))))), (0, .ref a), (1, .int i0)]) (st' := [.ref a]) [(51, .aload_n 0, 1, .null)] (by decide +kernel) rfl ?_
        refine aw_lds 18 (by decide) rfl rfl (by decide +kernel) ?_
        obtain ⟨r39, e40, hm⟩ := bn_x hm
        refine aw_cv (rest := []) (st1 := [.int r39.2]) a 0 (kX8_takes e40 h0 hf) rfl rfl ckX8_takes lkX8_134 h0 eo_O_0 ⟨_, _, rfl⟩ nkX8_takes rfl rfl rfl (Nat.le_of_ble_eq_true rfl) (Nat.zero_le _) (Nat.zero_le _) (by decide +kernel) (fun H41 z42 => ?_)
        obtain ⟨z42, hn⟩ := z42
        have h0 := hn
        have hs := hs.step z42 (by omega) (by omega)
        refine aw_if_eq (off := 7) 64 (by decide) (by decide +kernel) (fun hc => ?_) (fun hc => ?_)
        · have hm := (if_pos hc).symm.trans hm
          refine aw_b (pc' := 65) (lv' := [(2, .int ((26 : Int32) + ((5 : Int32) * (r1.1 3 (ix_ (4 : Int32)))))), (0, .ref a), (1, .int i0)]) (st' := [.ref a]) [(64, .aload_n 0, 1, .null)] (by decide +kernel) rfl ?_
          refine aw_lds 19 (by decide) rfl rfl (by decide +kernel) ?_
          obtain ⟨r43, e44, hm⟩ := bn_x hm
          refine aw_cv (rest := []) (st1 := [.int r43.2]) a 0 (kX8_takes e44 h0 hf) rfl rfl ckX8_takes lkX8_134 h0 eo_O_0 ⟨_, _, rfl⟩ nkX8_takes rfl rfl rfl (Nat.le_of_ble_eq_true rfl) (Nat.zero_le _) (Nat.zero_le _) (by decide +kernel) (fun H45 z46 => ?_)
          obtain ⟨z46, hn⟩ := z46
          have h0 := hn
          have hs := hs.step z46 (by omega) (by omega)
          refine aw_if_eq (off := 7) 77 (by decide) (by decide +kernel) (fun hc => ?_) (fun hc => ?_)
          · have hm := (if_pos hc).symm.trans hm
            refine aw_b (pc' := 78) (lv' := [(2, .int ((26 : Int32) + ((5 : Int32) * (r1.1 3 (ix_ (4 : Int32)))))), (0, .ref a), (1, .int i0)]) (st' := [.ref a]) [(77, .aload_n 0, 1, .null)] (by decide +kernel) rfl ?_
            refine aw_lds 20 (by decide) rfl rfl (by decide +kernel) ?_
            obtain ⟨r47, e48, hm⟩ := bn_x hm
            refine aw_cv (rest := []) (st1 := [.int r47.2]) a 0 (kX8_takes e48 h0 hf) rfl rfl ckX8_takes lkX8_134 h0 eo_O_0 ⟨_, _, rfl⟩ nkX8_takes rfl rfl rfl (Nat.le_of_ble_eq_true rfl) (Nat.zero_le _) (Nat.zero_le _) (by decide +kernel) (fun H49 z50 => ?_)
            obtain ⟨z50, hn⟩ := z50
            have h0 := hn
            have hs := hs.step z50 (by omega) (by omega)
            refine aw_if_eq (off := 7) 90 (by decide) (by decide +kernel) (fun hc => ?_) (fun hc => ?_)
            · have hm := (if_pos hc).symm.trans hm
              refine aw_b (pc' := 91) (lv' := [(2, .int ((26 : Int32) + ((5 : Int32) * (r1.1 3 (ix_ (4 : Int32)))))), (0, .ref a), (1, .int i0)]) (st' := [.int (-1 : Int32)]) [(90, .iconst (-1), 1, .int (-1 : Int32))] (by decide +kernel) rfl ?_
              refine aw_lv (lv' := [(0, .ref a), (2, .int ((26 : Int32) + ((5 : Int32) * (r1.1 3 (ix_ (4 : Int32))))))]) [1, 0] rfl ?_
              exact J91 (-1 : Int32) r47.1 H49 h0 hs hm
            · have hm := (if_neg hc).symm.trans hm
              refine aw_b (pc' := 91) (lv' := [(2, .int ((26 : Int32) + ((5 : Int32) * (r1.1 3 (ix_ (4 : Int32)))))), (0, .ref a), (1, .int i0)]) (st' := [.int (4 : Int32)]) [(86, .iconst 4, 1, .int (4 : Int32)), (87, .goto 4, 3, .null)] (by decide +kernel) rfl ?_
              refine aw_lv (lv' := [(0, .ref a), (2, .int ((26 : Int32) + ((5 : Int32) * (r1.1 3 (ix_ (4 : Int32))))))]) [1, 0] rfl ?_
              exact J91 (4 : Int32) r47.1 H49 h0 hs hm
          · have hm := (if_neg hc).symm.trans hm
            refine aw_b (pc' := 91) (lv' := [(2, .int ((26 : Int32) + ((5 : Int32) * (r1.1 3 (ix_ (4 : Int32)))))), (0, .ref a), (1, .int i0)]) (st' := [.int (3 : Int32)]) [(73, .iconst 3, 1, .int (3 : Int32)), (74, .goto 17, 3, .null)] (by decide +kernel) rfl ?_
            refine aw_lv (lv' := [(0, .ref a), (2, .int ((26 : Int32) + ((5 : Int32) * (r1.1 3 (ix_ (4 : Int32))))))]) [1, 0] rfl ?_
            exact J91 (3 : Int32) r43.1 H45 h0 hs hm
        · have hm := (if_neg hc).symm.trans hm
          refine aw_b (pc' := 91) (lv' := [(2, .int ((26 : Int32) + ((5 : Int32) * (r1.1 3 (ix_ (4 : Int32)))))), (0, .ref a), (1, .int i0)]) (st' := [.int (2 : Int32)]) [(60, .iconst 2, 1, .int (2 : Int32)), (61, .goto 30, 3, .null)] (by decide +kernel) rfl ?_
          refine aw_lv (lv' := [(0, .ref a), (2, .int ((26 : Int32) + ((5 : Int32) * (r1.1 3 (ix_ (4 : Int32))))))]) [1, 0] rfl ?_
          exact J91 (2 : Int32) r39.1 H41 h0 hs hm
      · have hm := (if_neg hc).symm.trans hm
        refine aw_b (pc' := 91) (lv' := [(2, .int ((26 : Int32) + ((5 : Int32) * (r1.1 3 (ix_ (4 : Int32)))))), (0, .ref a), (1, .int i0)]) (st' := [.int (1 : Int32)]) [(47, .iconst 1, 1, .int (1 : Int32)), (48, .goto 43, 3, .null)] (by decide +kernel) rfl ?_
        refine aw_lv (lv' := [(0, .ref a), (2, .int ((26 : Int32) + ((5 : Int32) * (r1.1 3 (ix_ (4 : Int32))))))]) [1, 0] rfl ?_
        exact J91 (1 : Int32) r35.1 H37 h0 hs hm
    · have hm := (if_neg hc).symm.trans hm
      refine aw_b (pc' := 91) (lv' := [(2, .int ((26 : Int32) + ((5 : Int32) * (r1.1 3 (ix_ (4 : Int32)))))), (0, .ref a), (1, .int i0)]) (st' := [.int (0 : Int32)]) [(34, .iconst 0, 1, .int (0 : Int32)), (35, .goto 56, 3, .null)] (by decide +kernel) rfl ?_
      refine aw_lv (lv' := [(0, .ref a), (2, .int ((26 : Int32) + ((5 : Int32) * (r1.1 3 (ix_ (4 : Int32))))))]) [1, 0] rfl ?_
      exact J91 (0 : Int32) r6.1 H8 h0 hs hm
  · have hm := (if_pos hc).symm.trans hm
    refine aw_b (pc' := 12) (lv' := [(0, .ref a), (1, .int i0)]) (st' := [.int (0 : Int32)]) [(11, .iconst 0, 1, .int (0 : Int32))] (by decide +kernel) rfl ?_
    obtain rfl := Option.some.inj hm
    subst hQ
    exact aw_zret rfl (by decide +kernel) (Nat.zero_le _) (Nat.zero_le _) (by decide +kernel) ⟨rfl, hs, h0⟩
def mX8_readMaster : mt_ := (yX8_readMaster, cX8_readMaster, 3, some .boolean, [], { frames := 7, locals := 184, cells := 0, slots := 0 })
theorem ckX8_readMaster : cokV_ mX8_readMaster := ⟨⟨(uw_mem 1585 (by decide +kernel) (by decide +kernel)), (uw_mem 112 (by decide +kernel) (by decide +kernel)), by decide +kernel, by decide +kernel⟩, (uw_mem 1584 (by decide +kernel) (by decide +kernel)), (uw_mem 40 (by decide +kernel) (by decide +kernel))⟩
theorem nkX8_readMaster : nok_ mX8_readMaster 2 := by decide +kernel
theorem lkX8_151 : Cond.methodLink RX8 151 yX8_is ∈ uw_ := (uw_mem 1587 (by decide +kernel) (by decide +kernel))
def fX8_readMaster_j77 (s_j77 : st_) : Option (st_ × Int32) :=
  some (s_j77, (0 : Int32))
def fX8_readMaster (s : st_) (i0 : Int32) (i1 : Int32) : Option (st_ × Int32) :=
  bn_ (fX8_takes s 22) fun r1 =>
  if r1.2 = (0 : Int32) then (bn_ (fX8_takes r1.1 23) fun r5 =>
  if r5.2 = (0 : Int32) then (bn_ (fX8_takes r5.1 24) fun r9 =>
  if r9.2 = (0 : Int32) then (bn_ (fX8_fails r9.1 (1 : Int32)) fun r22 =>
  gd_ (bz_ r22.2) <|
  some (r22.1, r22.2))
  else (gd_ (ib_ (4 : Int32) 12584) <|
  bn_ (fX8_into r9.1 i1 (0 : Int32) ((r9.1 3 (ix_ (4 : Int32))) - (1 : Int32))) fun r14 =>
  if r14.2 = (0 : Int32) then (fX8_readMaster_j77 r14.1)
  else (bn_ (fX8_is r14.1 i0 (2 : Int32)) fun r18 =>
  if r18.2 = (0 : Int32) then (fX8_readMaster_j77 r18.1)
  else (some (r18.1, (1 : Int32))))))
  else (bn_ (fX8_is r5.1 i0 (1 : Int32)) fun r27 =>
  gd_ (bz_ r27.2) <|
  some (r27.1, r27.2)))
  else (bn_ (fX8_is r1.1 i0 (0 : Int32)) fun r32 =>
  gd_ (bz_ r32.2) <|
  some (r32.1, r32.2))
theorem kX8_readMaster {E : ev_} {H : Heap} {a : Nat} {s : st_} {i0 : Int32} {i1 : Int32} {r : st_ × Int32} (hm : fX8_readMaster s i0 i1 = some r) (h0 : has_ E H a ly_O s) (hf : ev_fr E a) : sp_ E mX8_readMaster [.ref a, .int i0, .int i1] H (po1 (.inl (some (.int r.2))) (fun Hn => sm_ H Hn a 10 ∧ has_ E Hn a ly_O r.1)) := by
  refine sp_of (by decide +kernel) rfl rfl ?_
  generalize hQ : po1 _ _ = Q
  have hs : sm_ H H a 10 := sm_.rfl'
  unfold fX8_readMaster at hm
  refine aw_lv (lv' := [(0, .ref a), (1, .int i0), (2, .int i1)]) [0, 1, 2] rfl ?_
  refine aw_b (pc' := 1) (lv' := [(0, .ref a), (1, .int i0), (2, .int i1)]) (st' := [.ref a]) [(0, .aload_n 0, 1, .null)] (by decide +kernel) rfl ?_
  refine aw_lds 22 (by decide) rfl rfl (by decide +kernel) ?_
  obtain ⟨r1, e2, hm⟩ := bn_x hm
  refine aw_cv (rest := []) (st1 := [.int r1.2]) a 0 (kX8_takes e2 h0 hf) rfl rfl ckX8_takes lkX8_134 h0 eo_O_0 ⟨_, _, rfl⟩ nkX8_takes rfl rfl rfl (Nat.le_of_ble_eq_true rfl) (Nat.zero_le _) (Nat.zero_le _) (by decide +kernel) (fun H3 z4 => ?_)
  obtain ⟨z4, hn⟩ := z4
  have h0 := hn
  have hs := hs.step z4 (by omega) (by omega)
  refine aw_if_eq (off := 10) 16 (by decide) (by decide +kernel) (fun hc => ?_) (fun hc => ?_)
  · have hm := (if_pos hc).symm.trans hm
    refine aw_b (pc' := 17) (lv' := [(0, .ref a), (1, .int i0), (2, .int i1)]) (st' := [.ref a]) [(16, .aload_n 0, 1, .null)] (by decide +kernel) rfl ?_
    refine aw_lds 23 (by decide) rfl rfl (by decide +kernel) ?_
    obtain ⟨r5, e6, hm⟩ := bn_x hm
    refine aw_cv (rest := []) (st1 := [.int r5.2]) a 0 (kX8_takes e6 h0 hf) rfl rfl ckX8_takes lkX8_134 h0 eo_O_0 ⟨_, _, rfl⟩ nkX8_takes rfl rfl rfl (Nat.le_of_ble_eq_true rfl) (Nat.zero_le _) (Nat.zero_le _) (by decide +kernel) (fun H7 z8 => ?_)
    obtain ⟨z8, hn⟩ := z8
    have h0 := hn
    have hs := hs.step z8 (by omega) (by omega)
    refine aw_if_eq (off := 10) 32 (by decide) (by decide +kernel) (fun hc => ?_) (fun hc => ?_)
    · have hm := (if_pos hc).symm.trans hm
      refine aw_b (pc' := 33) (lv' := [(0, .ref a), (1, .int i0), (2, .int i1)]) (st' := [.ref a]) [(32, .aload_n 0, 1, .null)] (by decide +kernel) rfl ?_
      refine aw_lds 24 (by decide) rfl rfl (by decide +kernel) ?_
      obtain ⟨r9, e10, hm⟩ := bn_x hm
      refine aw_cv (rest := []) (st1 := [.int r9.2]) a 0 (kX8_takes e10 h0 hf) rfl rfl ckX8_takes lkX8_134 h0 eo_O_0 ⟨_, _, rfl⟩ nkX8_takes rfl rfl rfl (Nat.le_of_ble_eq_true rfl) (Nat.zero_le _) (Nat.zero_le _) (by decide +kernel) (fun H11 z12 => ?_)
      obtain ⟨z12, hn⟩ := z12
      have h0 := hn
      have hs := hs.step z12 (by omega) (by omega)
      refine aw_if_ne (off := 9) 47 (by decide) (by decide +kernel) (fun hc => ?_) (fun hc => ?_)
      · have hm := (if_neg hc).symm.trans hm
        refine aw_b (pc' := 51) (lv' := [(0, .ref a), (1, .int i0), (2, .int i1)]) (st' := [.ref a, .int (0 : Int32), .int i1, .ref a]) [(47, .aload_n 0, 1, .null), (48, .iload_n 2, 1, .null), (49, .iconst 0, 1, .int (0 : Int32)), (50, .aload_n 0, 1, .null)] (by decide +kernel) rfl ?_
        refine aw_gl (v := .ref (a + 3)) a 0 h0 eo_O_0 fgX8_16 rfl (by decide +kernel) ?_
        refine aw_b (pc' := 55) (lv' := [(0, .ref a), (1, .int i0), (2, .int i1)]) (st' := [.int (4 : Int32), .ref (a + 3), .int (0 : Int32), .int i1, .ref a]) [(54, .iconst 4, 1, .int (4 : Int32))] (by decide +kernel) rfl ?_
        obtain ⟨g13, hm⟩ := gd_x hm
        refine aw_ial a 3 h0 rfl g13 (by decide +kernel) ?_
        refine aw_b (pc' := 58) (lv' := [(0, .ref a), (1, .int i0), (2, .int i1)]) (st' := [.int ((r9.1 3 (ix_ (4 : Int32))) - (1 : Int32)), .int (0 : Int32), .int i1, .ref a]) [(56, .iconst 1, 1, .int (1 : Int32)), (57, .isub, 1, .null)] (by decide +kernel) rfl ?_
        obtain ⟨r14, e15, hm⟩ := bn_x hm
        refine aw_cv (rest := []) (st1 := [.int r14.2]) a 0 (kX8_into e15 h0 hf) rfl rfl ckX8_into lkX8_146 h0 eo_O_0 ⟨_, _, rfl⟩ nkX8_into rfl rfl rfl (Nat.le_of_ble_eq_true rfl) (Nat.zero_le _) (Nat.zero_le _) (by decide +kernel) (fun H16 z17 => ?_)
        obtain ⟨z17, hn⟩ := z17
        have h0 := hn
        have hs := hs.step z17 (by omega) (by omega)
        have J77 : ∀ (s_j77 : st_) (H_j77 : Heap), has_ E H_j77 a ly_O s_j77 → sm_ H H_j77 a 10 → fX8_readMaster_j77 s_j77 = some r → aw E mX8_readMaster Q 77 [] [] H_j77 0 0 := by
          intro s_j77 H_j77 h0 hs hm
          unfold fX8_readMaster_j77 at hm
          refine aw_b (pc' := 78) (lv' := []) (st' := [.int (0 : Int32)]) [(77, .iconst 0, 1, .int (0 : Int32))] (by decide +kernel) rfl ?_
          obtain rfl := Option.some.inj hm
          subst hQ
          exact aw_zret rfl (by decide +kernel) (Nat.zero_le _) (Nat.zero_le _) (by decide +kernel) ⟨rfl, hs, h0⟩
        refine aw_if_eq (off := 16) 77 (by decide) (by decide +kernel) (fun hc => ?_) (fun hc => ?_)
        · have hm := (if_pos hc).symm.trans hm
          refine aw_lv (lv' := []) [] rfl ?_
          exact J77 r14.1 H16 h0 hs hm
        · have hm := (if_neg hc).symm.trans hm
          refine aw_b (pc' := 67) (lv' := [(0, .ref a), (1, .int i0), (2, .int i1)]) (st' := [.int (2 : Int32), .int i0, .ref a]) [(64, .aload_n 0, 1, .null), (65, .iload_n 1, 1, .null), (66, .iconst 2, 1, .int (2 : Int32))] (by decide +kernel) rfl ?_
          obtain ⟨r18, e19, hm⟩ := bn_x hm
          refine aw_cv (rest := []) (st1 := [.int r18.2]) a 0 (kX8_is e19 h0 hf) rfl rfl ckX8_is lkX8_151 h0 eo_O_0 ⟨_, _, rfl⟩ nkX8_is rfl rfl rfl (Nat.le_of_ble_eq_true rfl) (Nat.zero_le _) (Nat.zero_le _) (by decide +kernel) (fun H20 z21 => ?_)
          obtain ⟨z21, hn⟩ := z21
          have h0 := hn
          have hs := hs.step z21 (by omega) (by omega)
          refine aw_if_eq (off := 7) 77 (by decide) (by decide +kernel) (fun hc => ?_) (fun hc => ?_)
          · have hm := (if_pos hc).symm.trans hm
            refine aw_lv (lv' := []) [] rfl ?_
            exact J77 r18.1 H20 h0 hs hm
          · have hm := (if_neg hc).symm.trans hm
            refine aw_b (pc' := 78) (lv' := [(0, .ref a), (1, .int i0), (2, .int i1)]) (st' := [.int (1 : Int32)]) [(73, .iconst 1, 1, .int (1 : Int32)), (74, .goto 4, 3, .null)] (by decide +kernel) rfl ?_
            obtain rfl := Option.some.inj hm
            subst hQ
            exact aw_zret rfl (by decide +kernel) (Nat.zero_le _) (Nat.zero_le _) (by decide +kernel) ⟨rfl, hs, h0⟩
      · have hm := (if_pos hc).symm.trans hm
        refine aw_b (pc' := 43) (lv' := [(0, .ref a), (1, .int i0), (2, .int i1)]) (st' := [.int (1 : Int32), .ref a]) [(41, .aload_n 0, 1, .null), (42, .iconst 1, 1, .int (1 : Int32))] (by decide +kernel) rfl ?_
        obtain ⟨r22, e23, hm⟩ := bn_x hm
        refine aw_cv (rest := []) (st1 := [.int r22.2]) a 0 (kX8_fails e23 h0 hf) rfl rfl ckX8_fails lkX8_119 h0 eo_O_0 ⟨_, _, rfl⟩ nkX8_fails rfl rfl rfl (Nat.le_of_ble_eq_true rfl) (Nat.zero_le _) (Nat.zero_le _) (by decide +kernel) (fun H24 z25 => ?_)
        obtain ⟨z25, hn⟩ := z25
        have h0 := hn
        have hs := hs.step z25 (by omega) (by omega)
        obtain ⟨g26, hm⟩ := gd_x hm
        obtain rfl := Option.some.inj hm
        subst hQ
        exact aw_zret rfl (bz_n g26) (Nat.zero_le _) (Nat.zero_le _) (by decide +kernel) ⟨rfl, hs, h0⟩
    · have hm := (if_neg hc).symm.trans hm
      refine aw_b (pc' := 28) (lv' := [(0, .ref a), (1, .int i0), (2, .int i1)]) (st' := [.int (1 : Int32), .int i0, .ref a]) [(25, .aload_n 0, 1, .null), (26, .iload_n 1, 1, .null), (27, .iconst 1, 1, .int (1 : Int32))] (by decide +kernel) rfl ?_
      obtain ⟨r27, e28, hm⟩ := bn_x hm
      refine aw_cv (rest := []) (st1 := [.int r27.2]) a 0 (kX8_is e28 h0 hf) rfl rfl ckX8_is lkX8_151 h0 eo_O_0 ⟨_, _, rfl⟩ nkX8_is rfl rfl rfl (Nat.le_of_ble_eq_true rfl) (Nat.zero_le _) (Nat.zero_le _) (by decide +kernel) (fun H29 z30 => ?_)
      obtain ⟨z30, hn⟩ := z30
      have h0 := hn
      have hs := hs.step z30 (by omega) (by omega)
      obtain ⟨g31, hm⟩ := gd_x hm
      obtain rfl := Option.some.inj hm
      subst hQ
      exact aw_zret rfl (bz_n g31) (Nat.zero_le _) (Nat.zero_le _) (by decide +kernel) ⟨rfl, hs, h0⟩
  · have hm := (if_neg hc).symm.trans hm
    refine aw_b (pc' := 12) (lv' := [(0, .ref a), (1, .int i0), (2, .int i1)]) (st' := [.int (0 : Int32), .int i0, .ref a]) [(9, .aload_n 0, 1, .null), (10, .iload_n 1, 1, .null), (11, .iconst 0, 1, .int (0 : Int32))] (by decide +kernel) rfl ?_
    obtain ⟨r32, e33, hm⟩ := bn_x hm
    refine aw_cv (rest := []) (st1 := [.int r32.2]) a 0 (kX8_is e33 h0 hf) rfl rfl ckX8_is lkX8_151 h0 eo_O_0 ⟨_, _, rfl⟩ nkX8_is rfl rfl rfl (Nat.le_of_ble_eq_true rfl) (Nat.zero_le _) (Nat.zero_le _) (by decide +kernel) (fun H34 z35 => ?_)
    obtain ⟨z35, hn⟩ := z35
    have h0 := hn
    have hs := hs.step z35 (by omega) (by omega)
    obtain ⟨g36, hm⟩ := gd_x hm
    obtain rfl := Option.some.inj hm
    subst hQ
    exact aw_zret rfl (bz_n g36) (Nat.zero_le _) (Nat.zero_le _) (by decide +kernel) ⟨rfl, hs, h0⟩
def mX8_readFoe : mt_ := (yX8_readFoe, cX8_readFoe, 1, some .boolean, [], { frames := 7, locals := 184, cells := 0, slots := 0 })
theorem ckX8_readFoe : cokV_ mX8_readFoe := ⟨⟨(uw_mem 1600 (by decide +kernel) (by decide +kernel)), (uw_mem 112 (by decide +kernel) (by decide +kernel)), by decide +kernel, by decide +kernel⟩, (uw_mem 1599 (by decide +kernel) (by decide +kernel)), (uw_mem 42 (by decide +kernel) (by decide +kernel))⟩
theorem nkX8_readFoe : nok_ mX8_readFoe 0 := by decide +kernel
def fX8_readFoe (s : st_) : Option (st_ × Int32) :=
  bn_ (fX8_takes s 29) fun r1 =>
  if r1.2 = (0 : Int32) then (bn_ (fX8_takes r1.1 30) fun r5 =>
  if r5.2 = (0 : Int32) then (bn_ (fX8_takes r5.1 31) fun r9 =>
  if r9.2 = (0 : Int32) then (bn_ (fX8_takes r9.1 32) fun r13 =>
  if r13.2 = (0 : Int32) then (bn_ (fX8_takes r13.1 33) fun r17 =>
  if r17.2 = (0 : Int32) then (bn_ (fX8_takes r17.1 34) fun r21 =>
  if r21.2 = (0 : Int32) then (bn_ (fX8_fails r21.1 (1 : Int32)) fun r25 =>
  gd_ (bz_ r25.2) <|
  some (r25.1, r25.2))
  else (bn_ (fX8_is r21.1 (9 : Int32) (5 : Int32)) fun r30 =>
  gd_ (bz_ r30.2) <|
  some (r30.1, r30.2)))
  else (bn_ (fX8_is r17.1 (9 : Int32) (4 : Int32)) fun r35 =>
  gd_ (bz_ r35.2) <|
  some (r35.1, r35.2)))
  else (bn_ (fX8_is r13.1 (9 : Int32) (3 : Int32)) fun r40 =>
  gd_ (bz_ r40.2) <|
  some (r40.1, r40.2)))
  else (bn_ (fX8_is r9.1 (9 : Int32) (2 : Int32)) fun r45 =>
  gd_ (bz_ r45.2) <|
  some (r45.1, r45.2)))
  else (bn_ (fX8_is r5.1 (9 : Int32) (1 : Int32)) fun r50 =>
  gd_ (bz_ r50.2) <|
  some (r50.1, r50.2)))
  else (bn_ (fX8_is r1.1 (9 : Int32) (0 : Int32)) fun r55 =>
  gd_ (bz_ r55.2) <|
  some (r55.1, r55.2))
theorem kX8_readFoe {E : ev_} {H : Heap} {a : Nat} {s : st_} {r : st_ × Int32} (hm : fX8_readFoe s = some r) (h0 : has_ E H a ly_O s) (hf : ev_fr E a) : sp_ E mX8_readFoe [.ref a] H (po1 (.inl (some (.int r.2))) (fun Hn => sm_ H Hn a 10 ∧ has_ E Hn a ly_O r.1)) := by
  refine sp_of (by decide +kernel) rfl rfl ?_
  generalize hQ : po1 _ _ = Q
  have hs : sm_ H H a 10 := sm_.rfl'
  unfold fX8_readFoe at hm
  refine aw_lv (lv' := [(0, .ref a)]) [0] rfl ?_
  refine aw_b (pc' := 1) (lv' := [(0, .ref a)]) (st' := [.ref a]) [(0, .aload_n 0, 1, .null)] (by decide +kernel) rfl ?_
  refine aw_lds 29 (by decide) rfl rfl (by decide +kernel) ?_
  obtain ⟨r1, e2, hm⟩ := bn_x hm
  refine aw_cv (rest := []) (st1 := [.int r1.2]) a 0 (kX8_takes e2 h0 hf) rfl rfl ckX8_takes lkX8_134 h0 eo_O_0 ⟨_, _, rfl⟩ nkX8_takes rfl rfl rfl (Nat.le_of_ble_eq_true rfl) (Nat.zero_le _) (Nat.zero_le _) (by decide +kernel) (fun H3 z4 => ?_)
  obtain ⟨z4, hn⟩ := z4
  have h0 := hn
  have hs := hs.step z4 (by omega) (by omega)
  refine aw_if_eq (off := 11) 17 (by decide) (by decide +kernel) (fun hc => ?_) (fun hc => ?_)
  · have hm := (if_pos hc).symm.trans hm
    refine aw_b (pc' := 18) (lv' := [(0, .ref a)]) (st' := [.ref a]) [(17, .aload_n 0, 1, .null)] (by decide +kernel) rfl ?_
    refine aw_lds 30 (by decide) rfl rfl (by decide +kernel) ?_
    obtain ⟨r5, e6, hm⟩ := bn_x hm
    refine aw_cv (rest := []) (st1 := [.int r5.2]) a 0 (kX8_takes e6 h0 hf) rfl rfl ckX8_takes lkX8_134 h0 eo_O_0 ⟨_, _, rfl⟩ nkX8_takes rfl rfl rfl (Nat.le_of_ble_eq_true rfl) (Nat.zero_le _) (Nat.zero_le _) (by decide +kernel) (fun H7 z8 => ?_)
    obtain ⟨z8, hn⟩ := z8
    have h0 := hn
    have hs := hs.step z8 (by omega) (by omega)
    refine aw_if_eq (off := 11) 34 (by decide) (by decide +kernel) (fun hc => ?_) (fun hc => ?_)
    · have hm := (if_pos hc).symm.trans hm
      refine aw_b (pc' := 35) (lv' := [(0, .ref a)]) (st' := [.ref a]) [(34, .aload_n 0, 1, .null)] (by decide +kernel) rfl ?_
      refine aw_lds 31 (by decide) rfl rfl (by decide +kernel) ?_
      obtain ⟨r9, e10, hm⟩ := bn_x hm
      refine aw_cv (rest := []) (st1 := [.int r9.2]) a 0 (kX8_takes e10 h0 hf) rfl rfl ckX8_takes lkX8_134 h0 eo_O_0 ⟨_, _, rfl⟩ nkX8_takes rfl rfl rfl (Nat.le_of_ble_eq_true rfl) (Nat.zero_le _) (Nat.zero_le _) (by decide +kernel) (fun H11 z12 => ?_)
      obtain ⟨z12, hn⟩ := z12
      have h0 := hn
      have hs := hs.step z12 (by omega) (by omega)
      refine aw_if_eq (off := 11) 51 (by decide) (by decide +kernel) (fun hc => ?_) (fun hc => ?_)
      · have hm := (if_pos hc).symm.trans hm
        refine aw_b (pc' := 52) (lv' := [(0, .ref a)]) (st' := [.ref a]) [(51, .aload_n 0, 1, .null)] (by decide +kernel) rfl ?_
        refine aw_lds 32 (by decide) rfl rfl (by decide +kernel) ?_
        obtain ⟨r13, e14, hm⟩ := bn_x hm
        refine aw_cv (rest := []) (st1 := [.int r13.2]) a 0 (kX8_takes e14 h0 hf) rfl rfl ckX8_takes lkX8_134 h0 eo_O_0 ⟨_, _, rfl⟩ nkX8_takes rfl rfl rfl (Nat.le_of_ble_eq_true rfl) (Nat.zero_le _) (Nat.zero_le _) (by decide +kernel) (fun H15 z16 => ?_)
        obtain ⟨z16, hn⟩ := z16
        have h0 := hn
        have hs := hs.step z16 (by omega) (by omega)
        refine aw_if_eq (off := 11) 68 (by decide) (by decide +kernel) (fun hc => ?_) (fun hc => ?_)
        · have hm := (if_pos hc).symm.trans hm
          refine aw_b (pc' := 69) (lv' := [(0, .ref a)]) (st' := [.ref a]) [(68, .aload_n 0, 1, .null)] (by decide +kernel) rfl ?_
          refine aw_lds 33 (by decide) rfl rfl (by decide +kernel) ?_
          obtain ⟨r17, e18, hm⟩ := bn_x hm
          refine aw_cv (rest := []) (st1 := [.int r17.2]) a 0 (kX8_takes e18 h0 hf) rfl rfl ckX8_takes lkX8_134 h0 eo_O_0 ⟨_, _, rfl⟩ nkX8_takes rfl rfl rfl (Nat.le_of_ble_eq_true rfl) (Nat.zero_le _) (Nat.zero_le _) (by decide +kernel) (fun H19 z20 => ?_)
          obtain ⟨z20, hn⟩ := z20
          have h0 := hn
          have hs := hs.step z20 (by omega) (by omega)
          refine aw_if_eq (off := 11) 85 (by decide) (by decide +kernel) (fun hc => ?_) (fun hc => ?_)
          · have hm := (if_pos hc).symm.trans hm
            refine aw_b (pc' := 86) (lv' := [(0, .ref a)]) (st' := [.ref a]) [(85, .aload_n 0, 1, .null)] (by decide +kernel) rfl ?_
            refine aw_lds 34 (by decide) rfl rfl (by decide +kernel) ?_
            obtain ⟨r21, e22, hm⟩ := bn_x hm
            refine aw_cv (rest := []) (st1 := [.int r21.2]) a 0 (kX8_takes e22 h0 hf) rfl rfl ckX8_takes lkX8_134 h0 eo_O_0 ⟨_, _, rfl⟩ nkX8_takes rfl rfl rfl (Nat.le_of_ble_eq_true rfl) (Nat.zero_le _) (Nat.zero_le _) (by decide +kernel) (fun H23 z24 => ?_)
            obtain ⟨z24, hn⟩ := z24
            have h0 := hn
            have hs := hs.step z24 (by omega) (by omega)
            refine aw_if_eq (off := 13) 104 (by decide) (by decide +kernel) (fun hc => ?_) (fun hc => ?_)
            · have hm := (if_pos hc).symm.trans hm
              refine aw_b (pc' := 106) (lv' := [(0, .ref a)]) (st' := [.int (1 : Int32), .ref a]) [(104, .aload_n 0, 1, .null), (105, .iconst 1, 1, .int (1 : Int32))] (by decide +kernel) rfl ?_
              obtain ⟨r25, e26, hm⟩ := bn_x hm
              refine aw_cv (rest := []) (st1 := [.int r25.2]) a 0 (kX8_fails e26 h0 hf) rfl rfl ckX8_fails lkX8_119 h0 eo_O_0 ⟨_, _, rfl⟩ nkX8_fails rfl rfl rfl (Nat.le_of_ble_eq_true rfl) (Nat.zero_le _) (Nat.zero_le _) (by decide +kernel) (fun H27 z28 => ?_)
              obtain ⟨z28, hn⟩ := z28
              have h0 := hn
              have hs := hs.step z28 (by omega) (by omega)
              obtain ⟨g29, hm⟩ := gd_x hm
              obtain rfl := Option.some.inj hm
              subst hQ
              exact aw_zret rfl (bz_n g29) (Nat.zero_le _) (Nat.zero_le _) (by decide +kernel) ⟨rfl, hs, h0⟩
            · have hm := (if_neg hc).symm.trans hm
              refine aw_b (pc' := 98) (lv' := [(0, .ref a)]) (st' := [.int (5 : Int32), .int (9 : Int32), .ref a]) [(94, .aload_n 0, 1, .null), (95, .bipush 9, 2, .int (9 : Int32)), (97, .iconst 5, 1, .int (5 : Int32))] (by decide +kernel) rfl ?_
              obtain ⟨r30, e31, hm⟩ := bn_x hm
              refine aw_cv (rest := []) (st1 := [.int r30.2]) a 0 (kX8_is e31 h0 hf) rfl rfl ckX8_is lkX8_151 h0 eo_O_0 ⟨_, _, rfl⟩ nkX8_is rfl rfl rfl (Nat.le_of_ble_eq_true rfl) (Nat.zero_le _) (Nat.zero_le _) (by decide +kernel) (fun H32 z33 => ?_)
              obtain ⟨z33, hn⟩ := z33
              have h0 := hn
              have hs := hs.step z33 (by omega) (by omega)
              refine aw_b (pc' := 109) (lv' := [(0, .ref a)]) (st' := [.int r30.2]) [(101, .goto 8, 3, .null)] (by decide +kernel) rfl ?_
              obtain ⟨g34, hm⟩ := gd_x hm
              obtain rfl := Option.some.inj hm
              subst hQ
              exact aw_zret rfl (bz_n g34) (Nat.zero_le _) (Nat.zero_le _) (by decide +kernel) ⟨rfl, hs, h0⟩
          · have hm := (if_neg hc).symm.trans hm
            refine aw_b (pc' := 81) (lv' := [(0, .ref a)]) (st' := [.int (4 : Int32), .int (9 : Int32), .ref a]) [(77, .aload_n 0, 1, .null), (78, .bipush 9, 2, .int (9 : Int32)), (80, .iconst 4, 1, .int (4 : Int32))] (by decide +kernel) rfl ?_
            obtain ⟨r35, e36, hm⟩ := bn_x hm
            refine aw_cv (rest := []) (st1 := [.int r35.2]) a 0 (kX8_is e36 h0 hf) rfl rfl ckX8_is lkX8_151 h0 eo_O_0 ⟨_, _, rfl⟩ nkX8_is rfl rfl rfl (Nat.le_of_ble_eq_true rfl) (Nat.zero_le _) (Nat.zero_le _) (by decide +kernel) (fun H37 z38 => ?_)
            obtain ⟨z38, hn⟩ := z38
            have h0 := hn
            have hs := hs.step z38 (by omega) (by omega)
            obtain ⟨g39, hm⟩ := gd_x hm
            obtain rfl := Option.some.inj hm
            subst hQ
            exact aw_zret rfl (bz_n g39) (Nat.zero_le _) (Nat.zero_le _) (by decide +kernel) ⟨rfl, hs, h0⟩
        · have hm := (if_neg hc).symm.trans hm
          refine aw_b (pc' := 64) (lv' := [(0, .ref a)]) (st' := [.int (3 : Int32), .int (9 : Int32), .ref a]) [(60, .aload_n 0, 1, .null), (61, .bipush 9, 2, .int (9 : Int32)), (63, .iconst 3, 1, .int (3 : Int32))] (by decide +kernel) rfl ?_
          obtain ⟨r40, e41, hm⟩ := bn_x hm
          refine aw_cv (rest := []) (st1 := [.int r40.2]) a 0 (kX8_is e41 h0 hf) rfl rfl ckX8_is lkX8_151 h0 eo_O_0 ⟨_, _, rfl⟩ nkX8_is rfl rfl rfl (Nat.le_of_ble_eq_true rfl) (Nat.zero_le _) (Nat.zero_le _) (by decide +kernel) (fun H42 z43 => ?_)
          obtain ⟨z43, hn⟩ := z43
          have h0 := hn
          have hs := hs.step z43 (by omega) (by omega)
          obtain ⟨g44, hm⟩ := gd_x hm
          obtain rfl := Option.some.inj hm
          subst hQ
          exact aw_zret rfl (bz_n g44) (Nat.zero_le _) (Nat.zero_le _) (by decide +kernel) ⟨rfl, hs, h0⟩
      · have hm := (if_neg hc).symm.trans hm
        refine aw_b (pc' := 47) (lv' := [(0, .ref a)]) (st' := [.int (2 : Int32), .int (9 : Int32), .ref a]) [(43, .aload_n 0, 1, .null), (44, .bipush 9, 2, .int (9 : Int32)), (46, .iconst 2, 1, .int (2 : Int32))] (by decide +kernel) rfl ?_
        obtain ⟨r45, e46, hm⟩ := bn_x hm
        refine aw_cv (rest := []) (st1 := [.int r45.2]) a 0 (kX8_is e46 h0 hf) rfl rfl ckX8_is lkX8_151 h0 eo_O_0 ⟨_, _, rfl⟩ nkX8_is rfl rfl rfl (Nat.le_of_ble_eq_true rfl) (Nat.zero_le _) (Nat.zero_le _) (by decide +kernel) (fun H47 z48 => ?_)
        obtain ⟨z48, hn⟩ := z48
        have h0 := hn
        have hs := hs.step z48 (by omega) (by omega)
        obtain ⟨g49, hm⟩ := gd_x hm
        obtain rfl := Option.some.inj hm
        subst hQ
        exact aw_zret rfl (bz_n g49) (Nat.zero_le _) (Nat.zero_le _) (by decide +kernel) ⟨rfl, hs, h0⟩
    · have hm := (if_neg hc).symm.trans hm
      refine aw_b (pc' := 30) (lv' := [(0, .ref a)]) (st' := [.int (1 : Int32), .int (9 : Int32), .ref a]) [(26, .aload_n 0, 1, .null), (27, .bipush 9, 2, .int (9 : Int32)), (29, .iconst 1, 1, .int (1 : Int32))] (by decide +kernel) rfl ?_
      obtain ⟨r50, e51, hm⟩ := bn_x hm
      refine aw_cv (rest := []) (st1 := [.int r50.2]) a 0 (kX8_is e51 h0 hf) rfl rfl ckX8_is lkX8_151 h0 eo_O_0 ⟨_, _, rfl⟩ nkX8_is rfl rfl rfl (Nat.le_of_ble_eq_true rfl) (Nat.zero_le _) (Nat.zero_le _) (by decide +kernel) (fun H52 z53 => ?_)
      obtain ⟨z53, hn⟩ := z53
      have h0 := hn
      have hs := hs.step z53 (by omega) (by omega)
      obtain ⟨g54, hm⟩ := gd_x hm
      obtain rfl := Option.some.inj hm
      subst hQ
      exact aw_zret rfl (bz_n g54) (Nat.zero_le _) (Nat.zero_le _) (by decide +kernel) ⟨rfl, hs, h0⟩
  · have hm := (if_neg hc).symm.trans hm
    refine aw_b (pc' := 13) (lv' := [(0, .ref a)]) (st' := [.int (0 : Int32), .int (9 : Int32), .ref a]) [(9, .aload_n 0, 1, .null), (10, .bipush 9, 2, .int (9 : Int32)), (12, .iconst 0, 1, .int (0 : Int32))] (by decide +kernel) rfl ?_
    obtain ⟨r55, e56, hm⟩ := bn_x hm
    refine aw_cv (rest := []) (st1 := [.int r55.2]) a 0 (kX8_is e56 h0 hf) rfl rfl ckX8_is lkX8_151 h0 eo_O_0 ⟨_, _, rfl⟩ nkX8_is rfl rfl rfl (Nat.le_of_ble_eq_true rfl) (Nat.zero_le _) (Nat.zero_le _) (by decide +kernel) (fun H57 z58 => ?_)
    obtain ⟨z58, hn⟩ := z58
    have h0 := hn
    have hs := hs.step z58 (by omega) (by omega)
    obtain ⟨g59, hm⟩ := gd_x hm
    obtain rfl := Option.some.inj hm
    subst hQ
    exact aw_zret rfl (bz_n g59) (Nat.zero_le _) (Nat.zero_le _) (by decide +kernel) ⟨rfl, hs, h0⟩
def mX8_readAsk : mt_ := (yX8_readAsk, cX8_readAsk, 2, some .boolean, [], { frames := 4, locals := 91, cells := 0, slots := 0 })
theorem ckX8_readAsk : cokV_ mX8_readAsk := ⟨⟨(uw_mem 1611 (by decide +kernel) (by decide +kernel)), (uw_mem 112 (by decide +kernel) (by decide +kernel)), by decide +kernel, by decide +kernel⟩, (uw_mem 1610 (by decide +kernel) (by decide +kernel)), (uw_mem 43 (by decide +kernel) (by decide +kernel))⟩
theorem nkX8_readAsk : nok_ mX8_readAsk 1 := by decide +kernel
def fX8_readAsk (s : st_) (i0 : Int32) : Option (st_ × Int32) :=
  bn_ (fX8_isRoom s i0 (10 : Int32) (16 : Int32)) fun r1 =>
  if r1.2 = (0 : Int32) then (some (r1.1, (0 : Int32)))
  else (gd_ (ib_ (10 : Int32) 12584) <|
  gd_ (ib_ (0 : Int32) 12584) <|
  bn_ (fX8_into r1.1 ((56 : Int32) + (r1.1 3 (ix_ (10 : Int32)))) (0 : Int32) ((r1.1 3 (ix_ (0 : Int32))) - (1 : Int32))) fun r7 =>
  if r7.2 = (0 : Int32) then (some (r7.1, (0 : Int32)))
  else (gd_ (ib_ (10 : Int32) 12584) <|
  gd_ (ib_ (10 : Int32) 12584) <|
  bd_ (pt_ r7.1 3 (ix_ (10 : Int32)) ((r7.1 3 (ix_ (10 : Int32))) + (1 : Int32))) fun s13 =>
  some (s13, (1 : Int32))))
theorem kX8_readAsk {E : ev_} {H : Heap} {a : Nat} {s : st_} {i0 : Int32} {r : st_ × Int32} (hm : fX8_readAsk s i0 = some r) (h0 : has_ E H a ly_O s) (hf : ev_fr E a) : sp_ E mX8_readAsk [.ref a, .int i0] H (po1 (.inl (some (.int r.2))) (fun Hn => sm_ H Hn a 10 ∧ has_ E Hn a ly_O r.1)) := by
  refine sp_of (by decide +kernel) rfl rfl ?_
  generalize hQ : po1 _ _ = Q
  have hs : sm_ H H a 10 := sm_.rfl'
  unfold fX8_readAsk at hm
  refine aw_lv (lv' := [(0, .ref a), (1, .int i0)]) [0, 1] rfl ?_
  refine aw_b (pc' := 6) (lv' := [(0, .ref a), (1, .int i0)]) (st' := [.int (16 : Int32), .int (10 : Int32), .int i0, .ref a]) [(0, .aload_n 0, 1, .null), (1, .iload_n 1, 1, .null), (2, .bipush 10, 2, .int (10 : Int32)), (4, .bipush 16, 2, .int (16 : Int32))] (by decide +kernel) rfl ?_
  obtain ⟨r1, e2, hm⟩ := bn_x hm
  refine aw_cv (rest := []) (st1 := [.int r1.2]) a 0 (kX8_isRoom e2 h0 hf) rfl rfl ckX8_isRoom lkX8_128 h0 eo_O_0 ⟨_, _, rfl⟩ nkX8_isRoom rfl rfl rfl (Nat.le_of_ble_eq_true rfl) (Nat.zero_le _) (Nat.zero_le _) (by decide +kernel) (fun H3 z4 => ?_)
  obtain ⟨z4, hn⟩ := z4
  have h0 := hn
  have hs := hs.step z4 (by omega) (by omega)
  refine aw_if_eq (off := 29) 38 (by decide) (by decide +kernel) (fun hc => ?_) (fun hc => ?_)
  · have hm := (if_pos hc).symm.trans hm
    refine aw_b (pc' := 39) (lv' := [(0, .ref a), (1, .int i0)]) (st' := [.int (0 : Int32)]) [(38, .iconst 0, 1, .int (0 : Int32))] (by decide +kernel) rfl ?_
    obtain rfl := Option.some.inj hm
    subst hQ
    exact aw_zret rfl (by decide +kernel) (Nat.zero_le _) (Nat.zero_le _) (by decide +kernel) ⟨rfl, hs, h0⟩
  · have hm := (if_neg hc).symm.trans hm
    refine aw_b (pc' := 16) (lv' := [(0, .ref a), (1, .int i0)]) (st' := [.ref a, .int (56 : Int32), .ref a]) [(12, .aload_n 0, 1, .null), (13, .bipush 56, 2, .int (56 : Int32)), (15, .aload_n 0, 1, .null)] (by decide +kernel) rfl ?_
    refine aw_gl (v := .ref (a + 3)) a 0 h0 eo_O_0 fgX8_16 rfl (by decide +kernel) ?_
    refine aw_b (pc' := 21) (lv' := [(0, .ref a), (1, .int i0)]) (st' := [.int (10 : Int32), .ref (a + 3), .int (56 : Int32), .ref a]) [(19, .bipush 10, 2, .int (10 : Int32))] (by decide +kernel) rfl ?_
    obtain ⟨g5, hm⟩ := gd_x hm
    refine aw_ial a 3 h0 rfl g5 (by decide +kernel) ?_
    refine aw_b (pc' := 25) (lv' := [(0, .ref a), (1, .int i0)]) (st' := [.ref a, .int (0 : Int32), .int ((56 : Int32) + (r1.1 3 (ix_ (10 : Int32)))), .ref a]) [(22, .iadd, 1, .null), (23, .iconst 0, 1, .int (0 : Int32)), (24, .aload_n 0, 1, .null)] (by decide +kernel) rfl ?_
    refine aw_gl (v := .ref (a + 3)) a 0 h0 eo_O_0 fgX8_16 rfl (by decide +kernel) ?_
    refine aw_b (pc' := 29) (lv' := [(0, .ref a), (1, .int i0)]) (st' := [.int (0 : Int32), .ref (a + 3), .int (0 : Int32), .int ((56 : Int32) + (r1.1 3 (ix_ (10 : Int32)))), .ref a]) [(28, .iconst 0, 1, .int (0 : Int32))] (by decide +kernel) rfl ?_
    obtain ⟨g6, hm⟩ := gd_x hm
    refine aw_ial a 3 h0 rfl g6 (by decide +kernel) ?_
    refine aw_b (pc' := 32) (lv' := [(0, .ref a), (1, .int i0)]) (st' := [.int ((r1.1 3 (ix_ (0 : Int32))) - (1 : Int32)), .int (0 : Int32), .int ((56 : Int32) + (r1.1 3 (ix_ (10 : Int32)))), .ref a]) [(30, .iconst 1, 1, .int (1 : Int32)), (31, .isub, 1, .null)] (by decide +kernel) rfl ?_
    obtain ⟨r7, e8, hm⟩ := bn_x hm
    refine aw_cv (rest := []) (st1 := [.int r7.2]) a 0 (kX8_into e8 h0 hf) rfl rfl ckX8_into lkX8_146 h0 eo_O_0 ⟨_, _, rfl⟩ nkX8_into rfl rfl rfl (Nat.le_of_ble_eq_true rfl) (Nat.zero_le _) (Nat.zero_le _) (by decide +kernel) (fun H9 z10 => ?_)
    obtain ⟨z10, hn⟩ := z10
    have h0 := hn
    have hs := hs.step z10 (by omega) (by omega)
    refine aw_if_ne (off := 5) 40 (by decide) (by decide +kernel) (fun hc => ?_) (fun hc => ?_)
    · have hm := (if_neg hc).symm.trans hm
      refine aw_b (pc' := 41) (lv' := [(0, .ref a), (1, .int i0)]) (st' := [.ref a]) [(40, .aload_n 0, 1, .null)] (by decide +kernel) rfl ?_
      refine aw_gl (v := .ref (a + 3)) a 0 h0 eo_O_0 fgX8_16 rfl (by decide +kernel) ?_
      refine aw_b (pc' := 47) (lv' := [(0, .ref a), (1, .int i0)]) (st' := [.int (10 : Int32), .ref (a + 3), .int (10 : Int32), .ref (a + 3)]) [(44, .bipush 10, 2, .int (10 : Int32)), (46, .dup2, 1, .null)] (by decide +kernel) rfl ?_
      obtain ⟨g11, hm⟩ := gd_x hm
      refine aw_ial a 3 h0 rfl g11 (by decide +kernel) ?_
      refine aw_b (pc' := 50) (lv' := [(0, .ref a), (1, .int i0)]) (st' := [.int ((r7.1 3 (ix_ (10 : Int32))) + (1 : Int32)), .int (10 : Int32), .ref (a + 3)]) [(48, .iconst 1, 1, .int (1 : Int32)), (49, .iadd, 1, .null)] (by decide +kernel) rfl ?_
      obtain ⟨g12, hm⟩ := gd_x hm
      obtain ⟨s13, e14, hm⟩ := bd_x hm
      refine aw_isl a 3 h0 rfl hf g12 e14 (by decide +kernel) (fun H15 h0 z16 => ?_)
      have hs := hs.step z16 (by omega) (by omega)
      refine aw_b (pc' := 52) (lv' := [(0, .ref a), (1, .int i0)]) (st' := [.int (1 : Int32)]) [(51, .iconst 1, 1, .int (1 : Int32))] (by decide +kernel) rfl ?_
      obtain rfl := Option.some.inj hm
      subst hQ
      exact aw_zret rfl (by decide +kernel) (Nat.zero_le _) (Nat.zero_le _) (by decide +kernel) ⟨rfl, hs, h0⟩
    · have hm := (if_pos hc).symm.trans hm
      refine aw_b (pc' := 39) (lv' := [(0, .ref a), (1, .int i0)]) (st' := [.int (0 : Int32)]) [(38, .iconst 0, 1, .int (0 : Int32))] (by decide +kernel) rfl ?_
      obtain rfl := Option.some.inj hm
      subst hQ
      exact aw_zret rfl (by decide +kernel) (Nat.zero_le _) (Nat.zero_le _) (by decide +kernel) ⟨rfl, hs, h0⟩
def mX8_readStatement : mt_ := (yX8_readStatement, cX8_readStatement, 2, some .boolean, [], { frames := 8, locals := 207, cells := 0, slots := 0 })
theorem ckX8_readStatement : cokV_ mX8_readStatement := ⟨⟨(uw_mem 1565 (by decide +kernel) (by decide +kernel)), (uw_mem 112 (by decide +kernel) (by decide +kernel)), by decide +kernel, by decide +kernel⟩, (uw_mem 1564 (by decide +kernel) (by decide +kernel)), (uw_mem 37 (by decide +kernel) (by decide +kernel))⟩
theorem nkX8_readStatement : nok_ mX8_readStatement 0 := by decide +kernel
theorem kwX8_202 : Cond.constant RX8 202 (99999 : Int32) ∈ uw_ := (uw_mem 1613 (by decide +kernel) (by decide +kernel))
theorem lkX8_197 : Cond.methodLink RX8 197 yX8_readAsk ∈ uw_ := (uw_mem 1608 (by decide +kernel) (by decide +kernel))
theorem lkX8_191 : Cond.methodLink RX8 191 yX8_readFoe ∈ uw_ := (uw_mem 1597 (by decide +kernel) (by decide +kernel))
theorem lkX8_180 : Cond.methodLink RX8 180 yX8_readMaster ∈ uw_ := (uw_mem 1582 (by decide +kernel) (by decide +kernel))
theorem lkX8_175 : Cond.methodLink RX8 175 yX8_readRule ∈ uw_ := (uw_mem 1568 (by decide +kernel) (by decide +kernel))
def fX8_readStatement_j225 (s_j225 : st_) : Option (st_ × Int32) :=
  some (s_j225, (0 : Int32))
def fX8_readStatement_j156 (s_j156 : st_) : Option (st_ × Int32) :=
  some (s_j156, (0 : Int32))
def fX8_readStatement_j45 (s_j45 : st_) : Option (st_ × Int32) :=
  some (s_j45, (0 : Int32))
def fX8_readStatement (s : st_) : Option (st_ × Int32) :=
  bn_ (fX8_see s) fun r1 =>
  bn_ (fX8_takes r1.1 14) fun r5 =>
  if r5.2 = (0 : Int32) then (bn_ (fX8_takes r5.1 15) fun r9 =>
  if r9.2 = (0 : Int32) then (bn_ (fX8_takes r9.1 21) fun r13 =>
  if r13.2 = (0 : Int32) then (bn_ (fX8_takes r13.1 25) fun r17 =>
  if r17.2 = (0 : Int32) then (bn_ (fX8_takes r17.1 26) fun r21 =>
  if r21.2 = (0 : Int32) then (bn_ (fX8_takes r21.1 27) fun r25 =>
  if r25.2 = (0 : Int32) then (bn_ (fX8_takes r25.1 28) fun r29 =>
  if r29.2 = (0 : Int32) then (bn_ (fX8_takes r29.1 35) fun r33 =>
  if r33.2 = (0 : Int32) then (bn_ (fX8_takes r33.1 36) fun r37 =>
  if r37.2 = (0 : Int32) then (bn_ (fX8_fails r37.1 (1 : Int32)) fun r41 =>
  gd_ (bz_ r41.2) <|
  some (r41.1, r41.2))
  else (bn_ (fX8_into r37.1 (11 : Int32) (0 : Int32) (99999 : Int32)) fun r46 =>
  if r46.2 = (0 : Int32) then (fX8_readStatement_j225 r46.1)
  else (bn_ (fX8_into r46.1 (12 : Int32) (0 : Int32) (9999 : Int32)) fun r50 =>
  if r50.2 = (0 : Int32) then (fX8_readStatement_j225 r50.1)
  else (some (r50.1, (1 : Int32))))))
  else (bn_ (fX8_readAsk r33.1 (r1.1 0 10)) fun r54 =>
  gd_ (bz_ r54.2) <|
  some (r54.1, r54.2)))
  else (bn_ (fX8_readFoe r29.1) fun r59 =>
  gd_ (bz_ r59.2) <|
  some (r59.1, r59.2)))
  else (bn_ (fX8_into r25.1 (7 : Int32) (1 : Int32) (500 : Int32)) fun r64 =>
  if r64.2 = (0 : Int32) then (fX8_readStatement_j156 r64.1)
  else (bn_ (fX8_into r64.1 (8 : Int32) (0 : Int32) (32767 : Int32)) fun r68 =>
  if r68.2 = (0 : Int32) then (fX8_readStatement_j156 r68.1)
  else (some (r68.1, (1 : Int32))))))
  else (bn_ (fX8_into r21.1 (13 : Int32) (0 : Int32) (999 : Int32)) fun r72 =>
  gd_ (bz_ r72.2) <|
  some (r72.1, r72.2)))
  else (bn_ (fX8_readMaster r17.1 (21 : Int32) (22 : Int32)) fun r77 =>
  gd_ (bz_ r77.2) <|
  some (r77.1, r77.2)))
  else (bn_ (fX8_readMaster r13.1 (5 : Int32) (6 : Int32)) fun r82 =>
  gd_ (bz_ r82.2) <|
  some (r82.1, r82.2)))
  else (bn_ (fX8_readRule r9.1 (r1.1 0 10)) fun r87 =>
  gd_ (bz_ r87.2) <|
  some (r87.1, r87.2)))
  else (bn_ (fX8_into r5.1 (2 : Int32) (0 : Int32) (99 : Int32)) fun r92 =>
  if r92.2 = (0 : Int32) then (fX8_readStatement_j45 r92.1)
  else (bn_ (fX8_into r92.1 (3 : Int32) (1 : Int32) (99 : Int32)) fun r96 =>
  if r96.2 = (0 : Int32) then (fX8_readStatement_j45 r96.1)
  else (some (r96.1, (1 : Int32)))))
theorem kX8_readStatement {E : ev_} {H : Heap} {a : Nat} {s : st_} {r : st_ × Int32} (hm : fX8_readStatement s = some r) (h0 : has_ E H a ly_O s) (hf : ev_fr E a) : sp_ E mX8_readStatement [.ref a] H (po1 (.inl (some (.int r.2))) (fun Hn => sm_ H Hn a 10 ∧ has_ E Hn a ly_O r.1)) := by
  refine sp_of (by decide +kernel) rfl rfl ?_
  generalize hQ : po1 _ _ = Q
  have hs : sm_ H H a 10 := sm_.rfl'
  unfold fX8_readStatement at hm
  refine aw_lv (lv' := [(0, .ref a)]) [0] rfl ?_
  refine aw_b (pc' := 1) (lv' := [(0, .ref a)]) (st' := [.ref a]) [(0, .aload_n 0, 1, .null)] (by decide +kernel) rfl ?_
  obtain ⟨r1, e2, hm⟩ := bn_x hm
  refine aw_cv (rest := []) (st1 := [.int r1.2]) a 0 (kX8_see e2 h0 hf) rfl rfl ckX8_see lkX8_90 h0 eo_O_0 ⟨_, _, rfl⟩ nkX8_see rfl rfl rfl (Nat.le_of_ble_eq_true rfl) (Nat.zero_le _) (Nat.zero_le _) (by decide +kernel) (fun H3 z4 => ?_)
  obtain ⟨z4, hn⟩ := z4
  have h0 := hn
  have hs := hs.step z4 (by omega) (by omega)
  refine aw_b (pc' := 6) (lv' := [(0, .ref a)]) (st' := [.ref a]) [(4, .pop, 1, .null), (5, .aload_n 0, 1, .null)] (by decide +kernel) rfl ?_
  refine aw_gl (v := .int (r1.1 0 10)) a 0 h0 eo_O_0 fgX8_81 rfl (by decide +kernel) ?_
  refine aw_b (pc' := 11) (lv' := [(1, .int (r1.1 0 10)), (0, .ref a)]) (st' := [.ref a]) [(9, .istore_n 1, 1, .null), (10, .aload_n 0, 1, .null)] (by decide +kernel) rfl ?_
  refine aw_lds 14 (by decide) rfl rfl (by decide +kernel) ?_
  obtain ⟨r5, e6, hm⟩ := bn_x hm
  refine aw_cv (rest := []) (st1 := [.int r5.2]) a 0 (kX8_takes e6 h0 hf) rfl rfl ckX8_takes lkX8_134 h0 eo_O_0 ⟨_, _, rfl⟩ nkX8_takes rfl rfl rfl (Nat.le_of_ble_eq_true rfl) (Nat.zero_le _) (Nat.zero_le _) (by decide +kernel) (fun H7 z8 => ?_)
  obtain ⟨z8, hn⟩ := z8
  have h0 := hn
  have hs := hs.step z8 (by omega) (by omega)
  refine aw_if_eq (off := 31) 47 (by decide) (by decide +kernel) (fun hc => ?_) (fun hc => ?_)
  · have hm := (if_pos hc).symm.trans hm
    refine aw_b (pc' := 48) (lv' := [(1, .int (r1.1 0 10)), (0, .ref a)]) (st' := [.ref a]) [(47, .aload_n 0, 1, .null)] (by decide +kernel) rfl ?_
    refine aw_lds 15 (by decide) rfl rfl (by decide +kernel) ?_
    obtain ⟨r9, e10, hm⟩ := bn_x hm
    refine aw_cv (rest := []) (st1 := [.int r9.2]) a 0 (kX8_takes e10 h0 hf) rfl rfl ckX8_takes lkX8_134 h0 eo_O_0 ⟨_, _, rfl⟩ nkX8_takes rfl rfl rfl (Nat.le_of_ble_eq_true rfl) (Nat.zero_le _) (Nat.zero_le _) (by decide +kernel) (fun H11 z12 => ?_)
    obtain ⟨z12, hn⟩ := z12
    have h0 := hn
    have hs := hs.step z12 (by omega) (by omega)
    refine aw_if_eq (off := 9) 62 (by decide) (by decide +kernel) (fun hc => ?_) (fun hc => ?_)
    · have hm := (if_pos hc).symm.trans hm
      refine aw_b (pc' := 63) (lv' := [(1, .int (r1.1 0 10)), (0, .ref a)]) (st' := [.ref a]) [(62, .aload_n 0, 1, .null)] (by decide +kernel) rfl ?_
      refine aw_lds 21 (by decide) rfl rfl (by decide +kernel) ?_
      obtain ⟨r13, e14, hm⟩ := bn_x hm
      refine aw_cv (rest := []) (st1 := [.int r13.2]) a 0 (kX8_takes e14 h0 hf) rfl rfl ckX8_takes lkX8_134 h0 eo_O_0 ⟨_, _, rfl⟩ nkX8_takes rfl rfl rfl (Nat.le_of_ble_eq_true rfl) (Nat.zero_le _) (Nat.zero_le _) (by decide +kernel) (fun H15 z16 => ?_)
      obtain ⟨z16, hn⟩ := z16
      have h0 := hn
      have hs := hs.step z16 (by omega) (by omega)
      refine aw_if_eq (off := 11) 79 (by decide) (by decide +kernel) (fun hc => ?_) (fun hc => ?_)
      · have hm := (if_pos hc).symm.trans hm
        refine aw_b (pc' := 80) (lv' := [(1, .int (r1.1 0 10)), (0, .ref a)]) (st' := [.ref a]) [(79, .aload_n 0, 1, .null)] (by decide +kernel) rfl ?_
        refine aw_lds 25 (by decide) rfl rfl (by decide +kernel) ?_
        obtain ⟨r17, e18, hm⟩ := bn_x hm
        refine aw_cv (rest := []) (st1 := [.int r17.2]) a 0 (kX8_takes e18 h0 hf) rfl rfl ckX8_takes lkX8_134 h0 eo_O_0 ⟨_, _, rfl⟩ nkX8_takes rfl rfl rfl (Nat.le_of_ble_eq_true rfl) (Nat.zero_le _) (Nat.zero_le _) (by decide +kernel) (fun H19 z20 => ?_)
        obtain ⟨z20, hn⟩ := z20
        have h0 := hn
        have hs := hs.step z20 (by omega) (by omega)
        refine aw_if_eq (off := 12) 97 (by decide) (by decide +kernel) (fun hc => ?_) (fun hc => ?_)
        · have hm := (if_pos hc).symm.trans hm
          refine aw_b (pc' := 98) (lv' := [(1, .int (r1.1 0 10)), (0, .ref a)]) (st' := [.ref a]) [(97, .aload_n 0, 1, .null)] (by decide +kernel) rfl ?_
          refine aw_lds 26 (by decide) rfl rfl (by decide +kernel) ?_
          obtain ⟨r21, e22, hm⟩ := bn_x hm
          refine aw_cv (rest := []) (st1 := [.int r21.2]) a 0 (kX8_takes e22 h0 hf) rfl rfl ckX8_takes lkX8_134 h0 eo_O_0 ⟨_, _, rfl⟩ nkX8_takes rfl rfl rfl (Nat.le_of_ble_eq_true rfl) (Nat.zero_le _) (Nat.zero_le _) (by decide +kernel) (fun H23 z24 => ?_)
          obtain ⟨z24, hn⟩ := z24
          have h0 := hn
          have hs := hs.step z24 (by omega) (by omega)
          refine aw_if_eq (off := 14) 117 (by decide) (by decide +kernel) (fun hc => ?_) (fun hc => ?_)
          · have hm := (if_pos hc).symm.trans hm
            refine aw_b (pc' := 118) (lv' := [(1, .int (r1.1 0 10)), (0, .ref a)]) (st' := [.ref a]) [(117, .aload_n 0, 1, .null)] (by decide +kernel) rfl ?_
            refine aw_lds 27 (by decide) rfl rfl (by decide +kernel) ?_
            obtain ⟨r25, e26, hm⟩ := bn_x hm
            refine aw_cv (rest := []) (st1 := [.int r25.2]) a 0 (kX8_takes e26 h0 hf) rfl rfl ckX8_takes lkX8_134 h0 eo_O_0 ⟨_, _, rfl⟩ nkX8_takes rfl rfl rfl (Nat.le_of_ble_eq_true rfl) (Nat.zero_le _) (Nat.zero_le _) (by decide +kernel) (fun H27 z28 => ?_)
            obtain ⟨z28, hn⟩ := z28
            have h0 := hn
            have hs := hs.step z28 (by omega) (by omega)
            refine aw_if_eq (off := 35) 158 (by decide) (by decide +kernel) (fun hc => ?_) (fun hc => ?_)
            · have hm := (if_pos hc).symm.trans hm
              refine aw_b (pc' := 159) (lv' := [(1, .int (r1.1 0 10)), (0, .ref a)]) (st' := [.ref a]) [(158, .aload_n 0, 1, .null)] (by decide +kernel) rfl ?_
              refine aw_lds 28 (by decide) rfl rfl (by decide +kernel) ?_
              obtain ⟨r29, e30, hm⟩ := bn_x hm
              refine aw_cv (rest := []) (st1 := [.int r29.2]) a 0 (kX8_takes e30 h0 hf) rfl rfl ckX8_takes lkX8_134 h0 eo_O_0 ⟨_, _, rfl⟩ nkX8_takes rfl rfl rfl (Nat.le_of_ble_eq_true rfl) (Nat.zero_le _) (Nat.zero_le _) (by decide +kernel) (fun H31 z32 => ?_)
              obtain ⟨z32, hn⟩ := z32
              have h0 := hn
              have hs := hs.step z32 (by omega) (by omega)
              refine aw_if_eq (off := 8) 172 (by decide) (by decide +kernel) (fun hc => ?_) (fun hc => ?_)
              · have hm := (if_pos hc).symm.trans hm
                refine aw_b (pc' := 173) (lv' := [(1, .int (r1.1 0 10)), (0, .ref a)]) (st' := [.ref a]) [(172, .aload_n 0, 1, .null)] (by decide +kernel) rfl ?_
                refine aw_lds 35 (by decide) rfl rfl (by decide +kernel) ?_
                obtain ⟨r33, e34, hm⟩ := bn_x hm
                refine aw_cv (rest := []) (st1 := [.int r33.2]) a 0 (kX8_takes e34 h0 hf) rfl rfl ckX8_takes lkX8_134 h0 eo_O_0 ⟨_, _, rfl⟩ nkX8_takes rfl rfl rfl (Nat.le_of_ble_eq_true rfl) (Nat.zero_le _) (Nat.zero_le _) (by decide +kernel) (fun H35 z36 => ?_)
                obtain ⟨z36, hn⟩ := z36
                have h0 := hn
                have hs := hs.step z36 (by omega) (by omega)
                refine aw_if_eq (off := 9) 187 (by decide) (by decide +kernel) (fun hc => ?_) (fun hc => ?_)
                · have hm := (if_pos hc).symm.trans hm
                  refine aw_b (pc' := 188) (lv' := [(1, .int (r1.1 0 10)), (0, .ref a)]) (st' := [.ref a]) [(187, .aload_n 0, 1, .null)] (by decide +kernel) rfl ?_
                  refine aw_lds 36 (by decide) rfl rfl (by decide +kernel) ?_
                  obtain ⟨r37, e38, hm⟩ := bn_x hm
                  refine aw_cv (rest := []) (st1 := [.int r37.2]) a 0 (kX8_takes e38 h0 hf) rfl rfl ckX8_takes lkX8_134 h0 eo_O_0 ⟨_, _, rfl⟩ nkX8_takes rfl rfl rfl (Nat.le_of_ble_eq_true rfl) (Nat.zero_le _) (Nat.zero_le _) (by decide +kernel) (fun H39 z40 => ?_)
                  obtain ⟨z40, hn⟩ := z40
                  have h0 := hn
                  have hs := hs.step z40 (by omega) (by omega)
                  refine aw_if_eq (off := 36) 229 (by decide) (by decide +kernel) (fun hc => ?_) (fun hc => ?_)
                  · have hm := (if_pos hc).symm.trans hm
                    refine aw_b (pc' := 231) (lv' := [(1, .int (r1.1 0 10)), (0, .ref a)]) (st' := [.int (1 : Int32), .ref a]) [(229, .aload_n 0, 1, .null), (230, .iconst 1, 1, .int (1 : Int32))] (by decide +kernel) rfl ?_
                    obtain ⟨r41, e42, hm⟩ := bn_x hm
                    refine aw_cv (rest := []) (st1 := [.int r41.2]) a 0 (kX8_fails e42 h0 hf) rfl rfl ckX8_fails lkX8_119 h0 eo_O_0 ⟨_, _, rfl⟩ nkX8_fails rfl rfl rfl (Nat.le_of_ble_eq_true rfl) (Nat.zero_le _) (Nat.zero_le _) (by decide +kernel) (fun H43 z44 => ?_)
                    obtain ⟨z44, hn⟩ := z44
                    have h0 := hn
                    have hs := hs.step z44 (by omega) (by omega)
                    obtain ⟨g45, hm⟩ := gd_x hm
                    obtain rfl := Option.some.inj hm
                    subst hQ
                    exact aw_zret rfl (bz_n g45) (Nat.zero_le _) (Nat.zero_le _) (by decide +kernel) ⟨rfl, hs, h0⟩
                  · have hm := (if_neg hc).symm.trans hm
                    refine aw_b (pc' := 200) (lv' := [(1, .int (r1.1 0 10)), (0, .ref a)]) (st' := [.int (0 : Int32), .int (11 : Int32), .ref a]) [(196, .aload_n 0, 1, .null), (197, .bipush 11, 2, .int (11 : Int32)), (199, .iconst 0, 1, .int (0 : Int32))] (by decide +kernel) rfl ?_
                    refine aw_ldc (v := (99999 : Int32)) kwX8_202 (by decide +kernel) ?_
                    obtain ⟨r46, e47, hm⟩ := bn_x hm
                    refine aw_cv (rest := []) (st1 := [.int r46.2]) a 0 (kX8_into e47 h0 hf) rfl rfl ckX8_into lkX8_146 h0 eo_O_0 ⟨_, _, rfl⟩ nkX8_into rfl rfl rfl (Nat.le_of_ble_eq_true rfl) (Nat.zero_le _) (Nat.zero_le _) (by decide +kernel) (fun H48 z49 => ?_)
                    obtain ⟨z49, hn⟩ := z49
                    have h0 := hn
                    have hs := hs.step z49 (by omega) (by omega)
                    have J225 : ∀ (s_j225 : st_) (H_j225 : Heap), has_ E H_j225 a ly_O s_j225 → sm_ H H_j225 a 10 → fX8_readStatement_j225 s_j225 = some r → aw E mX8_readStatement Q 225 [] [] H_j225 0 0 := by
                      intro s_j225 H_j225 h0 hs hm
                      unfold fX8_readStatement_j225 at hm
                      refine aw_b (pc' := 234) (lv' := []) (st' := [.int (0 : Int32)]) [(225, .iconst 0, 1, .int (0 : Int32)), (226, .goto 8, 3, .null)] (by decide +kernel) rfl ?_
                      obtain rfl := Option.some.inj hm
                      subst hQ
                      exact aw_zret rfl (by decide +kernel) (Nat.zero_le _) (Nat.zero_le _) (by decide +kernel) ⟨rfl, hs, h0⟩
                    refine aw_if_eq (off := 20) 225 (by decide) (by decide +kernel) (fun hc => ?_) (fun hc => ?_)
                    · have hm := (if_pos hc).symm.trans hm
                      refine aw_lv (lv' := []) [] rfl ?_
                      exact J225 r46.1 H48 h0 hs hm
                    · have hm := (if_neg hc).symm.trans hm
                      refine aw_b (pc' := 215) (lv' := [(1, .int (r1.1 0 10)), (0, .ref a)]) (st' := [.int (9999 : Int32), .int (0 : Int32), .int (12 : Int32), .ref a]) [(208, .aload_n 0, 1, .null), (209, .bipush 12, 2, .int (12 : Int32)), (211, .iconst 0, 1, .int (0 : Int32)), (212, .sipush 9999, 3, .int (9999 : Int32))] (by decide +kernel) rfl ?_
                      obtain ⟨r50, e51, hm⟩ := bn_x hm
                      refine aw_cv (rest := []) (st1 := [.int r50.2]) a 0 (kX8_into e51 h0 hf) rfl rfl ckX8_into lkX8_146 h0 eo_O_0 ⟨_, _, rfl⟩ nkX8_into rfl rfl rfl (Nat.le_of_ble_eq_true rfl) (Nat.zero_le _) (Nat.zero_le _) (by decide +kernel) (fun H52 z53 => ?_)
                      obtain ⟨z53, hn⟩ := z53
                      have h0 := hn
                      have hs := hs.step z53 (by omega) (by omega)
                      refine aw_if_eq (off := 7) 225 (by decide) (by decide +kernel) (fun hc => ?_) (fun hc => ?_)
                      · have hm := (if_pos hc).symm.trans hm
                        refine aw_lv (lv' := []) [] rfl ?_
                        exact J225 r50.1 H52 h0 hs hm
                      · have hm := (if_neg hc).symm.trans hm
                        refine aw_b (pc' := 234) (lv' := [(1, .int (r1.1 0 10)), (0, .ref a)]) (st' := [.int (1 : Int32)]) [(221, .iconst 1, 1, .int (1 : Int32)), (222, .goto 12, 3, .null)] (by decide +kernel) rfl ?_
                        obtain rfl := Option.some.inj hm
                        subst hQ
                        exact aw_zret rfl (by decide +kernel) (Nat.zero_le _) (Nat.zero_le _) (by decide +kernel) ⟨rfl, hs, h0⟩
                · have hm := (if_neg hc).symm.trans hm
                  refine aw_b (pc' := 183) (lv' := [(1, .int (r1.1 0 10)), (0, .ref a)]) (st' := [.int (r1.1 0 10), .ref a]) [(181, .aload_n 0, 1, .null), (182, .iload_n 1, 1, .null)] (by decide +kernel) rfl ?_
                  obtain ⟨r54, e55, hm⟩ := bn_x hm
                  refine aw_cv (rest := []) (st1 := [.int r54.2]) a 0 (kX8_readAsk e55 h0 hf) rfl rfl ckX8_readAsk lkX8_197 h0 eo_O_0 ⟨_, _, rfl⟩ nkX8_readAsk rfl rfl rfl (Nat.le_of_ble_eq_true rfl) (Nat.zero_le _) (Nat.zero_le _) (by decide +kernel) (fun H56 z57 => ?_)
                  obtain ⟨z57, hn⟩ := z57
                  have h0 := hn
                  have hs := hs.step z57 (by omega) (by omega)
                  obtain ⟨g58, hm⟩ := gd_x hm
                  obtain rfl := Option.some.inj hm
                  subst hQ
                  exact aw_zret rfl (bz_n g58) (Nat.zero_le _) (Nat.zero_le _) (by decide +kernel) ⟨rfl, hs, h0⟩
              · have hm := (if_neg hc).symm.trans hm
                refine aw_b (pc' := 168) (lv' := [(1, .int (r1.1 0 10)), (0, .ref a)]) (st' := [.ref a]) [(167, .aload_n 0, 1, .null)] (by decide +kernel) rfl ?_
                obtain ⟨r59, e60, hm⟩ := bn_x hm
                refine aw_cv (rest := []) (st1 := [.int r59.2]) a 0 (kX8_readFoe e60 h0 hf) rfl rfl ckX8_readFoe lkX8_191 h0 eo_O_0 ⟨_, _, rfl⟩ nkX8_readFoe rfl rfl rfl (Nat.le_of_ble_eq_true rfl) (Nat.zero_le _) (Nat.zero_le _) (by decide +kernel) (fun H61 z62 => ?_)
                obtain ⟨z62, hn⟩ := z62
                have h0 := hn
                have hs := hs.step z62 (by omega) (by omega)
                obtain ⟨g63, hm⟩ := gd_x hm
                obtain rfl := Option.some.inj hm
                subst hQ
                exact aw_zret rfl (bz_n g63) (Nat.zero_le _) (Nat.zero_le _) (by decide +kernel) ⟨rfl, hs, h0⟩
            · have hm := (if_neg hc).symm.trans hm
              refine aw_b (pc' := 133) (lv' := [(1, .int (r1.1 0 10)), (0, .ref a)]) (st' := [.int (500 : Int32), .int (1 : Int32), .int (7 : Int32), .ref a]) [(126, .aload_n 0, 1, .null), (127, .bipush 7, 2, .int (7 : Int32)), (129, .iconst 1, 1, .int (1 : Int32)), (130, .sipush 500, 3, .int (500 : Int32))] (by decide +kernel) rfl ?_
              obtain ⟨r64, e65, hm⟩ := bn_x hm
              refine aw_cv (rest := []) (st1 := [.int r64.2]) a 0 (kX8_into e65 h0 hf) rfl rfl ckX8_into lkX8_146 h0 eo_O_0 ⟨_, _, rfl⟩ nkX8_into rfl rfl rfl (Nat.le_of_ble_eq_true rfl) (Nat.zero_le _) (Nat.zero_le _) (by decide +kernel) (fun H66 z67 => ?_)
              obtain ⟨z67, hn⟩ := z67
              have h0 := hn
              have hs := hs.step z67 (by omega) (by omega)
              have J156 : ∀ (s_j156 : st_) (H_j156 : Heap), has_ E H_j156 a ly_O s_j156 → sm_ H H_j156 a 10 → fX8_readStatement_j156 s_j156 = some r → aw E mX8_readStatement Q 156 [] [] H_j156 0 0 := by
                intro s_j156 H_j156 h0 hs hm
                unfold fX8_readStatement_j156 at hm
                refine aw_b (pc' := 157) (lv' := []) (st' := [.int (0 : Int32)]) [(156, .iconst 0, 1, .int (0 : Int32))] (by decide +kernel) rfl ?_
                obtain rfl := Option.some.inj hm
                subst hQ
                exact aw_zret rfl (by decide +kernel) (Nat.zero_le _) (Nat.zero_le _) (by decide +kernel) ⟨rfl, hs, h0⟩
              refine aw_if_eq (off := 20) 156 (by decide) (by decide +kernel) (fun hc => ?_) (fun hc => ?_)
              · have hm := (if_pos hc).symm.trans hm
                refine aw_lv (lv' := []) [] rfl ?_
                exact J156 r64.1 H66 h0 hs hm
              · have hm := (if_neg hc).symm.trans hm
                refine aw_b (pc' := 146) (lv' := [(1, .int (r1.1 0 10)), (0, .ref a)]) (st' := [.int (32767 : Int32), .int (0 : Int32), .int (8 : Int32), .ref a]) [(139, .aload_n 0, 1, .null), (140, .bipush 8, 2, .int (8 : Int32)), (142, .iconst 0, 1, .int (0 : Int32)), (143, .sipush 32767, 3, .int (32767 : Int32))] (by decide +kernel) rfl ?_
                obtain ⟨r68, e69, hm⟩ := bn_x hm
                refine aw_cv (rest := []) (st1 := [.int r68.2]) a 0 (kX8_into e69 h0 hf) rfl rfl ckX8_into lkX8_146 h0 eo_O_0 ⟨_, _, rfl⟩ nkX8_into rfl rfl rfl (Nat.le_of_ble_eq_true rfl) (Nat.zero_le _) (Nat.zero_le _) (by decide +kernel) (fun H70 z71 => ?_)
                obtain ⟨z71, hn⟩ := z71
                have h0 := hn
                have hs := hs.step z71 (by omega) (by omega)
                refine aw_if_eq (off := 7) 156 (by decide) (by decide +kernel) (fun hc => ?_) (fun hc => ?_)
                · have hm := (if_pos hc).symm.trans hm
                  refine aw_lv (lv' := []) [] rfl ?_
                  exact J156 r68.1 H70 h0 hs hm
                · have hm := (if_neg hc).symm.trans hm
                  refine aw_b (pc' := 157) (lv' := [(1, .int (r1.1 0 10)), (0, .ref a)]) (st' := [.int (1 : Int32)]) [(152, .iconst 1, 1, .int (1 : Int32)), (153, .goto 4, 3, .null)] (by decide +kernel) rfl ?_
                  obtain rfl := Option.some.inj hm
                  subst hQ
                  exact aw_zret rfl (by decide +kernel) (Nat.zero_le _) (Nat.zero_le _) (by decide +kernel) ⟨rfl, hs, h0⟩
          · have hm := (if_neg hc).symm.trans hm
            refine aw_b (pc' := 113) (lv' := [(1, .int (r1.1 0 10)), (0, .ref a)]) (st' := [.int (999 : Int32), .int (0 : Int32), .int (13 : Int32), .ref a]) [(106, .aload_n 0, 1, .null), (107, .bipush 13, 2, .int (13 : Int32)), (109, .iconst 0, 1, .int (0 : Int32)), (110, .sipush 999, 3, .int (999 : Int32))] (by decide +kernel) rfl ?_
            obtain ⟨r72, e73, hm⟩ := bn_x hm
            refine aw_cv (rest := []) (st1 := [.int r72.2]) a 0 (kX8_into e73 h0 hf) rfl rfl ckX8_into lkX8_146 h0 eo_O_0 ⟨_, _, rfl⟩ nkX8_into rfl rfl rfl (Nat.le_of_ble_eq_true rfl) (Nat.zero_le _) (Nat.zero_le _) (by decide +kernel) (fun H74 z75 => ?_)
            obtain ⟨z75, hn⟩ := z75
            have h0 := hn
            have hs := hs.step z75 (by omega) (by omega)
            obtain ⟨g76, hm⟩ := gd_x hm
            obtain rfl := Option.some.inj hm
            subst hQ
            exact aw_zret rfl (bz_n g76) (Nat.zero_le _) (Nat.zero_le _) (by decide +kernel) ⟨rfl, hs, h0⟩
        · have hm := (if_neg hc).symm.trans hm
          refine aw_b (pc' := 93) (lv' := [(1, .int (r1.1 0 10)), (0, .ref a)]) (st' := [.int (22 : Int32), .int (21 : Int32), .ref a]) [(88, .aload_n 0, 1, .null), (89, .bipush 21, 2, .int (21 : Int32)), (91, .bipush 22, 2, .int (22 : Int32))] (by decide +kernel) rfl ?_
          obtain ⟨r77, e78, hm⟩ := bn_x hm
          refine aw_cv (rest := []) (st1 := [.int r77.2]) a 0 (kX8_readMaster e78 h0 hf) rfl rfl ckX8_readMaster lkX8_180 h0 eo_O_0 ⟨_, _, rfl⟩ nkX8_readMaster rfl rfl rfl (Nat.le_of_ble_eq_true rfl) (Nat.zero_le _) (Nat.zero_le _) (by decide +kernel) (fun H79 z80 => ?_)
          obtain ⟨z80, hn⟩ := z80
          have h0 := hn
          have hs := hs.step z80 (by omega) (by omega)
          obtain ⟨g81, hm⟩ := gd_x hm
          obtain rfl := Option.some.inj hm
          subst hQ
          exact aw_zret rfl (bz_n g81) (Nat.zero_le _) (Nat.zero_le _) (by decide +kernel) ⟨rfl, hs, h0⟩
      · have hm := (if_neg hc).symm.trans hm
        refine aw_b (pc' := 75) (lv' := [(1, .int (r1.1 0 10)), (0, .ref a)]) (st' := [.int (6 : Int32), .int (5 : Int32), .ref a]) [(71, .aload_n 0, 1, .null), (72, .iconst 5, 1, .int (5 : Int32)), (73, .bipush 6, 2, .int (6 : Int32))] (by decide +kernel) rfl ?_
        obtain ⟨r82, e83, hm⟩ := bn_x hm
        refine aw_cv (rest := []) (st1 := [.int r82.2]) a 0 (kX8_readMaster e83 h0 hf) rfl rfl ckX8_readMaster lkX8_180 h0 eo_O_0 ⟨_, _, rfl⟩ nkX8_readMaster rfl rfl rfl (Nat.le_of_ble_eq_true rfl) (Nat.zero_le _) (Nat.zero_le _) (by decide +kernel) (fun H84 z85 => ?_)
        obtain ⟨z85, hn⟩ := z85
        have h0 := hn
        have hs := hs.step z85 (by omega) (by omega)
        obtain ⟨g86, hm⟩ := gd_x hm
        obtain rfl := Option.some.inj hm
        subst hQ
        exact aw_zret rfl (bz_n g86) (Nat.zero_le _) (Nat.zero_le _) (by decide +kernel) ⟨rfl, hs, h0⟩
    · have hm := (if_neg hc).symm.trans hm
      refine aw_b (pc' := 58) (lv' := [(1, .int (r1.1 0 10)), (0, .ref a)]) (st' := [.int (r1.1 0 10), .ref a]) [(56, .aload_n 0, 1, .null), (57, .iload_n 1, 1, .null)] (by decide +kernel) rfl ?_
      obtain ⟨r87, e88, hm⟩ := bn_x hm
      refine aw_cv (rest := []) (st1 := [.int r87.2]) a 0 (kX8_readRule e88 h0 hf) rfl rfl ckX8_readRule lkX8_175 h0 eo_O_0 ⟨_, _, rfl⟩ nkX8_readRule rfl rfl rfl (Nat.le_of_ble_eq_true rfl) (Nat.zero_le _) (Nat.zero_le _) (by decide +kernel) (fun H89 z90 => ?_)
      obtain ⟨z90, hn⟩ := z90
      have h0 := hn
      have hs := hs.step z90 (by omega) (by omega)
      obtain ⟨g91, hm⟩ := gd_x hm
      obtain rfl := Option.some.inj hm
      subst hQ
      exact aw_zret rfl (bz_n g91) (Nat.zero_le _) (Nat.zero_le _) (by decide +kernel) ⟨rfl, hs, h0⟩
  · have hm := (if_neg hc).symm.trans hm
    refine aw_b (pc' := 24) (lv' := [(1, .int (r1.1 0 10)), (0, .ref a)]) (st' := [.int (99 : Int32), .int (0 : Int32), .int (2 : Int32), .ref a]) [(19, .aload_n 0, 1, .null), (20, .iconst 2, 1, .int (2 : Int32)), (21, .iconst 0, 1, .int (0 : Int32)), (22, .bipush 99, 2, .int (99 : Int32))] (by decide +kernel) rfl ?_
    obtain ⟨r92, e93, hm⟩ := bn_x hm
    refine aw_cv (rest := []) (st1 := [.int r92.2]) a 0 (kX8_into e93 h0 hf) rfl rfl ckX8_into lkX8_146 h0 eo_O_0 ⟨_, _, rfl⟩ nkX8_into rfl rfl rfl (Nat.le_of_ble_eq_true rfl) (Nat.zero_le _) (Nat.zero_le _) (by decide +kernel) (fun H94 z95 => ?_)
    obtain ⟨z95, hn⟩ := z95
    have h0 := hn
    have hs := hs.step z95 (by omega) (by omega)
    have J45 : ∀ (s_j45 : st_) (H_j45 : Heap), has_ E H_j45 a ly_O s_j45 → sm_ H H_j45 a 10 → fX8_readStatement_j45 s_j45 = some r → aw E mX8_readStatement Q 45 [] [] H_j45 0 0 := by
      intro s_j45 H_j45 h0 hs hm
      unfold fX8_readStatement_j45 at hm
      refine aw_b (pc' := 46) (lv' := []) (st' := [.int (0 : Int32)]) [(45, .iconst 0, 1, .int (0 : Int32))] (by decide +kernel) rfl ?_
      obtain rfl := Option.some.inj hm
      subst hQ
      exact aw_zret rfl (by decide +kernel) (Nat.zero_le _) (Nat.zero_le _) (by decide +kernel) ⟨rfl, hs, h0⟩
    refine aw_if_eq (off := 18) 45 (by decide) (by decide +kernel) (fun hc => ?_) (fun hc => ?_)
    · have hm := (if_pos hc).symm.trans hm
      refine aw_lv (lv' := []) [] rfl ?_
      exact J45 r92.1 H94 h0 hs hm
    · have hm := (if_neg hc).symm.trans hm
      refine aw_b (pc' := 35) (lv' := [(1, .int (r1.1 0 10)), (0, .ref a)]) (st' := [.int (99 : Int32), .int (1 : Int32), .int (3 : Int32), .ref a]) [(30, .aload_n 0, 1, .null), (31, .iconst 3, 1, .int (3 : Int32)), (32, .iconst 1, 1, .int (1 : Int32)), (33, .bipush 99, 2, .int (99 : Int32))] (by decide +kernel) rfl ?_
      obtain ⟨r96, e97, hm⟩ := bn_x hm
      refine aw_cv (rest := []) (st1 := [.int r96.2]) a 0 (kX8_into e97 h0 hf) rfl rfl ckX8_into lkX8_146 h0 eo_O_0 ⟨_, _, rfl⟩ nkX8_into rfl rfl rfl (Nat.le_of_ble_eq_true rfl) (Nat.zero_le _) (Nat.zero_le _) (by decide +kernel) (fun H98 z99 => ?_)
      obtain ⟨z99, hn⟩ := z99
      have h0 := hn
      have hs := hs.step z99 (by omega) (by omega)
      refine aw_if_eq (off := 7) 45 (by decide) (by decide +kernel) (fun hc => ?_) (fun hc => ?_)
      · have hm := (if_pos hc).symm.trans hm
        refine aw_lv (lv' := []) [] rfl ?_
        exact J45 r96.1 H98 h0 hs hm
      · have hm := (if_neg hc).symm.trans hm
        refine aw_b (pc' := 46) (lv' := [(1, .int (r1.1 0 10)), (0, .ref a)]) (st' := [.int (1 : Int32)]) [(41, .iconst 1, 1, .int (1 : Int32)), (42, .goto 4, 3, .null)] (by decide +kernel) rfl ?_
        obtain rfl := Option.some.inj hm
        subst hQ
        exact aw_zret rfl (by decide +kernel) (Nat.zero_le _) (Nat.zero_le _) (by decide +kernel) ⟨rfl, hs, h0⟩
def mX8_readsAll : mt_ := (yX8_readsAll, cX8_readsAll, 1, some .boolean, [], { frames := 9, locals := 228, cells := 0, slots := 0 })
theorem ckX8_readsAll : cokV_ mX8_readsAll := ⟨⟨(uw_mem 1514 (by decide +kernel) (by decide +kernel)), (uw_mem 112 (by decide +kernel) (by decide +kernel)), by decide +kernel, by decide +kernel⟩, (uw_mem 1513 (by decide +kernel) (by decide +kernel)), (uw_mem 28 (by decide +kernel) (by decide +kernel))⟩
theorem nkX8_readsAll : nok_ mX8_readsAll 0 := by decide +kernel
theorem lkX8_205 : Cond.methodLink RX8 205 yX8_readStatement ∈ uw_ := (uw_mem 1562 (by decide +kernel) (by decide +kernel))
def fX8_readsAll_j89 (s_j89 : st_) : Option (st_ × Int32) :=
  some (s_j89, (1 : Int32))
def fX8_readsAll_x45_73 (s_x45_73 : st_) : Option (st_ × Int32) :=
  bn_ (fX8_see s_x45_73) fun r14 =>
  if r14.2 = (-1 : Int32) then (fX8_readsAll_j89 r14.1)
  else (bn_ (fX8_fails r14.1 (1 : Int32)) fun r18 =>
  if r18.2 = (0 : Int32) then (some (r18.1, (0 : Int32)))
  else (fX8_readsAll_j89 r18.1))
def fX8_readsAll_x45_71 (s_x45_71 : st_) : Option (st_ × Int32) :=
  some (s_x45_71, (0 : Int32))
def fX8_readsAll_k45 (x : (st_) ⊕ (st_)) : Option (st_ × Int32) :=
  Sum.elim (fun z => fX8_readsAll_x45_71 z) (fun z => fX8_readsAll_x45_73 z) x
def fX8_readsAll_b45 (s_b45 : st_) : Option ((st_) ⊕ ((st_) ⊕ (st_))) :=
  bn_ (fX8_see s_b45) fun r22 =>
  if r22.2 = (59 : Int32) then (bd_ (pt_ r22.1 0 9 ((r22.1 0 9) + (1 : Int32))) fun s26 =>
  bn_ (fX8_readStatement s26) fun r30 =>
  if r30.2 = (0 : Int32) then (some (.inr (.inl r30.1)))
  else (some (.inl r30.1)))
  else (some (.inr (.inr r22.1)))
def fX8_readsAll_l45 : Nat → st_ → Option ((st_) ⊕ (st_)) :=
  it_ (fun v => fX8_readsAll_b45 v)
def fX8_readsAll (s : st_) : Option (st_ × Int32) :=
  bn_ (fX8_takes s 13) fun r1 =>
  if r1.2 = (0 : Int32) then (bn_ (fX8_fails r1.1 (1 : Int32)) fun r34 =>
  gd_ (bz_ r34.2) <|
  some (r34.1, r34.2))
  else (bn_ (fX8_into r1.1 (0 : Int32) (2 : Int32) (100 : Int32)) fun r5 =>
  if r5.2 = (0 : Int32) then (some (r5.1, (0 : Int32)))
  else (gd_ (ib_ (0 : Int32) 12584) <|
  bn_ (fX8_into r5.1 (1 : Int32) (0 : Int32) ((r5.1 3 (ix_ (0 : Int32))) - (1 : Int32))) fun r10 =>
  if r10.2 = (0 : Int32) then (some (r10.1, (0 : Int32)))
  else (bn_ (fX8_readsAll_l45 FU_ r10.1) (fX8_readsAll_k45))))
theorem kX8_readsAll {E : ev_} {H : Heap} {a : Nat} {s : st_} {r : st_ × Int32} (hm : fX8_readsAll s = some r) (h0 : has_ E H a ly_O s) (hf : ev_fr E a) : sp_ E mX8_readsAll [.ref a] H (po1 (.inl (some (.int r.2))) (fun Hn => sm_ H Hn a 10 ∧ has_ E Hn a ly_O r.1)) := by
  refine sp_of (by decide +kernel) rfl rfl ?_
  generalize hQ : po1 _ _ = Q
  have hs : sm_ H H a 10 := sm_.rfl'
  unfold fX8_readsAll at hm
  refine aw_lv (lv' := [(0, .ref a)]) [0] rfl ?_
  refine aw_b (pc' := 1) (lv' := [(0, .ref a)]) (st' := [.ref a]) [(0, .aload_n 0, 1, .null)] (by decide +kernel) rfl ?_
  refine aw_lds 13 (by decide) rfl rfl (by decide +kernel) ?_
  obtain ⟨r1, e2, hm⟩ := bn_x hm
  refine aw_cv (rest := []) (st1 := [.int r1.2]) a 0 (kX8_takes e2 h0 hf) rfl rfl ckX8_takes lkX8_134 h0 eo_O_0 ⟨_, _, rfl⟩ nkX8_takes rfl rfl rfl (Nat.le_of_ble_eq_true rfl) (Nat.zero_le _) (Nat.zero_le _) (by decide +kernel) (fun H3 z4 => ?_)
  obtain ⟨z4, hn⟩ := z4
  have h0 := hn
  have hs := hs.step z4 (by omega) (by omega)
  refine aw_if_ne (off := 9) 15 (by decide) (by decide +kernel) (fun hc => ?_) (fun hc => ?_)
  · have hm := (if_neg hc).symm.trans hm
    refine aw_b (pc' := 20) (lv' := [(0, .ref a)]) (st' := [.int (100 : Int32), .int (2 : Int32), .int (0 : Int32), .ref a]) [(15, .aload_n 0, 1, .null), (16, .iconst 0, 1, .int (0 : Int32)), (17, .iconst 2, 1, .int (2 : Int32)), (18, .bipush 100, 2, .int (100 : Int32))] (by decide +kernel) rfl ?_
    obtain ⟨r5, e6, hm⟩ := bn_x hm
    refine aw_cv (rest := []) (st1 := [.int r5.2]) a 0 (kX8_into e6 h0 hf) rfl rfl ckX8_into lkX8_146 h0 eo_O_0 ⟨_, _, rfl⟩ nkX8_into rfl rfl rfl (Nat.le_of_ble_eq_true rfl) (Nat.zero_le _) (Nat.zero_le _) (by decide +kernel) (fun H7 z8 => ?_)
    obtain ⟨z8, hn⟩ := z8
    have h0 := hn
    have hs := hs.step z8 (by omega) (by omega)
    refine aw_if_eq (off := 20) 43 (by decide) (by decide +kernel) (fun hc => ?_) (fun hc => ?_)
    · have hm := (if_pos hc).symm.trans hm
      refine aw_b (pc' := 44) (lv' := [(0, .ref a)]) (st' := [.int (0 : Int32)]) [(43, .iconst 0, 1, .int (0 : Int32))] (by decide +kernel) rfl ?_
      obtain rfl := Option.some.inj hm
      subst hQ
      exact aw_zret rfl (by decide +kernel) (Nat.zero_le _) (Nat.zero_le _) (by decide +kernel) ⟨rfl, hs, h0⟩
    · have hm := (if_neg hc).symm.trans hm
      refine aw_b (pc' := 30) (lv' := [(0, .ref a)]) (st' := [.ref a, .int (0 : Int32), .int (1 : Int32), .ref a]) [(26, .aload_n 0, 1, .null), (27, .iconst 1, 1, .int (1 : Int32)), (28, .iconst 0, 1, .int (0 : Int32)), (29, .aload_n 0, 1, .null)] (by decide +kernel) rfl ?_
      refine aw_gl (v := .ref (a + 3)) a 0 h0 eo_O_0 fgX8_16 rfl (by decide +kernel) ?_
      refine aw_b (pc' := 34) (lv' := [(0, .ref a)]) (st' := [.int (0 : Int32), .ref (a + 3), .int (0 : Int32), .int (1 : Int32), .ref a]) [(33, .iconst 0, 1, .int (0 : Int32))] (by decide +kernel) rfl ?_
      obtain ⟨g9, hm⟩ := gd_x hm
      refine aw_ial a 3 h0 rfl g9 (by decide +kernel) ?_
      refine aw_b (pc' := 37) (lv' := [(0, .ref a)]) (st' := [.int ((r5.1 3 (ix_ (0 : Int32))) - (1 : Int32)), .int (0 : Int32), .int (1 : Int32), .ref a]) [(35, .iconst 1, 1, .int (1 : Int32)), (36, .isub, 1, .null)] (by decide +kernel) rfl ?_
      obtain ⟨r10, e11, hm⟩ := bn_x hm
      refine aw_cv (rest := []) (st1 := [.int r10.2]) a 0 (kX8_into e11 h0 hf) rfl rfl ckX8_into lkX8_146 h0 eo_O_0 ⟨_, _, rfl⟩ nkX8_into rfl rfl rfl (Nat.le_of_ble_eq_true rfl) (Nat.zero_le _) (Nat.zero_le _) (by decide +kernel) (fun H12 z13 => ?_)
      obtain ⟨z13, hn⟩ := z13
      have h0 := hn
      have hs := hs.step z13 (by omega) (by omega)
      refine aw_if_ne (off := 5) 45 (by decide) (by decide +kernel) (fun hc => ?_) (fun hc => ?_)
      · have hm := (if_neg hc).symm.trans hm
        obtain ⟨x45, hx45, hr45⟩ := bn_x hm
        have X45_73 : ∀ (s_x45_73 : st_) (H_x45_73 : Heap), has_ E H_x45_73 a ly_O s_x45_73 → sm_ H H_x45_73 a 10 → fX8_readsAll_x45_73 s_x45_73 = some r → aw E mX8_readsAll Q 73 [(0, .ref a)] [] H_x45_73 0 0 := by
          intro s_x45_73 H_x45_73 h0 hs hm
          unfold fX8_readsAll_x45_73 at hm
          refine aw_b (pc' := 74) (lv' := [(0, .ref a)]) (st' := [.ref a]) [(73, .aload_n 0, 1, .null)] (by decide +kernel) rfl ?_
          obtain ⟨r14, e15, hm⟩ := bn_x hm
          refine aw_cv (rest := []) (st1 := [.int r14.2]) a 0 (kX8_see e15 h0 hf) rfl rfl ckX8_see lkX8_90 h0 eo_O_0 ⟨_, _, rfl⟩ nkX8_see rfl rfl rfl (Nat.le_of_ble_eq_true rfl) (Nat.zero_le _) (Nat.zero_le _) (by decide +kernel) (fun H16 z17 => ?_)
          obtain ⟨z17, hn⟩ := z17
          have h0 := hn
          have hs := hs.step z17 (by omega) (by omega)
          refine aw_b (pc' := 78) (lv' := [(0, .ref a)]) (st' := [.int (-1 : Int32), .int r14.2]) [(77, .iconst (-1), 1, .int (-1 : Int32))] (by decide +kernel) rfl ?_
          have J89 : ∀ (s_j89 : st_) (H_j89 : Heap), has_ E H_j89 a ly_O s_j89 → sm_ H H_j89 a 10 → fX8_readsAll_j89 s_j89 = some r → aw E mX8_readsAll Q 89 [] [] H_j89 0 0 := by
            intro s_j89 H_j89 h0 hs hm
            unfold fX8_readsAll_j89 at hm
            refine aw_b (pc' := 94) (lv' := []) (st' := [.int (1 : Int32)]) [(89, .iconst 1, 1, .int (1 : Int32)), (90, .goto 4, 3, .null)] (by decide +kernel) rfl ?_
            obtain rfl := Option.some.inj hm
            subst hQ
            exact aw_zret rfl (by decide +kernel) (Nat.zero_le _) (Nat.zero_le _) (by decide +kernel) ⟨rfl, hs, h0⟩
          refine aw_ic_eq (off := 11) 89 (by decide) (by decide +kernel) (fun hc => ?_) (fun hc => ?_)
          · have hm := (if_pos hc).symm.trans hm
            refine aw_lv (lv' := []) [] rfl ?_
            exact J89 r14.1 H16 h0 hs hm
          · have hm := (if_neg hc).symm.trans hm
            refine aw_b (pc' := 83) (lv' := [(0, .ref a)]) (st' := [.int (1 : Int32), .ref a]) [(81, .aload_n 0, 1, .null), (82, .iconst 1, 1, .int (1 : Int32))] (by decide +kernel) rfl ?_
            obtain ⟨r18, e19, hm⟩ := bn_x hm
            refine aw_cv (rest := []) (st1 := [.int r18.2]) a 0 (kX8_fails e19 h0 hf) rfl rfl ckX8_fails lkX8_119 h0 eo_O_0 ⟨_, _, rfl⟩ nkX8_fails rfl rfl rfl (Nat.le_of_ble_eq_true rfl) (Nat.zero_le _) (Nat.zero_le _) (by decide +kernel) (fun H20 z21 => ?_)
            obtain ⟨z21, hn⟩ := z21
            have h0 := hn
            have hs := hs.step z21 (by omega) (by omega)
            refine aw_if_eq (off := 7) 93 (by decide) (by decide +kernel) (fun hc => ?_) (fun hc => ?_)
            · have hm := (if_pos hc).symm.trans hm
              refine aw_b (pc' := 94) (lv' := [(0, .ref a)]) (st' := [.int (0 : Int32)]) [(93, .iconst 0, 1, .int (0 : Int32))] (by decide +kernel) rfl ?_
              obtain rfl := Option.some.inj hm
              subst hQ
              exact aw_zret rfl (by decide +kernel) (Nat.zero_le _) (Nat.zero_le _) (by decide +kernel) ⟨rfl, hs, h0⟩
            · have hm := (if_neg hc).symm.trans hm
              refine aw_lv (lv' := []) [] rfl ?_
              exact J89 r18.1 H20 h0 hs hm
        have X45_71 : ∀ (s_x45_71 : st_) (H_x45_71 : Heap), has_ E H_x45_71 a ly_O s_x45_71 → sm_ H H_x45_71 a 10 → fX8_readsAll_x45_71 s_x45_71 = some r → aw E mX8_readsAll Q 71 [] [] H_x45_71 0 0 := by
          intro s_x45_71 H_x45_71 h0 hs hm
          unfold fX8_readsAll_x45_71 at hm
          refine aw_b (pc' := 72) (lv' := []) (st' := [.int (0 : Int32)]) [(71, .iconst 0, 1, .int (0 : Int32))] (by decide +kernel) rfl ?_
          obtain rfl := Option.some.inj hm
          subst hQ
          exact aw_zret rfl (by decide +kernel) (Nat.zero_le _) (Nat.zero_le _) (by decide +kernel) ⟨rfl, hs, h0⟩
        have L45 : ∀ (fu : Nat) (s_b45 : st_) (H_b45 : Heap), has_ E H_b45 a ly_O s_b45 → sm_ H H_b45 a 10 → fX8_readsAll_l45 fu s_b45 = some x45 → aw E mX8_readsAll Q 45 [(0, .ref a)] [] H_b45 0 0 := by
          intro fu
          induction fu with
          | zero =>
            intro s_b45 H_b45 h0 hs hm
            exact (it_0 hm).elim
          | succ fu ih45 =>
            intro s_b45 H_b45 h0 hs hm
            obtain ⟨y45, hm, hk45⟩ := it_s hm
            have hm : fX8_readsAll_b45 s_b45 = some y45 := hm
            unfold fX8_readsAll_b45 at hm
            refine aw_b (pc' := 46) (lv' := [(0, .ref a)]) (st' := [.ref a]) [(45, .aload_n 0, 1, .null)] (by decide +kernel) rfl ?_
            obtain ⟨r22, e23, hm⟩ := bn_x hm
            refine aw_cv (rest := []) (st1 := [.int r22.2]) a 0 (kX8_see e23 h0 hf) rfl rfl ckX8_see lkX8_90 h0 eo_O_0 ⟨_, _, rfl⟩ nkX8_see rfl rfl rfl (Nat.le_of_ble_eq_true rfl) (Nat.zero_le _) (Nat.zero_le _) (by decide +kernel) (fun H24 z25 => ?_)
            obtain ⟨z25, hn⟩ := z25
            have h0 := hn
            have hs := hs.step z25 (by omega) (by omega)
            refine aw_b (pc' := 51) (lv' := [(0, .ref a)]) (st' := [.int (59 : Int32), .int r22.2]) [(49, .bipush 59, 2, .int (59 : Int32))] (by decide +kernel) rfl ?_
            refine aw_ic_ne (off := 22) 73 (by decide) (by decide +kernel) (fun hc => ?_) (fun hc => ?_)
            · have hm := (if_neg hc).symm.trans hm
              cases hm
              exact X45_73 r22.1 H24 h0 hs ((congrArg fX8_readsAll_k45 (show (.inr r22.1) = x45 from hk45)).trans hr45)
            · have hm := (if_pos hc).symm.trans hm
              refine aw_b (pc' := 56) (lv' := [(0, .ref a)]) (st' := [.ref a, .ref a]) [(54, .aload_n 0, 1, .null), (55, .dup, 1, .null)] (by decide +kernel) rfl ?_
              refine aw_gl (v := .int (r22.1 0 9)) a 0 h0 eo_O_0 fgX8_78 rfl (by decide +kernel) ?_
              refine aw_b (pc' := 61) (lv' := [(0, .ref a)]) (st' := [.int ((r22.1 0 9) + (1 : Int32)), .ref a]) [(59, .iconst 1, 1, .int (1 : Int32)), (60, .iadd, 1, .null)] (by decide +kernel) rfl ?_
              obtain ⟨s26, e27, hm⟩ := bd_x hm
              refine aw_pl a 0 h0 eo_O_0 fsq_8_9 fpX8_78 hf rfl rfl e27 (by decide +kernel) (fun H28 h0 z29 => ?_)
              have hs := hs.step z29 (by omega) (by omega)
              refine aw_b (pc' := 65) (lv' := [(0, .ref a)]) (st' := [.ref a]) [(64, .aload_n 0, 1, .null)] (by decide +kernel) rfl ?_
              obtain ⟨r30, e31, hm⟩ := bn_x hm
              refine aw_cv (rest := []) (st1 := [.int r30.2]) a 0 (kX8_readStatement e31 h0 hf) rfl rfl ckX8_readStatement lkX8_205 h0 eo_O_0 ⟨_, _, rfl⟩ nkX8_readStatement rfl rfl rfl (Nat.le_of_ble_eq_true rfl) (Nat.zero_le _) (Nat.zero_le _) (by decide +kernel) (fun H32 z33 => ?_)
              obtain ⟨z33, hn⟩ := z33
              have h0 := hn
              have hs := hs.step z33 (by omega) (by omega)
              refine aw_if_ne (off := (-23)) 45 (by decide) (by decide +kernel) (fun hc => ?_) (fun hc => ?_)
              · have hm := (if_neg hc).symm.trans hm
                cases hm
                exact ih45 r30.1 H32 h0 hs hk45
              · have hm := (if_pos hc).symm.trans hm
                cases hm
                refine aw_lv (lv' := []) [] rfl ?_
                exact X45_71 r30.1 H32 h0 hs ((congrArg fX8_readsAll_k45 (show (.inl r30.1) = x45 from hk45)).trans hr45)
        exact L45 FU_ r10.1 H12 h0 hs hx45
      · have hm := (if_pos hc).symm.trans hm
        refine aw_b (pc' := 44) (lv' := [(0, .ref a)]) (st' := [.int (0 : Int32)]) [(43, .iconst 0, 1, .int (0 : Int32))] (by decide +kernel) rfl ?_
        obtain rfl := Option.some.inj hm
        subst hQ
        exact aw_zret rfl (by decide +kernel) (Nat.zero_le _) (Nat.zero_le _) (by decide +kernel) ⟨rfl, hs, h0⟩
  · have hm := (if_pos hc).symm.trans hm
    refine aw_b (pc' := 11) (lv' := [(0, .ref a)]) (st' := [.int (1 : Int32), .ref a]) [(9, .aload_n 0, 1, .null), (10, .iconst 1, 1, .int (1 : Int32))] (by decide +kernel) rfl ?_
    obtain ⟨r34, e35, hm⟩ := bn_x hm
    refine aw_cv (rest := []) (st1 := [.int r34.2]) a 0 (kX8_fails e35 h0 hf) rfl rfl ckX8_fails lkX8_119 h0 eo_O_0 ⟨_, _, rfl⟩ nkX8_fails rfl rfl rfl (Nat.le_of_ble_eq_true rfl) (Nat.zero_le _) (Nat.zero_le _) (by decide +kernel) (fun H36 z37 => ?_)
    obtain ⟨z37, hn⟩ := z37
    have h0 := hn
    have hs := hs.step z37 (by omega) (by omega)
    obtain ⟨g38, hm⟩ := gd_x hm
    obtain rfl := Option.some.inj hm
    subst hQ
    exact aw_zret rfl (bz_n g38) (Nat.zero_le _) (Nat.zero_le _) (by decide +kernel) ⟨rfl, hs, h0⟩
def mX8_load : mt_ := (yX8_load, cX8_load, 2, some .int, [], { frames := 10, locals := 248, cells := 0, slots := 0 })
theorem ckX8_load : cokV_ mX8_load := ⟨⟨(uw_mem 1510 (by decide +kernel) (by decide +kernel)), (uw_mem 112 (by decide +kernel) (by decide +kernel)), by decide +kernel, by decide +kernel⟩, (uw_mem 1508 (by decide +kernel) (by decide +kernel)), (uw_mem 1509 (by decide +kernel) (by decide +kernel))⟩
theorem nkX8_load : nok_ mX8_load 0 := by decide +kernel
theorem lkX8_38 : Cond.methodLink RX8 38 yX8_begins ∈ uw_ := (uw_mem 1428 (by decide +kernel) (by decide +kernel))
theorem su_O_3_IW : sub_ ly_O 3 ly_IW := sub_of rfl
theorem lkX8_208 : Cond.methodLink RX8 208 yX8_readsAll ∈ uw_ := (uw_mem 1511 (by decide +kernel) (by decide +kernel))
theorem fpX8_59 : fpk_ RX8 59 8 13 .int := ⟨_, _, _, tyX8, rfl, by decide, (uw_mem 1448 (by decide +kernel) (by decide +kernel)), wkX8, tyX8_ok, nmX8, rfl, by decide +kernel⟩
theorem fsq_8_13 : fsp_ fsX8 13 := ⟨fun _ _ => rfl, fun _ _ _ => rfl⟩
theorem fgX8_9 : fok_ RX8 9 8 0 := ⟨_, _, _, rfl, by decide, (uw_mem 1435 (by decide +kernel) (by decide +kernel)), wkX8⟩
theorem lkX8_211 : Cond.methodLink RX8 211 yX8_copies ∈ uw_ := (uw_mem 1614 (by decide +kernel) (by decide +kernel))
theorem su_O_1_IW : sub_ ly_O 1 ly_IW := sub_of rfl
theorem lkX8_42 : Cond.methodLink RX8 42 yX8_completes ∈ uw_ := (uw_mem 1431 (by decide +kernel) (by decide +kernel))
theorem fgX8_87 : fok_ RX8 87 8 11 := ⟨_, _, _, rfl, by decide, (uw_mem 1446 (by decide +kernel) (by decide +kernel)), wkX8⟩
def fX8_load (s : st_) : Option (st_ × Int32) :=
  bd_ (pt_ s 0 6 (0 : Int32)) fun s1 =>
  bn_ (fX8_begins (sb_ s1 3)) fun r5 =>
  bd_ (mg_ s1 3 1 r5) fun s9 =>
  bd_ (pt_ s9 0 9 (0 : Int32)) fun s11 =>
  bd_ (pt_ s11 0 12 (0 : Int32)) fun s15 =>
  bn_ (fX8_readsAll s15) fun r19 =>
  bd_ (pt_ r19.1 0 8 (0 : Int32)) fun s23 =>
  bd_ (pt_ s23 0 13 (s23 0 12)) fun s27 =>
  if r19.2 = (0 : Int32) then (some (s27, ((-100 : Int32) - (s27 0 11))))
  else (bn_ (fX8_copies (sb_ s27 3) (sb_ s27 1)) fun r31 =>
  bd_ (mg_ s27 1 1 r31) fun s35 =>
  bn_ (fX8_completes (sb_ s35 1)) fun r37 =>
  bd_ (mg_ s35 1 1 r37) fun s41 =>
  gd_ (ib_ (4 : Int32) 12584) <|
  some (s41, (s41 1 (ix_ (4 : Int32)))))
theorem kX8_load {E : ev_} {H : Heap} {a : Nat} {s : st_} {r : st_ × Int32} (hm : fX8_load s = some r) (h0 : has_ E H a ly_O s) (hf : ev_fr E a) : sp_ E mX8_load [.ref a] H (po1 (.inl (some (.int r.2))) (fun Hn => sm_ H Hn a 10 ∧ has_ E Hn a ly_O r.1)) := by
  refine sp_of (by decide +kernel) rfl rfl ?_
  generalize hQ : po1 _ _ = Q
  have hs : sm_ H H a 10 := sm_.rfl'
  unfold fX8_load at hm
  refine aw_lv (lv' := [(0, .ref a)]) [0] rfl ?_
  refine aw_b (pc' := 2) (lv' := [(0, .ref a)]) (st' := [.int (0 : Int32), .ref a]) [(0, .aload_n 0, 1, .null), (1, .iconst 0, 1, .int (0 : Int32))] (by decide +kernel) rfl ?_
  obtain ⟨s1, e2, hm⟩ := bd_x hm
  refine aw_pl a 0 h0 eo_O_0 fsq_8_6 fpX8_45 hf rfl rfl e2 (by decide +kernel) (fun H3 h0 z4 => ?_)
  have hs := hs.step z4 (by omega) (by omega)
  refine aw_b (pc' := 6) (lv' := [(0, .ref a)]) (st' := [.ref a]) [(5, .aload_n 0, 1, .null)] (by decide +kernel) rfl ?_
  refine aw_gl (v := .ref (a + 3)) a 0 h0 eo_O_0 fgX8_16 rfl (by decide +kernel) ?_
  obtain ⟨r5, e6, hm⟩ := bn_x hm
  refine aw_cs (rest := []) (st1 := []) (kX8_begins e6 (h0.sub su_O_3_IW) (Nat.le_trans hf (Nat.le_add_right _ _))) rfl rfl ckX8_begins lkX8_38 nkX8_begins rfl rfl rfl (Nat.le_of_ble_eq_true rfl) (Nat.zero_le _) (Nat.zero_le _) (by decide +kernel) (fun H7 z8 => ?_)
  obtain ⟨z8, hn⟩ := z8
  obtain ⟨s9, e10, hm⟩ := bd_x hm
  have h0 := h0.mg su_O_3_IW hn z8 rfl e10
  have hs := hs.step z8 (by omega) (by omega)
  refine aw_b (pc' := 14) (lv' := [(0, .ref a)]) (st' := [.int (0 : Int32), .ref a]) [(12, .aload_n 0, 1, .null), (13, .iconst 0, 1, .int (0 : Int32))] (by decide +kernel) rfl ?_
  obtain ⟨s11, e12, hm⟩ := bd_x hm
  refine aw_pl a 0 h0 eo_O_0 fsq_8_9 fpX8_78 hf rfl rfl e12 (by decide +kernel) (fun H13 h0 z14 => ?_)
  have hs := hs.step z14 (by omega) (by omega)
  refine aw_b (pc' := 19) (lv' := [(0, .ref a)]) (st' := [.int (0 : Int32), .ref a]) [(17, .aload_n 0, 1, .null), (18, .iconst 0, 1, .int (0 : Int32))] (by decide +kernel) rfl ?_
  obtain ⟨s15, e16, hm⟩ := bd_x hm
  refine aw_pl a 0 h0 eo_O_0 fsq_8_12 fpX8_84 hf rfl rfl e16 (by decide +kernel) (fun H17 h0 z18 => ?_)
  have hs := hs.step z18 (by omega) (by omega)
  refine aw_b (pc' := 23) (lv' := [(0, .ref a)]) (st' := [.ref a]) [(22, .aload_n 0, 1, .null)] (by decide +kernel) rfl ?_
  obtain ⟨r19, e20, hm⟩ := bn_x hm
  refine aw_cv (rest := []) (st1 := [.int r19.2]) a 0 (kX8_readsAll e20 h0 hf) rfl rfl ckX8_readsAll lkX8_208 h0 eo_O_0 ⟨_, _, rfl⟩ nkX8_readsAll rfl rfl rfl (Nat.le_of_ble_eq_true rfl) (Nat.zero_le _) (Nat.zero_le _) (by decide +kernel) (fun H21 z22 => ?_)
  obtain ⟨z22, hn⟩ := z22
  have h0 := hn
  have hs := hs.step z22 (by omega) (by omega)
  refine aw_b (pc' := 29) (lv' := [(1, .int r19.2), (0, .ref a)]) (st' := [.int (0 : Int32), .ref a]) [(26, .istore_n 1, 1, .null), (27, .aload_n 0, 1, .null), (28, .iconst 0, 1, .int (0 : Int32))] (by decide +kernel) rfl ?_
  obtain ⟨s23, e24, hm⟩ := bd_x hm
  refine aw_pl a 0 h0 eo_O_0 fsq_8_8 fpX8_56 hf rfl rfl e24 (by decide +kernel) (fun H25 h0 z26 => ?_)
  have hs := hs.step z26 (by omega) (by omega)
  refine aw_b (pc' := 34) (lv' := [(1, .int r19.2), (0, .ref a)]) (st' := [.ref a, .ref a]) [(32, .aload_n 0, 1, .null), (33, .aload_n 0, 1, .null)] (by decide +kernel) rfl ?_
  refine aw_gl (v := .int (s23 0 12)) a 0 h0 eo_O_0 fgX8_84 rfl (by decide +kernel) ?_
  obtain ⟨s27, e28, hm⟩ := bd_x hm
  refine aw_pl a 0 h0 eo_O_0 fsq_8_13 fpX8_59 hf rfl rfl e28 (by decide +kernel) (fun H29 h0 z30 => ?_)
  have hs := hs.step z30 (by omega) (by omega)
  refine aw_b (pc' := 41) (lv' := [(1, .int r19.2), (0, .ref a)]) (st' := [.int r19.2]) [(40, .iload_n 1, 1, .null)] (by decide +kernel) rfl ?_
  refine aw_if_ne (off := 11) 52 (by decide) (by decide +kernel) (fun hc => ?_) (fun hc => ?_)
  · have hm := (if_neg hc).symm.trans hm
    refine aw_b (pc' := 53) (lv' := [(1, .int r19.2), (0, .ref a)]) (st' := [.ref a]) [(52, .aload_n 0, 1, .null)] (by decide +kernel) rfl ?_
    refine aw_gl (v := .ref (a + 3)) a 0 h0 eo_O_0 fgX8_16 rfl (by decide +kernel) ?_
    refine aw_b (pc' := 57) (lv' := [(1, .int r19.2), (0, .ref a)]) (st' := [.ref a, .ref (a + 3)]) [(56, .aload_n 0, 1, .null)] (by decide +kernel) rfl ?_
    refine aw_gl (v := .ref (a + 1)) a 0 h0 eo_O_0 fgX8_9 rfl (by decide +kernel) ?_
    obtain ⟨r31, e32, hm⟩ := bn_x hm
    refine aw_cs (rest := []) (st1 := []) (kX8_copies e32 (h0.sub su_O_3_IW) (h0.sub su_O_1_IW) (Nat.le_trans hf (Nat.le_add_right _ _)) (by omega)) rfl rfl ckX8_copies lkX8_211 nkX8_copies rfl rfl rfl (Nat.le_of_ble_eq_true rfl) (Nat.zero_le _) (Nat.zero_le _) (by decide +kernel) (fun H33 z34 => ?_)
    obtain ⟨z34, hn⟩ := z34
    obtain ⟨s35, e36, hm⟩ := bd_x hm
    have h0 := h0.mg su_O_1_IW hn z34 rfl e36
    have hs := hs.step z34 (by omega) (by omega)
    refine aw_b (pc' := 64) (lv' := [(1, .int r19.2), (0, .ref a)]) (st' := [.ref a]) [(63, .aload_n 0, 1, .null)] (by decide +kernel) rfl ?_
    refine aw_gl (v := .ref (a + 1)) a 0 h0 eo_O_0 fgX8_9 rfl (by decide +kernel) ?_
    obtain ⟨r37, e38, hm⟩ := bn_x hm
    refine aw_cs (rest := []) (st1 := []) (kX8_completes e38 (h0.sub su_O_1_IW) (Nat.le_trans hf (Nat.le_add_right _ _))) rfl rfl ckX8_completes lkX8_42 nkX8_completes rfl rfl rfl (Nat.le_of_ble_eq_true rfl) (Nat.zero_le _) (Nat.zero_le _) (by decide +kernel) (fun H39 z40 => ?_)
    obtain ⟨z40, hn⟩ := z40
    obtain ⟨s41, e42, hm⟩ := bd_x hm
    have h0 := h0.mg su_O_1_IW hn z40 rfl e42
    have hs := hs.step z40 (by omega) (by omega)
    refine aw_b (pc' := 71) (lv' := [(1, .int r19.2), (0, .ref a)]) (st' := [.ref a]) [(70, .aload_n 0, 1, .null)] (by decide +kernel) rfl ?_
    refine aw_gl (v := .ref (a + 1)) a 0 h0 eo_O_0 fgX8_9 rfl (by decide +kernel) ?_
    refine aw_b (pc' := 75) (lv' := [(1, .int r19.2), (0, .ref a)]) (st' := [.int (4 : Int32), .ref (a + 1)]) [(74, .iconst 4, 1, .int (4 : Int32))] (by decide +kernel) rfl ?_
    obtain ⟨g43, hm⟩ := gd_x hm
    refine aw_ial a 1 h0 rfl g43 (by decide +kernel) ?_
    obtain rfl := Option.some.inj hm
    subst hQ
    exact aw_iret rfl (Nat.zero_le _) (Nat.zero_le _) (by decide +kernel) ⟨rfl, hs, h0⟩
  · have hm := (if_pos hc).symm.trans hm
    refine aw_b (pc' := 47) (lv' := [(1, .int r19.2), (0, .ref a)]) (st' := [.ref a, .int (-100 : Int32)]) [(44, .bipush (-100), 2, .int (-100 : Int32)), (46, .aload_n 0, 1, .null)] (by decide +kernel) rfl ?_
    refine aw_gl (v := .int (s27 0 11)) a 0 h0 eo_O_0 fgX8_87 rfl (by decide +kernel) ?_
    refine aw_b (pc' := 51) (lv' := [(1, .int r19.2), (0, .ref a)]) (st' := [.int ((-100 : Int32) - (s27 0 11))]) [(50, .isub, 1, .null)] (by decide +kernel) rfl ?_
    obtain rfl := Option.some.inj hm
    subst hQ
    exact aw_iret rfl (Nat.zero_le _) (Nat.zero_le _) (by decide +kernel) ⟨rfl, hs, h0⟩
def mX8_of : mt_ := (yX8_of, cX8_of, 3, some .int, [], { frames := 0, locals := 0, cells := 0, slots := 0 })
theorem ckX8_of : cokV_ mX8_of := ⟨⟨(uw_mem 1653 (by decide +kernel) (by decide +kernel)), (uw_mem 112 (by decide +kernel) (by decide +kernel)), by decide +kernel, by decide +kernel⟩, (uw_mem 1652 (by decide +kernel) (by decide +kernel)), (uw_mem 49 (by decide +kernel) (by decide +kernel))⟩
theorem nkX8_of : nok_ mX8_of 2 := by decide +kernel
def fX8_of (s : st_) (i0 : Int32) (i1 : Int32) : Option (Int32) :=
  gd_ (ib_ (((26 : Int32) + ((5 : Int32) * i0)) + i1) 12584) <|
  some (s 1 (ix_ (((26 : Int32) + ((5 : Int32) * i0)) + i1)))
theorem kX8_of {E : ev_} {H : Heap} {a : Nat} {s : st_} {i0 : Int32} {i1 : Int32} {r : Int32} (hm : fX8_of s i0 i1 = some r) (h0 : has_ E H a ly_O s) : sp_ E mX8_of [.ref a, .int i0, .int i1] H (po1 (.inl (some (.int r))) (fun Hn => sm_ H Hn 0 0)) := by
  refine sp_of (by decide +kernel) rfl rfl ?_
  generalize hQ : po1 _ _ = Q
  have hs : sm_ H H 0 0 := sm_.rfl'
  unfold fX8_of at hm
  refine aw_lv (lv' := [(0, .ref a), (1, .int i0), (2, .int i1)]) [0, 1, 2] rfl ?_
  refine aw_b (pc' := 1) (lv' := [(0, .ref a), (1, .int i0), (2, .int i1)]) (st' := [.ref a]) [(0, .aload_n 0, 1, .null)] (by decide +kernel) rfl ?_
  refine aw_gl (v := .ref (a + 1)) a 0 h0 eo_O_0 fgX8_9 rfl (by decide +kernel) ?_
  refine aw_b (pc' := 12) (lv' := [(0, .ref a), (1, .int i0), (2, .int i1)]) (st' := [.int (((26 : Int32) + ((5 : Int32) * i0)) + i1), .ref (a + 1)]) [(4, .bipush 26, 2, .int (26 : Int32)), (6, .iconst 5, 1, .int (5 : Int32)), (7, .iload_n 1, 1, .null), (8, .imul, 1, .null), (9, .iadd, 1, .null), (10, .iload_n 2, 1, .null), (11, .iadd, 1, .null)] (by decide +kernel) rfl ?_
  obtain ⟨g1, hm⟩ := gd_x hm
  refine aw_ial a 1 h0 rfl g1 (by decide +kernel) ?_
  obtain rfl := Option.some.inj hm
  subst hQ
  exact aw_iret rfl (Nat.zero_le _) (Nat.zero_le _) (by decide +kernel) ⟨rfl, hs⟩
def mX8_adds : mt_ := (yX8_adds, cX8_adds, 4, none, [], { frames := 0, locals := 0, cells := 0, slots := 0 })
theorem ckX8_adds : cokV_ mX8_adds := ⟨⟨(uw_mem 2017 (by decide +kernel) (by decide +kernel)), (uw_mem 112 (by decide +kernel) (by decide +kernel)), by decide +kernel, by decide +kernel⟩, (uw_mem 2016 (by decide +kernel) (by decide +kernel)), (uw_mem 94 (by decide +kernel) (by decide +kernel))⟩
theorem nkX8_adds : nok_ mX8_adds 3 := by decide +kernel
def fX8_adds (s : st_) (i0 : Int32) (i1 : Int32) (i2 : Int32) : Option (st_) :=
  gd_ (ib_ (((26 : Int32) + ((5 : Int32) * i0)) + i1) 12584) <|
  gd_ (ib_ (((26 : Int32) + ((5 : Int32) * i0)) + i1) 12584) <|
  bd_ (pt_ s 1 (ix_ (((26 : Int32) + ((5 : Int32) * i0)) + i1)) ((s 1 (ix_ (((26 : Int32) + ((5 : Int32) * i0)) + i1))) + i2)) fun s3 =>
  some s3
theorem kX8_adds {E : ev_} {H : Heap} {a : Nat} {s : st_} {i0 : Int32} {i1 : Int32} {i2 : Int32} {r : st_} (hm : fX8_adds s i0 i1 i2 = some r) (h0 : has_ E H a ly_O s) (hf : ev_fr E a) : sp_ E mX8_adds [.ref a, .int i0, .int i1, .int i2] H (po1 (.inl (none)) (fun Hn => sm_ H Hn a 10 ∧ has_ E Hn a ly_O r)) := by
  refine sp_of (by decide +kernel) rfl rfl ?_
  generalize hQ : po1 _ _ = Q
  have hs : sm_ H H a 10 := sm_.rfl'
  unfold fX8_adds at hm
  refine aw_lv (lv' := [(0, .ref a), (1, .int i0), (2, .int i1), (3, .int i2)]) [0, 1, 2, 3] rfl ?_
  refine aw_b (pc' := 1) (lv' := [(0, .ref a), (1, .int i0), (2, .int i1), (3, .int i2)]) (st' := [.ref a]) [(0, .aload_n 0, 1, .null)] (by decide +kernel) rfl ?_
  refine aw_gl (v := .ref (a + 1)) a 0 h0 eo_O_0 fgX8_9 rfl (by decide +kernel) ?_
  refine aw_b (pc' := 13) (lv' := [(0, .ref a), (1, .int i0), (2, .int i1), (3, .int i2)]) (st' := [.int (((26 : Int32) + ((5 : Int32) * i0)) + i1), .ref (a + 1), .int (((26 : Int32) + ((5 : Int32) * i0)) + i1), .ref (a + 1)]) [(4, .bipush 26, 2, .int (26 : Int32)), (6, .iconst 5, 1, .int (5 : Int32)), (7, .iload_n 1, 1, .null), (8, .imul, 1, .null), (9, .iadd, 1, .null), (10, .iload_n 2, 1, .null), (11, .iadd, 1, .null), (12, .dup2, 1, .null)] (by decide +kernel) rfl ?_
  obtain ⟨g1, hm⟩ := gd_x hm
  refine aw_ial a 1 h0 rfl g1 (by decide +kernel) ?_
  refine aw_b (pc' := 16) (lv' := [(0, .ref a), (1, .int i0), (2, .int i1), (3, .int i2)]) (st' := [.int ((s 1 (ix_ (((26 : Int32) + ((5 : Int32) * i0)) + i1))) + i2), .int (((26 : Int32) + ((5 : Int32) * i0)) + i1), .ref (a + 1)]) [(14, .iload_n 3, 1, .null), (15, .iadd, 1, .null)] (by decide +kernel) rfl ?_
  obtain ⟨g2, hm⟩ := gd_x hm
  obtain ⟨s3, e4, hm⟩ := bd_x hm
  refine aw_isl a 1 h0 rfl hf g2 e4 (by decide +kernel) (fun H5 h0 z6 => ?_)
  have hs := hs.step z6 (by omega) (by omega)
  obtain rfl := Option.some.inj hm
  subst hQ
  exact aw_vret rfl (Nat.zero_le _) (Nat.zero_le _) (by decide +kernel) ⟨rfl, hs, h0⟩
def mX8_armAt : mt_ := (yX8_armAt, cX8_armAt, 1, some .int, [], { frames := 0, locals := 0, cells := 0, slots := 0 })
theorem ckX8_armAt : cokS_ mX8_armAt := ⟨⟨(uw_mem 1649 (by decide +kernel) (by decide +kernel)), (uw_mem 112 (by decide +kernel) (by decide +kernel)), by decide +kernel, by decide +kernel⟩, (uw_mem 1648 (by decide +kernel) (by decide +kernel))⟩
theorem nkX8_armAt : nok_ mX8_armAt 1 := by decide +kernel
def fX8_armAt (i0 : Int32) : Option (Int32) :=
  some ((72 : Int32) + ((47 : Int32) * i0))
theorem kX8_armAt {E : ev_} {H : Heap} {i0 : Int32} {r : Int32} (hm : fX8_armAt i0 = some r) : sp_ E mX8_armAt [.int i0] H (po1 (.inl (some (.int r))) (fun Hn => sm_ H Hn 0 0)) := by
  refine sp_of (by decide +kernel) rfl rfl ?_
  generalize hQ : po1 _ _ = Q
  have hs : sm_ H H 0 0 := sm_.rfl'
  unfold fX8_armAt at hm
  refine aw_lv (lv' := [(0, .int i0)]) [0] rfl ?_
  refine aw_b (pc' := 7) (lv' := [(0, .int i0)]) (st' := [.int ((72 : Int32) + ((47 : Int32) * i0))]) [(0, .bipush 72, 2, .int (72 : Int32)), (2, .bipush 47, 2, .int (47 : Int32)), (4, .iload_n 0, 1, .null), (5, .imul, 1, .null), (6, .iadd, 1, .null)] (by decide +kernel) rfl ?_
  obtain rfl := Option.some.inj hm
  subst hQ
  exact aw_iret rfl (Nat.zero_le _) (Nat.zero_le _) (by decide +kernel) ⟨rfl, hs⟩
def mX8_armOf : mt_ := (yX8_armOf, cX8_armOf, 3, some .int, [], { frames := 1, locals := 20, cells := 0, slots := 0 })
theorem ckX8_armOf : cokV_ mX8_armOf := ⟨⟨(uw_mem 1646 (by decide +kernel) (by decide +kernel)), (uw_mem 112 (by decide +kernel) (by decide +kernel)), by decide +kernel, by decide +kernel⟩, (uw_mem 1645 (by decide +kernel) (by decide +kernel)), (uw_mem 48 (by decide +kernel) (by decide +kernel))⟩
theorem nkX8_armOf : nok_ mX8_armOf 2 := by decide +kernel
theorem lkX8_215 : Cond.methodLink RX8 215 yX8_armAt ∈ uw_ := (uw_mem 1647 (by decide +kernel) (by decide +kernel))
def fX8_armOf (s : st_) (i0 : Int32) (i1 : Int32) : Option (Int32) :=
  bn_ (fX8_armAt i0) fun r1 =>
  gd_ (ib_ (r1 + i1) 12584) <|
  some (s 1 (ix_ (r1 + i1)))
theorem kX8_armOf {E : ev_} {H : Heap} {a : Nat} {s : st_} {i0 : Int32} {i1 : Int32} {r : Int32} (hm : fX8_armOf s i0 i1 = some r) (h0 : has_ E H a ly_O s) : sp_ E mX8_armOf [.ref a, .int i0, .int i1] H (po1 (.inl (some (.int r))) (fun Hn => sm_ H Hn 0 0)) := by
  refine sp_of (by decide +kernel) rfl rfl ?_
  generalize hQ : po1 _ _ = Q
  have hs : sm_ H H 0 0 := sm_.rfl'
  unfold fX8_armOf at hm
  refine aw_lv (lv' := [(0, .ref a), (1, .int i0), (2, .int i1)]) [0, 1, 2] rfl ?_
  refine aw_b (pc' := 1) (lv' := [(0, .ref a), (1, .int i0), (2, .int i1)]) (st' := [.ref a]) [(0, .aload_n 0, 1, .null)] (by decide +kernel) rfl ?_
  refine aw_gl (v := .ref (a + 1)) a 0 h0 eo_O_0 fgX8_9 rfl (by decide +kernel) ?_
  refine aw_b (pc' := 5) (lv' := [(0, .ref a), (1, .int i0), (2, .int i1)]) (st' := [.int i0, .ref (a + 1)]) [(4, .iload_n 1, 1, .null)] (by decide +kernel) rfl ?_
  obtain ⟨r1, e2, hm⟩ := bn_x hm
  refine aw_cs (rest := [.ref (a + 1)]) (st1 := [.int r1, .ref (a + 1)]) (kX8_armAt e2) rfl rfl ckX8_armAt lkX8_215 nkX8_armAt rfl rfl rfl (Nat.le_of_ble_eq_true rfl) (Nat.zero_le _) (Nat.zero_le _) (by decide +kernel) (fun H3 z4 => ?_)
  have h0 := h0.kept0 z4
  have hs := hs.step0 z4
  refine aw_b (pc' := 10) (lv' := [(0, .ref a), (1, .int i0), (2, .int i1)]) (st' := [.int (r1 + i1), .ref (a + 1)]) [(8, .iload_n 2, 1, .null), (9, .iadd, 1, .null)] (by decide +kernel) rfl ?_
  obtain ⟨g5, hm⟩ := gd_x hm
  refine aw_ial a 1 h0 rfl g5 (by decide +kernel) ?_
  obtain rfl := Option.some.inj hm
  subst hQ
  exact aw_iret rfl (Nat.zero_le _) (Nat.zero_le _) (by decide +kernel) ⟨rfl, hs⟩
def mX8_isRule : mt_ := (yX8_isRule, cX8_isRule, 2, some .boolean, [], { frames := 1, locals := 25, cells := 0, slots := 0 })
theorem ckX8_isRule : cokV_ mX8_isRule := ⟨⟨(uw_mem 1641 (by decide +kernel) (by decide +kernel)), (uw_mem 112 (by decide +kernel) (by decide +kernel)), by decide +kernel, by decide +kernel⟩, (uw_mem 1640 (by decide +kernel) (by decide +kernel)), (uw_mem 47 (by decide +kernel) (by decide +kernel))⟩
theorem nkX8_isRule : nok_ mX8_isRule 1 := by decide +kernel
def fX8_isRule (s : st_) (i0 : Int32) : Option (Int32) :=
  gd_ (ib_ (4 : Int32) 12584) <|
  bn_ (fX8_in (Int32.toInt64 i0) (0 : Int64) (Int32.toInt64 ((s 1 (ix_ (4 : Int32))) - (1 : Int32)))) fun r2 =>
  gd_ (bz_ r2) <|
  some r2
theorem kX8_isRule {E : ev_} {H : Heap} {a : Nat} {s : st_} {i0 : Int32} {r : Int32} (hm : fX8_isRule s i0 = some r) (h0 : has_ E H a ly_O s) : sp_ E mX8_isRule [.ref a, .int i0] H (po1 (.inl (some (.int r))) (fun Hn => sm_ H Hn 0 0)) := by
  refine sp_of (by decide +kernel) rfl rfl ?_
  generalize hQ : po1 _ _ = Q
  have hs : sm_ H H 0 0 := sm_.rfl'
  unfold fX8_isRule at hm
  refine aw_lv (lv' := [(0, .ref a), (1, .int i0)]) [0, 1] rfl ?_
  refine aw_b (pc' := 4) (lv' := [(0, .ref a), (1, .int i0)]) (st' := [.ref a, .long (0 : Int64), .long (Int32.toInt64 i0)]) [(0, .iload_n 1, 1, .null), (1, .i2l, 1, .null), (2, .lconst 0, 1, .long (0 : Int64)), (3, .aload_n 0, 1, .null)] (by decide +kernel) rfl ?_
  refine aw_gl (v := .ref (a + 1)) a 0 h0 eo_O_0 fgX8_9 rfl (by decide +kernel) ?_
  refine aw_b (pc' := 8) (lv' := [(0, .ref a), (1, .int i0)]) (st' := [.int (4 : Int32), .ref (a + 1), .long (0 : Int64), .long (Int32.toInt64 i0)]) [(7, .iconst 4, 1, .int (4 : Int32))] (by decide +kernel) rfl ?_
  obtain ⟨g1, hm⟩ := gd_x hm
  refine aw_ial a 1 h0 rfl g1 (by decide +kernel) ?_
  refine aw_b (pc' := 12) (lv' := [(0, .ref a), (1, .int i0)]) (st' := [.long (Int32.toInt64 ((s 1 (ix_ (4 : Int32))) - (1 : Int32))), .long (0 : Int64), .long (Int32.toInt64 i0)]) [(9, .iconst 1, 1, .int (1 : Int32)), (10, .isub, 1, .null), (11, .i2l, 1, .null)] (by decide +kernel) rfl ?_
  obtain ⟨r2, e3, hm⟩ := bn_x hm
  refine aw_cs (rest := []) (st1 := [.int r2]) (kX8_in e3) rfl rfl ckX8_in lkX8_70 nkX8_in rfl rfl rfl (Nat.le_of_ble_eq_true rfl) (Nat.zero_le _) (Nat.zero_le _) (by decide +kernel) (fun H4 z5 => ?_)
  have h0 := h0.kept0 z5
  have hs := hs.step0 z5
  obtain ⟨g6, hm⟩ := gd_x hm
  obtain rfl := Option.some.inj hm
  subst hQ
  exact aw_zret rfl (bz_n g6) (Nat.zero_le _) (Nat.zero_le _) (by decide +kernel) ⟨rfl, hs⟩
def mX8_noRule : mt_ := (yX8_noRule, cX8_noRule, 2, some .boolean, [], { frames := 2, locals := 46, cells := 0, slots := 0 })
theorem ckX8_noRule : cokV_ mX8_noRule := ⟨⟨(uw_mem 1637 (by decide +kernel) (by decide +kernel)), (uw_mem 112 (by decide +kernel) (by decide +kernel)), by decide +kernel, by decide +kernel⟩, (uw_mem 1636 (by decide +kernel) (by decide +kernel)), (uw_mem 46 (by decide +kernel) (by decide +kernel))⟩
theorem nkX8_noRule : nok_ mX8_noRule 1 := by decide +kernel
theorem lkX8_218 : Cond.methodLink RX8 218 yX8_isRule ∈ uw_ := (uw_mem 1638 (by decide +kernel) (by decide +kernel))
theorem lkX8_221 : Cond.methodLink RX8 221 yX8_wrong ∈ uw_ := (uw_mem 1622 (by decide +kernel) (by decide +kernel))
def fX8_noRule_j14 (s : st_) (z1_j14 : Int32) : Option (st_ × Int32) :=
  bn_ (fX8_wrong s z1_j14) fun r5 =>
  gd_ (bz_ r5.2) <|
  some (r5.1, r5.2)
def fX8_noRule (s : st_) (i0 : Int32) : Option (st_ × Int32) :=
  bn_ (fX8_isRule s i0) fun r1 =>
  if r1 = (0 : Int32) then (fX8_noRule_j14 s (1 : Int32))
  else (fX8_noRule_j14 s (0 : Int32))
theorem kX8_noRule {E : ev_} {H : Heap} {a : Nat} {s : st_} {i0 : Int32} {r : st_ × Int32} (hm : fX8_noRule s i0 = some r) (h0 : has_ E H a ly_O s) (hf : ev_fr E a) : sp_ E mX8_noRule [.ref a, .int i0] H (po1 (.inl (some (.int r.2))) (fun Hn => sm_ H Hn a 10 ∧ has_ E Hn a ly_O r.1)) := by
  refine sp_of (by decide +kernel) rfl rfl ?_
  generalize hQ : po1 _ _ = Q
  have hs : sm_ H H a 10 := sm_.rfl'
  unfold fX8_noRule at hm
  refine aw_lv (lv' := [(0, .ref a), (1, .int i0)]) [0, 1] rfl ?_
  refine aw_b (pc' := 3) (lv' := [(0, .ref a), (1, .int i0)]) (st' := [.int i0, .ref a, .ref a]) [(0, .aload_n 0, 1, .null), (1, .aload_n 0, 1, .null), (2, .iload_n 1, 1, .null)] (by decide +kernel) rfl ?_
  obtain ⟨r1, e2, hm⟩ := bn_x hm
  refine aw_cv (rest := [.ref a]) (st1 := [.int r1, .ref a]) a 0 (kX8_isRule e2 h0) rfl rfl ckX8_isRule lkX8_218 h0 eo_O_0 ⟨_, _, rfl⟩ nkX8_isRule rfl rfl rfl (Nat.le_of_ble_eq_true rfl) (Nat.zero_le _) (Nat.zero_le _) (by decide +kernel) (fun H3 z4 => ?_)
  have h0 := h0.kept0 z4
  have hs := hs.step0 z4
  have J14 : ∀ (z1_j14 : Int32) (H_j14 : Heap), has_ E H_j14 a ly_O s → sm_ H H_j14 a 10 → fX8_noRule_j14 s z1_j14 = some r → aw E mX8_noRule Q 14 [] [.int z1_j14, .ref a] H_j14 0 0 := by
    intro z1_j14 H_j14 h0 hs hm
    unfold fX8_noRule_j14 at hm
    obtain ⟨r5, e6, hm⟩ := bn_x hm
    refine aw_cv (rest := []) (st1 := [.int r5.2]) a 0 (kX8_wrong e6 h0 hf) rfl rfl ckX8_wrong lkX8_221 h0 eo_O_0 ⟨_, _, rfl⟩ nkX8_wrong rfl rfl rfl (Nat.le_of_ble_eq_true rfl) (Nat.zero_le _) (Nat.zero_le _) (by decide +kernel) (fun H7 z8 => ?_)
    obtain ⟨z8, hn⟩ := z8
    have h0 := hn
    have hs := hs.step z8 (by omega) (by omega)
    obtain ⟨g9, hm⟩ := gd_x hm
    obtain rfl := Option.some.inj hm
    subst hQ
    exact aw_zret rfl (bz_n g9) (Nat.zero_le _) (Nat.zero_le _) (by decide +kernel) ⟨rfl, hs, h0⟩
  refine aw_if_ne (off := 7) 13 (by decide) (by decide +kernel) (fun hc => ?_) (fun hc => ?_)
  · have hm := (if_neg hc).symm.trans hm
    refine aw_b (pc' := 14) (lv' := [(0, .ref a), (1, .int i0)]) (st' := [.int (0 : Int32), .ref a]) [(13, .iconst 0, 1, .int (0 : Int32))] (by decide +kernel) rfl ?_
    refine aw_lv (lv' := []) [] rfl ?_
    exact J14 (0 : Int32) H3 h0 hs hm
  · have hm := (if_pos hc).symm.trans hm
    refine aw_b (pc' := 14) (lv' := [(0, .ref a), (1, .int i0)]) (st' := [.int (1 : Int32), .ref a]) [(9, .iconst 1, 1, .int (1 : Int32)), (10, .goto 4, 3, .null)] (by decide +kernel) rfl ?_
    refine aw_lv (lv' := []) [] rfl ?_
    exact J14 (1 : Int32) H3 h0 hs hm
def mX8_noArm : mt_ := (yX8_noArm, cX8_noArm, 2, some .boolean, [], { frames := 2, locals := 46, cells := 0, slots := 0 })
theorem ckX8_noArm : cokV_ mX8_noArm := ⟨⟨(uw_mem 1723 (by decide +kernel) (by decide +kernel)), (uw_mem 112 (by decide +kernel) (by decide +kernel)), by decide +kernel, by decide +kernel⟩, (uw_mem 1722 (by decide +kernel) (by decide +kernel)), (uw_mem 55 (by decide +kernel) (by decide +kernel))⟩
theorem nkX8_noArm : nok_ mX8_noArm 1 := by decide +kernel
def fX8_noArm_j19 (s : st_) (z1_j19 : Int32) : Option (st_ × Int32) :=
  bn_ (fX8_wrong s z1_j19) fun r1 =>
  gd_ (bz_ r1.2) <|
  some (r1.1, r1.2)
def fX8_noArm_j18 (s : st_) : Option (st_ × Int32) :=
  fX8_noArm_j19 s (0 : Int32)
def fX8_noArm (s : st_) (i0 : Int32) : Option (st_ × Int32) :=
  if i0 = (-1 : Int32) then (fX8_noArm_j18 s)
  else (bn_ (fX8_isRule s i0) fun r6 =>
  if r6 = (0 : Int32) then (fX8_noArm_j19 s (1 : Int32))
  else (fX8_noArm_j18 s))
theorem kX8_noArm {E : ev_} {H : Heap} {a : Nat} {s : st_} {i0 : Int32} {r : st_ × Int32} (hm : fX8_noArm s i0 = some r) (h0 : has_ E H a ly_O s) (hf : ev_fr E a) : sp_ E mX8_noArm [.ref a, .int i0] H (po1 (.inl (some (.int r.2))) (fun Hn => sm_ H Hn a 10 ∧ has_ E Hn a ly_O r.1)) := by
  refine sp_of (by decide +kernel) rfl rfl ?_
  generalize hQ : po1 _ _ = Q
  have hs : sm_ H H a 10 := sm_.rfl'
  unfold fX8_noArm at hm
  refine aw_lv (lv' := [(0, .ref a), (1, .int i0)]) [0, 1] rfl ?_
  refine aw_b (pc' := 3) (lv' := [(0, .ref a), (1, .int i0)]) (st' := [.int (-1 : Int32), .int i0, .ref a]) [(0, .aload_n 0, 1, .null), (1, .iload_n 1, 1, .null), (2, .iconst (-1), 1, .int (-1 : Int32))] (by decide +kernel) rfl ?_
  have J19 : ∀ (z1_j19 : Int32) (H_j19 : Heap), has_ E H_j19 a ly_O s → sm_ H H_j19 a 10 → fX8_noArm_j19 s z1_j19 = some r → aw E mX8_noArm Q 19 [] [.int z1_j19, .ref a] H_j19 0 0 := by
    intro z1_j19 H_j19 h0 hs hm
    unfold fX8_noArm_j19 at hm
    obtain ⟨r1, e2, hm⟩ := bn_x hm
    refine aw_cv (rest := []) (st1 := [.int r1.2]) a 0 (kX8_wrong e2 h0 hf) rfl rfl ckX8_wrong lkX8_221 h0 eo_O_0 ⟨_, _, rfl⟩ nkX8_wrong rfl rfl rfl (Nat.le_of_ble_eq_true rfl) (Nat.zero_le _) (Nat.zero_le _) (by decide +kernel) (fun H3 z4 => ?_)
    obtain ⟨z4, hn⟩ := z4
    have h0 := hn
    have hs := hs.step z4 (by omega) (by omega)
    obtain ⟨g5, hm⟩ := gd_x hm
    obtain rfl := Option.some.inj hm
    subst hQ
    exact aw_zret rfl (bz_n g5) (Nat.zero_le _) (Nat.zero_le _) (by decide +kernel) ⟨rfl, hs, h0⟩
  have J18 : ∀ (H_j18 : Heap), has_ E H_j18 a ly_O s → sm_ H H_j18 a 10 → fX8_noArm_j18 s = some r → aw E mX8_noArm Q 18 [] [.ref a] H_j18 0 0 := by
    intro H_j18 h0 hs hm
    unfold fX8_noArm_j18 at hm
    refine aw_b (pc' := 19) (lv' := []) (st' := [.int (0 : Int32), .ref a]) [(18, .iconst 0, 1, .int (0 : Int32))] (by decide +kernel) rfl ?_
    exact J19 (0 : Int32) H_j18 h0 hs hm
  refine aw_ic_eq (off := 15) 18 (by decide) (by decide +kernel) (fun hc => ?_) (fun hc => ?_)
  · have hm := (if_pos hc).symm.trans hm
    refine aw_lv (lv' := []) [] rfl ?_
    exact J18 H h0 hs hm
  · have hm := (if_neg hc).symm.trans hm
    refine aw_b (pc' := 8) (lv' := [(0, .ref a), (1, .int i0)]) (st' := [.int i0, .ref a, .ref a]) [(6, .aload_n 0, 1, .null), (7, .iload_n 1, 1, .null)] (by decide +kernel) rfl ?_
    obtain ⟨r6, e7, hm⟩ := bn_x hm
    refine aw_cv (rest := [.ref a]) (st1 := [.int r6, .ref a]) a 0 (kX8_isRule e7 h0) rfl rfl ckX8_isRule lkX8_218 h0 eo_O_0 ⟨_, _, rfl⟩ nkX8_isRule rfl rfl rfl (Nat.le_of_ble_eq_true rfl) (Nat.zero_le _) (Nat.zero_le _) (by decide +kernel) (fun H8 z9 => ?_)
    have h0 := h0.kept0 z9
    have hs := hs.step0 z9
    refine aw_if_ne (off := 7) 18 (by decide) (by decide +kernel) (fun hc => ?_) (fun hc => ?_)
    · have hm := (if_neg hc).symm.trans hm
      refine aw_lv (lv' := []) [] rfl ?_
      exact J18 H8 h0 hs hm
    · have hm := (if_pos hc).symm.trans hm
      refine aw_b (pc' := 19) (lv' := [(0, .ref a), (1, .int i0)]) (st' := [.int (1 : Int32), .ref a]) [(14, .iconst 1, 1, .int (1 : Int32)), (15, .goto 4, 3, .null)] (by decide +kernel) rfl ?_
      refine aw_lv (lv' := []) [] rfl ?_
      exact J19 (1 : Int32) H8 h0 hs hm
def mX8_told : mt_ := (yX8_told, cX8_told, 1, some .int, [], { frames := 0, locals := 0, cells := 0, slots := 0 })
theorem ckX8_told : cokS_ mX8_told := ⟨⟨(uw_mem 1727 (by decide +kernel) (by decide +kernel)), (uw_mem 112 (by decide +kernel) (by decide +kernel)), by decide +kernel, by decide +kernel⟩, (uw_mem 1726 (by decide +kernel) (by decide +kernel))⟩
theorem nkX8_told : nok_ mX8_told 1 := by decide +kernel
def fX8_told (i0 : Int32) : Option (Int32) :=
  if i0 = (-1 : Int32) then (some (6 : Int32))
  else (some i0)
theorem kX8_told {E : ev_} {H : Heap} {i0 : Int32} {r : Int32} (hm : fX8_told i0 = some r) : sp_ E mX8_told [.int i0] H (po1 (.inl (some (.int r))) (fun Hn => sm_ H Hn 0 0)) := by
  refine sp_of (by decide +kernel) rfl rfl ?_
  generalize hQ : po1 _ _ = Q
  have hs : sm_ H H 0 0 := sm_.rfl'
  unfold fX8_told at hm
  refine aw_lv (lv' := [(0, .int i0)]) [0] rfl ?_
  refine aw_b (pc' := 2) (lv' := [(0, .int i0)]) (st' := [.int (-1 : Int32), .int i0]) [(0, .iload_n 0, 1, .null), (1, .iconst (-1), 1, .int (-1 : Int32))] (by decide +kernel) rfl ?_
  refine aw_ic_ne (off := 8) 10 (by decide) (by decide +kernel) (fun hc => ?_) (fun hc => ?_)
  · have hm := (if_neg hc).symm.trans hm
    refine aw_b (pc' := 11) (lv' := [(0, .int i0)]) (st' := [.int i0]) [(10, .iload_n 0, 1, .null)] (by decide +kernel) rfl ?_
    obtain rfl := Option.some.inj hm
    subst hQ
    exact aw_iret rfl (Nat.zero_le _) (Nat.zero_le _) (by decide +kernel) ⟨rfl, hs⟩
  · have hm := (if_pos hc).symm.trans hm
    refine aw_b (pc' := 11) (lv' := [(0, .int i0)]) (st' := [.int (6 : Int32)]) [(5, .bipush 6, 2, .int (6 : Int32)), (7, .goto 4, 3, .null)] (by decide +kernel) rfl ?_
    obtain rfl := Option.some.inj hm
    subst hQ
    exact aw_iret rfl (Nat.zero_le _) (Nat.zero_le _) (by decide +kernel) ⟨rfl, hs⟩
def mX8_noCylinder : mt_ := (yX8_noCylinder, cX8_noCylinder, 2, some .boolean, [], { frames := 2, locals := 43, cells := 0, slots := 0 })
theorem ckX8_noCylinder : cokV_ mX8_noCylinder := ⟨⟨(uw_mem 1665 (by decide +kernel) (by decide +kernel)), (uw_mem 112 (by decide +kernel) (by decide +kernel)), by decide +kernel, by decide +kernel⟩, (uw_mem 1664 (by decide +kernel) (by decide +kernel)), (uw_mem 50 (by decide +kernel) (by decide +kernel))⟩
theorem nkX8_noCylinder : nok_ mX8_noCylinder 1 := by decide +kernel
def fX8_noCylinder_j24 (s : st_) (z1_j24 : Int32) : Option (st_ × Int32) :=
  bn_ (fX8_wrong s z1_j24) fun r6 =>
  gd_ (bz_ r6.2) <|
  some (r6.1, r6.2)
def fX8_noCylinder (s : st_) (i0 : Int32) : Option (st_ × Int32) :=
  gd_ (ib_ (0 : Int32) 12584) <|
  bn_ (fX8_in (Int32.toInt64 i0) (0 : Int64) (Int32.toInt64 ((s 1 (ix_ (0 : Int32))) - (1 : Int32)))) fun r2 =>
  if r2 = (0 : Int32) then (fX8_noCylinder_j24 s (1 : Int32))
  else (fX8_noCylinder_j24 s (0 : Int32))
theorem kX8_noCylinder {E : ev_} {H : Heap} {a : Nat} {s : st_} {i0 : Int32} {r : st_ × Int32} (hm : fX8_noCylinder s i0 = some r) (h0 : has_ E H a ly_O s) (hf : ev_fr E a) : sp_ E mX8_noCylinder [.ref a, .int i0] H (po1 (.inl (some (.int r.2))) (fun Hn => sm_ H Hn a 10 ∧ has_ E Hn a ly_O r.1)) := by
  refine sp_of (by decide +kernel) rfl rfl ?_
  generalize hQ : po1 _ _ = Q
  have hs : sm_ H H a 10 := sm_.rfl'
  unfold fX8_noCylinder at hm
  refine aw_lv (lv' := [(0, .ref a), (1, .int i0)]) [0, 1] rfl ?_
  refine aw_b (pc' := 5) (lv' := [(0, .ref a), (1, .int i0)]) (st' := [.ref a, .long (0 : Int64), .long (Int32.toInt64 i0), .ref a]) [(0, .aload_n 0, 1, .null), (1, .iload_n 1, 1, .null), (2, .i2l, 1, .null), (3, .lconst 0, 1, .long (0 : Int64)), (4, .aload_n 0, 1, .null)] (by decide +kernel) rfl ?_
  refine aw_gl (v := .ref (a + 1)) a 0 h0 eo_O_0 fgX8_9 rfl (by decide +kernel) ?_
  refine aw_b (pc' := 9) (lv' := [(0, .ref a), (1, .int i0)]) (st' := [.int (0 : Int32), .ref (a + 1), .long (0 : Int64), .long (Int32.toInt64 i0), .ref a]) [(8, .iconst 0, 1, .int (0 : Int32))] (by decide +kernel) rfl ?_
  obtain ⟨g1, hm⟩ := gd_x hm
  refine aw_ial a 1 h0 rfl g1 (by decide +kernel) ?_
  refine aw_b (pc' := 13) (lv' := [(0, .ref a), (1, .int i0)]) (st' := [.long (Int32.toInt64 ((s 1 (ix_ (0 : Int32))) - (1 : Int32))), .long (0 : Int64), .long (Int32.toInt64 i0), .ref a]) [(10, .iconst 1, 1, .int (1 : Int32)), (11, .isub, 1, .null), (12, .i2l, 1, .null)] (by decide +kernel) rfl ?_
  obtain ⟨r2, e3, hm⟩ := bn_x hm
  refine aw_cs (rest := [.ref a]) (st1 := [.int r2, .ref a]) (kX8_in e3) rfl rfl ckX8_in lkX8_70 nkX8_in rfl rfl rfl (Nat.le_of_ble_eq_true rfl) (Nat.zero_le _) (Nat.zero_le _) (by decide +kernel) (fun H4 z5 => ?_)
  have h0 := h0.kept0 z5
  have hs := hs.step0 z5
  have J24 : ∀ (z1_j24 : Int32) (H_j24 : Heap), has_ E H_j24 a ly_O s → sm_ H H_j24 a 10 → fX8_noCylinder_j24 s z1_j24 = some r → aw E mX8_noCylinder Q 24 [] [.int z1_j24, .ref a] H_j24 0 0 := by
    intro z1_j24 H_j24 h0 hs hm
    unfold fX8_noCylinder_j24 at hm
    obtain ⟨r6, e7, hm⟩ := bn_x hm
    refine aw_cv (rest := []) (st1 := [.int r6.2]) a 0 (kX8_wrong e7 h0 hf) rfl rfl ckX8_wrong lkX8_221 h0 eo_O_0 ⟨_, _, rfl⟩ nkX8_wrong rfl rfl rfl (Nat.le_of_ble_eq_true rfl) (Nat.zero_le _) (Nat.zero_le _) (by decide +kernel) (fun H8 z9 => ?_)
    obtain ⟨z9, hn⟩ := z9
    have h0 := hn
    have hs := hs.step z9 (by omega) (by omega)
    obtain ⟨g10, hm⟩ := gd_x hm
    obtain rfl := Option.some.inj hm
    subst hQ
    exact aw_zret rfl (bz_n g10) (Nat.zero_le _) (Nat.zero_le _) (by decide +kernel) ⟨rfl, hs, h0⟩
  refine aw_if_ne (off := 7) 23 (by decide) (by decide +kernel) (fun hc => ?_) (fun hc => ?_)
  · have hm := (if_neg hc).symm.trans hm
    refine aw_b (pc' := 24) (lv' := [(0, .ref a), (1, .int i0)]) (st' := [.int (0 : Int32), .ref a]) [(23, .iconst 0, 1, .int (0 : Int32))] (by decide +kernel) rfl ?_
    refine aw_lv (lv' := []) [] rfl ?_
    exact J24 (0 : Int32) H4 h0 hs hm
  · have hm := (if_pos hc).symm.trans hm
    refine aw_b (pc' := 24) (lv' := [(0, .ref a), (1, .int i0)]) (st' := [.int (1 : Int32), .ref a]) [(19, .iconst 1, 1, .int (1 : Int32)), (20, .goto 4, 3, .null)] (by decide +kernel) rfl ?_
    refine aw_lv (lv' := []) [] rfl ?_
    exact J24 (1 : Int32) H4 h0 hs hm
def mX8_setting : mt_ := (yX8_setting, cX8_setting, 2, some .int, [], { frames := 2, locals := 43, cells := 0, slots := 0 })
theorem ckX8_setting : cokV_ mX8_setting := ⟨⟨(uw_mem 1620 (by decide +kernel) (by decide +kernel)), (uw_mem 112 (by decide +kernel) (by decide +kernel)), by decide +kernel, by decide +kernel⟩, (uw_mem 1618 (by decide +kernel) (by decide +kernel)), (uw_mem 1619 (by decide +kernel) (by decide +kernel))⟩
theorem nkX8_setting : nok_ mX8_setting 1 := by decide +kernel
theorem kwX8_225 : Cond.constantLong RX8 225 (14 : Int64) ∈ uw_ := (uw_mem 1621 (by decide +kernel) (by decide +kernel))
def fX8_setting_j46 (i0 : Int32) (r5 : st_ × Int32) : Option (st_ × Int32) :=
  gd_ (ib_ i0 12584) <|
  some (r5.1, (r5.1 1 (ix_ i0)))
def fX8_setting_j18 (s : st_) (i0 : Int32) (z1_j18 : Int32) : Option (st_ × Int32) :=
  bn_ (fX8_wrong s z1_j18) fun r5 =>
  if r5.2 = (0 : Int32) then (if i0 = (6 : Int32) then (gd_ (ib_ (5 : Int32) 12584) <|
  if (r5.1 1 (ix_ (5 : Int32))) = (2 : Int32) then (fX8_setting_j46 i0 r5)
  else (some (r5.1, (-1 : Int32))))
  else (fX8_setting_j46 i0 r5))
  else (some (r5.1, (0 : Int32)))
def fX8_setting (s : st_) (i0 : Int32) : Option (st_ × Int32) :=
  bn_ (fX8_in (Int32.toInt64 i0) (0 : Int64) (14 : Int64)) fun r1 =>
  if r1 = (0 : Int32) then (fX8_setting_j18 s i0 (1 : Int32))
  else (fX8_setting_j18 s i0 (0 : Int32))
theorem kX8_setting {E : ev_} {H : Heap} {a : Nat} {s : st_} {i0 : Int32} {r : st_ × Int32} (hm : fX8_setting s i0 = some r) (h0 : has_ E H a ly_O s) (hf : ev_fr E a) : sp_ E mX8_setting [.ref a, .int i0] H (po1 (.inl (some (.int r.2))) (fun Hn => sm_ H Hn a 10 ∧ has_ E Hn a ly_O r.1)) := by
  refine sp_of (by decide +kernel) rfl rfl ?_
  generalize hQ : po1 _ _ = Q
  have hs : sm_ H H a 10 := sm_.rfl'
  unfold fX8_setting at hm
  refine aw_lv (lv' := [(0, .ref a), (1, .int i0)]) [0, 1] rfl ?_
  refine aw_b (pc' := 4) (lv' := [(0, .ref a), (1, .int i0)]) (st' := [.long (0 : Int64), .long (Int32.toInt64 i0), .ref a]) [(0, .aload_n 0, 1, .null), (1, .iload_n 1, 1, .null), (2, .i2l, 1, .null), (3, .lconst 0, 1, .long (0 : Int64))] (by decide +kernel) rfl ?_
  refine aw_ldc2 (v := (14 : Int64)) kwX8_225 (by decide +kernel) ?_
  obtain ⟨r1, e2, hm⟩ := bn_x hm
  refine aw_cs (rest := [.ref a]) (st1 := [.int r1, .ref a]) (kX8_in e2) rfl rfl ckX8_in lkX8_70 nkX8_in rfl rfl rfl (Nat.le_of_ble_eq_true rfl) (Nat.zero_le _) (Nat.zero_le _) (by decide +kernel) (fun H3 z4 => ?_)
  have h0 := h0.kept0 z4
  have hs := hs.step0 z4
  have J18 : ∀ (z1_j18 : Int32) (H_j18 : Heap), has_ E H_j18 a ly_O s → sm_ H H_j18 a 10 → fX8_setting_j18 s i0 z1_j18 = some r → aw E mX8_setting Q 18 [(0, .ref a), (1, .int i0)] [.int z1_j18, .ref a] H_j18 0 0 := by
    intro z1_j18 H_j18 h0 hs hm
    unfold fX8_setting_j18 at hm
    obtain ⟨r5, e6, hm⟩ := bn_x hm
    refine aw_cv (rest := []) (st1 := [.int r5.2]) a 0 (kX8_wrong e6 h0 hf) rfl rfl ckX8_wrong lkX8_221 h0 eo_O_0 ⟨_, _, rfl⟩ nkX8_wrong rfl rfl rfl (Nat.le_of_ble_eq_true rfl) (Nat.zero_le _) (Nat.zero_le _) (by decide +kernel) (fun H7 z8 => ?_)
    obtain ⟨z8, hn⟩ := z8
    have h0 := hn
    have hs := hs.step z8 (by omega) (by omega)
    refine aw_if_eq (off := 5) 26 (by decide) (by decide +kernel) (fun hc => ?_) (fun hc => ?_)
    · have hm := (if_pos hc).symm.trans hm
      refine aw_b (pc' := 29) (lv' := [(0, .ref a), (1, .int i0)]) (st' := [.int (6 : Int32), .int i0]) [(26, .iload_n 1, 1, .null), (27, .bipush 6, 2, .int (6 : Int32))] (by decide +kernel) rfl ?_
      have J46 : ∀ (H_j46 : Heap), has_ E H_j46 a ly_O r5.1 → sm_ H H_j46 a 10 → fX8_setting_j46 i0 r5 = some r → aw E mX8_setting Q 46 [(0, .ref a), (1, .int i0)] [] H_j46 0 0 := by
        intro H_j46 h0 hs hm
        unfold fX8_setting_j46 at hm
        refine aw_b (pc' := 47) (lv' := [(0, .ref a), (1, .int i0)]) (st' := [.ref a]) [(46, .aload_n 0, 1, .null)] (by decide +kernel) rfl ?_
        refine aw_gl (v := .ref (a + 1)) a 0 h0 eo_O_0 fgX8_9 rfl (by decide +kernel) ?_
        refine aw_b (pc' := 51) (lv' := [(0, .ref a), (1, .int i0)]) (st' := [.int i0, .ref (a + 1)]) [(50, .iload_n 1, 1, .null)] (by decide +kernel) rfl ?_
        obtain ⟨g9, hm⟩ := gd_x hm
        refine aw_ial a 1 h0 rfl g9 (by decide +kernel) ?_
        obtain rfl := Option.some.inj hm
        subst hQ
        exact aw_iret rfl (Nat.zero_le _) (Nat.zero_le _) (by decide +kernel) ⟨rfl, hs, h0⟩
      refine aw_ic_ne (off := 17) 46 (by decide) (by decide +kernel) (fun hc => ?_) (fun hc => ?_)
      · have hm := (if_neg hc).symm.trans hm
        exact J46 H7 h0 hs hm
      · have hm := (if_pos hc).symm.trans hm
        refine aw_b (pc' := 33) (lv' := [(0, .ref a), (1, .int i0)]) (st' := [.ref a]) [(32, .aload_n 0, 1, .null)] (by decide +kernel) rfl ?_
        refine aw_gl (v := .ref (a + 1)) a 0 h0 eo_O_0 fgX8_9 rfl (by decide +kernel) ?_
        refine aw_b (pc' := 37) (lv' := [(0, .ref a), (1, .int i0)]) (st' := [.int (5 : Int32), .ref (a + 1)]) [(36, .iconst 5, 1, .int (5 : Int32))] (by decide +kernel) rfl ?_
        obtain ⟨g10, hm⟩ := gd_x hm
        refine aw_ial a 1 h0 rfl g10 (by decide +kernel) ?_
        refine aw_b (pc' := 39) (lv' := [(0, .ref a), (1, .int i0)]) (st' := [.int (2 : Int32), .int (r5.1 1 (ix_ (5 : Int32)))]) [(38, .iconst 2, 1, .int (2 : Int32))] (by decide +kernel) rfl ?_
        refine aw_ic_eq (off := 7) 46 (by decide) (by decide +kernel) (fun hc => ?_) (fun hc => ?_)
        · have hm := (if_pos hc).symm.trans hm
          exact J46 H7 h0 hs hm
        · have hm := (if_neg hc).symm.trans hm
          refine aw_b (pc' := 52) (lv' := [(0, .ref a), (1, .int i0)]) (st' := [.int (-1 : Int32)]) [(42, .iconst (-1), 1, .int (-1 : Int32)), (43, .goto 9, 3, .null)] (by decide +kernel) rfl ?_
          obtain rfl := Option.some.inj hm
          subst hQ
          exact aw_iret rfl (Nat.zero_le _) (Nat.zero_le _) (by decide +kernel) ⟨rfl, hs, h0⟩
    · have hm := (if_neg hc).symm.trans hm
      refine aw_b (pc' := 25) (lv' := [(0, .ref a), (1, .int i0)]) (st' := [.int (0 : Int32)]) [(24, .iconst 0, 1, .int (0 : Int32))] (by decide +kernel) rfl ?_
      obtain rfl := Option.some.inj hm
      subst hQ
      exact aw_iret rfl (Nat.zero_le _) (Nat.zero_le _) (by decide +kernel) ⟨rfl, hs, h0⟩
  refine aw_if_ne (off := 7) 17 (by decide) (by decide +kernel) (fun hc => ?_) (fun hc => ?_)
  · have hm := (if_neg hc).symm.trans hm
    refine aw_b (pc' := 18) (lv' := [(0, .ref a), (1, .int i0)]) (st' := [.int (0 : Int32), .ref a]) [(17, .iconst 0, 1, .int (0 : Int32))] (by decide +kernel) rfl ?_
    exact J18 (0 : Int32) H3 h0 hs hm
  · have hm := (if_pos hc).symm.trans hm
    refine aw_b (pc' := 18) (lv' := [(0, .ref a), (1, .int i0)]) (st' := [.int (1 : Int32), .ref a]) [(13, .iconst 1, 1, .int (1 : Int32)), (14, .goto 4, 3, .null)] (by decide +kernel) rfl ?_
    exact J18 (1 : Int32) H3 h0 hs hm
def mX8_rule : mt_ := (yX8_rule, cX8_rule, 3, some .int, [], { frames := 3, locals := 67, cells := 0, slots := 0 })
theorem ckX8_rule : cokV_ mX8_rule := ⟨⟨(uw_mem 1633 (by decide +kernel) (by decide +kernel)), (uw_mem 112 (by decide +kernel) (by decide +kernel)), by decide +kernel, by decide +kernel⟩, (uw_mem 1631 (by decide +kernel) (by decide +kernel)), (uw_mem 1632 (by decide +kernel) (by decide +kernel))⟩
theorem nkX8_rule : nok_ mX8_rule 2 := by decide +kernel
theorem lkX8_227 : Cond.methodLink RX8 227 yX8_noRule ∈ uw_ := (uw_mem 1634 (by decide +kernel) (by decide +kernel))
theorem kwX8_230 : Cond.constantLong RX8 230 (5 : Int64) ∈ uw_ := (uw_mem 1642 (by decide +kernel) (by decide +kernel))
theorem lkX8_236 : Cond.methodLink RX8 236 yX8_of ∈ uw_ := (uw_mem 1650 (by decide +kernel) (by decide +kernel))
theorem lkX8_232 : Cond.methodLink RX8 232 yX8_armOf ∈ uw_ := (uw_mem 1643 (by decide +kernel) (by decide +kernel))
def fX8_rule_j59 (i0 : Int32) (r9 : st_ × Int32) (z2_j59 : Int32) : Option (st_ × Int32) :=
  bn_ (fX8_of r9.1 i0 z2_j59) fun r13 =>
  some (r9.1, r13)
def fX8_rule_j26 (i0 : Int32) (i1 : Int32) (r1 : st_ × Int32) (z1_j26 : Int32) : Option (st_ × Int32) :=
  bn_ (fX8_throwsIf r1.1 z1_j26 (2 : Int32)) fun r9 =>
  if r9.2 = (0 : Int32) then (if i1 = (4 : Int32) then (bn_ (fX8_armOf r9.1 i0 (3 : Int32)) fun r17 =>
  some (r9.1, r17))
  else (if i1 = (5 : Int32) then (fX8_rule_j59 i0 r9 (4 : Int32))
  else (fX8_rule_j59 i0 r9 i1)))
  else (some (r9.1, (0 : Int32)))
def fX8_rule (s : st_) (i0 : Int32) (i1 : Int32) : Option (st_ × Int32) :=
  bn_ (fX8_noRule s i0) fun r1 =>
  if r1.2 = (0 : Int32) then (bn_ (fX8_in (Int32.toInt64 i1) (0 : Int64) (5 : Int64)) fun r5 =>
  if r5 = (0 : Int32) then (fX8_rule_j26 i0 i1 r1 (1 : Int32))
  else (fX8_rule_j26 i0 i1 r1 (0 : Int32)))
  else (some (r1.1, (0 : Int32)))
theorem kX8_rule {E : ev_} {H : Heap} {a : Nat} {s : st_} {i0 : Int32} {i1 : Int32} {r : st_ × Int32} (hm : fX8_rule s i0 i1 = some r) (h0 : has_ E H a ly_O s) (hf : ev_fr E a) : sp_ E mX8_rule [.ref a, .int i0, .int i1] H (po1 (.inl (some (.int r.2))) (fun Hn => sm_ H Hn a 10 ∧ has_ E Hn a ly_O r.1)) := by
  refine sp_of (by decide +kernel) rfl rfl ?_
  generalize hQ : po1 _ _ = Q
  have hs : sm_ H H a 10 := sm_.rfl'
  unfold fX8_rule at hm
  refine aw_lv (lv' := [(0, .ref a), (1, .int i0), (2, .int i1)]) [0, 1, 2] rfl ?_
  refine aw_b (pc' := 2) (lv' := [(0, .ref a), (1, .int i0), (2, .int i1)]) (st' := [.int i0, .ref a]) [(0, .aload_n 0, 1, .null), (1, .iload_n 1, 1, .null)] (by decide +kernel) rfl ?_
  obtain ⟨r1, e2, hm⟩ := bn_x hm
  refine aw_cv (rest := []) (st1 := [.int r1.2]) a 0 (kX8_noRule e2 h0 hf) rfl rfl ckX8_noRule lkX8_227 h0 eo_O_0 ⟨_, _, rfl⟩ nkX8_noRule rfl rfl rfl (Nat.le_of_ble_eq_true rfl) (Nat.zero_le _) (Nat.zero_le _) (by decide +kernel) (fun H3 z4 => ?_)
  obtain ⟨z4, hn⟩ := z4
  have h0 := hn
  have hs := hs.step z4 (by omega) (by omega)
  refine aw_if_ne (off := 28) 33 (by decide) (by decide +kernel) (fun hc => ?_) (fun hc => ?_)
  · have hm := (if_neg hc).symm.trans hm
    refine aw_b (pc' := 34) (lv' := [(0, .ref a), (1, .int i0), (2, .int i1)]) (st' := [.int (0 : Int32)]) [(33, .iconst 0, 1, .int (0 : Int32))] (by decide +kernel) rfl ?_
    obtain rfl := Option.some.inj hm
    subst hQ
    exact aw_iret rfl (Nat.zero_le _) (Nat.zero_le _) (by decide +kernel) ⟨rfl, hs, h0⟩
  · have hm := (if_pos hc).symm.trans hm
    refine aw_b (pc' := 12) (lv' := [(0, .ref a), (1, .int i0), (2, .int i1)]) (st' := [.long (0 : Int64), .long (Int32.toInt64 i1), .ref a]) [(8, .aload_n 0, 1, .null), (9, .iload_n 2, 1, .null), (10, .i2l, 1, .null), (11, .lconst 0, 1, .long (0 : Int64))] (by decide +kernel) rfl ?_
    refine aw_ldc2 (v := (5 : Int64)) kwX8_230 (by decide +kernel) ?_
    obtain ⟨r5, e6, hm⟩ := bn_x hm
    refine aw_cs (rest := [.ref a]) (st1 := [.int r5, .ref a]) (kX8_in e6) rfl rfl ckX8_in lkX8_70 nkX8_in rfl rfl rfl (Nat.le_of_ble_eq_true rfl) (Nat.zero_le _) (Nat.zero_le _) (by decide +kernel) (fun H7 z8 => ?_)
    have h0 := h0.kept0 z8
    have hs := hs.step0 z8
    have J26 : ∀ (z1_j26 : Int32) (H_j26 : Heap), has_ E H_j26 a ly_O r1.1 → sm_ H H_j26 a 10 → fX8_rule_j26 i0 i1 r1 z1_j26 = some r → aw E mX8_rule Q 26 [(0, .ref a), (1, .int i0), (2, .int i1)] [.int z1_j26, .ref a] H_j26 0 0 := by
      intro z1_j26 H_j26 h0 hs hm
      unfold fX8_rule_j26 at hm
      refine aw_b (pc' := 27) (lv' := [(0, .ref a), (1, .int i0), (2, .int i1)]) (st' := [.int (2 : Int32), .int z1_j26, .ref a]) [(26, .iconst 2, 1, .int (2 : Int32))] (by decide +kernel) rfl ?_
      obtain ⟨r9, e10, hm⟩ := bn_x hm
      refine aw_cv (rest := []) (st1 := [.int r9.2]) a 0 (kX8_throwsIf e10 h0 hf) rfl rfl ckX8_throwsIf lkX8_49 h0 eo_O_0 ⟨_, _, rfl⟩ nkX8_throwsIf rfl rfl rfl (Nat.le_of_ble_eq_true rfl) (Nat.zero_le _) (Nat.zero_le _) (by decide +kernel) (fun H11 z12 => ?_)
      obtain ⟨z12, hn⟩ := z12
      have h0 := hn
      have hs := hs.step z12 (by omega) (by omega)
      refine aw_if_eq (off := 5) 35 (by decide) (by decide +kernel) (fun hc => ?_) (fun hc => ?_)
      · have hm := (if_pos hc).symm.trans hm
        refine aw_b (pc' := 37) (lv' := [(0, .ref a), (1, .int i0), (2, .int i1)]) (st' := [.int (4 : Int32), .int i1]) [(35, .iload_n 2, 1, .null), (36, .iconst 4, 1, .int (4 : Int32))] (by decide +kernel) rfl ?_
        refine aw_ic_ne (off := 10) 47 (by decide) (by decide +kernel) (fun hc => ?_) (fun hc => ?_)
        · have hm := (if_neg hc).symm.trans hm
          refine aw_b (pc' := 51) (lv' := [(0, .ref a), (1, .int i0), (2, .int i1)]) (st' := [.int (5 : Int32), .int i1, .int i0, .ref a]) [(47, .aload_n 0, 1, .null), (48, .iload_n 1, 1, .null), (49, .iload_n 2, 1, .null), (50, .iconst 5, 1, .int (5 : Int32))] (by decide +kernel) rfl ?_
          have J59 : ∀ (z2_j59 : Int32) (H_j59 : Heap), has_ E H_j59 a ly_O r9.1 → sm_ H H_j59 a 10 → fX8_rule_j59 i0 r9 z2_j59 = some r → aw E mX8_rule Q 59 [] [.int z2_j59, .int i0, .ref a] H_j59 0 0 := by
            intro z2_j59 H_j59 h0 hs hm
            unfold fX8_rule_j59 at hm
            obtain ⟨r13, e14, hm⟩ := bn_x hm
            refine aw_cv (rest := []) (st1 := [.int r13]) a 0 (kX8_of e14 h0) rfl rfl ckX8_of lkX8_236 h0 eo_O_0 ⟨_, _, rfl⟩ nkX8_of rfl rfl rfl (Nat.le_of_ble_eq_true rfl) (Nat.zero_le _) (Nat.zero_le _) (by decide +kernel) (fun H15 z16 => ?_)
            have h0 := h0.kept0 z16
            have hs := hs.step0 z16
            obtain rfl := Option.some.inj hm
            subst hQ
            exact aw_iret rfl (Nat.zero_le _) (Nat.zero_le _) (by decide +kernel) ⟨rfl, hs, h0⟩
          refine aw_ic_ne (off := 7) 58 (by decide) (by decide +kernel) (fun hc => ?_) (fun hc => ?_)
          · have hm := (if_neg hc).symm.trans hm
            refine aw_b (pc' := 59) (lv' := [(0, .ref a), (1, .int i0), (2, .int i1)]) (st' := [.int i1, .int i0, .ref a]) [(58, .iload_n 2, 1, .null)] (by decide +kernel) rfl ?_
            refine aw_lv (lv' := []) [] rfl ?_
            exact J59 i1 H11 h0 hs hm
          · have hm := (if_pos hc).symm.trans hm
            refine aw_b (pc' := 59) (lv' := [(0, .ref a), (1, .int i0), (2, .int i1)]) (st' := [.int (4 : Int32), .int i0, .ref a]) [(54, .iconst 4, 1, .int (4 : Int32)), (55, .goto 4, 3, .null)] (by decide +kernel) rfl ?_
            refine aw_lv (lv' := []) [] rfl ?_
            exact J59 (4 : Int32) H11 h0 hs hm
        · have hm := (if_pos hc).symm.trans hm
          refine aw_b (pc' := 43) (lv' := [(0, .ref a), (1, .int i0), (2, .int i1)]) (st' := [.int (3 : Int32), .int i0, .ref a]) [(40, .aload_n 0, 1, .null), (41, .iload_n 1, 1, .null), (42, .iconst 3, 1, .int (3 : Int32))] (by decide +kernel) rfl ?_
          obtain ⟨r17, e18, hm⟩ := bn_x hm
          refine aw_cv (rest := []) (st1 := [.int r17]) a 0 (kX8_armOf e18 h0) rfl rfl ckX8_armOf lkX8_232 h0 eo_O_0 ⟨_, _, rfl⟩ nkX8_armOf rfl rfl rfl (Nat.le_of_ble_eq_true rfl) (Nat.zero_le _) (Nat.zero_le _) (by decide +kernel) (fun H19 z20 => ?_)
          have h0 := h0.kept0 z20
          have hs := hs.step0 z20
          obtain rfl := Option.some.inj hm
          subst hQ
          exact aw_iret rfl (Nat.zero_le _) (Nat.zero_le _) (by decide +kernel) ⟨rfl, hs, h0⟩
      · have hm := (if_neg hc).symm.trans hm
        refine aw_b (pc' := 34) (lv' := [(0, .ref a), (1, .int i0), (2, .int i1)]) (st' := [.int (0 : Int32)]) [(33, .iconst 0, 1, .int (0 : Int32))] (by decide +kernel) rfl ?_
        obtain rfl := Option.some.inj hm
        subst hQ
        exact aw_iret rfl (Nat.zero_le _) (Nat.zero_le _) (by decide +kernel) ⟨rfl, hs, h0⟩
    refine aw_if_ne (off := 7) 25 (by decide) (by decide +kernel) (fun hc => ?_) (fun hc => ?_)
    · have hm := (if_neg hc).symm.trans hm
      refine aw_b (pc' := 26) (lv' := [(0, .ref a), (1, .int i0), (2, .int i1)]) (st' := [.int (0 : Int32), .ref a]) [(25, .iconst 0, 1, .int (0 : Int32))] (by decide +kernel) rfl ?_
      exact J26 (0 : Int32) H7 h0 hs hm
    · have hm := (if_pos hc).symm.trans hm
      refine aw_b (pc' := 26) (lv' := [(0, .ref a), (1, .int i0), (2, .int i1)]) (st' := [.int (1 : Int32), .ref a]) [(21, .iconst 1, 1, .int (1 : Int32)), (22, .goto 4, 3, .null)] (by decide +kernel) rfl ?_
      exact J26 (1 : Int32) H7 h0 hs hm
def mX8_ask : mt_ := (yX8_ask, cX8_ask, 2, some .int, [], { frames := 1, locals := 25, cells := 0, slots := 0 })
theorem ckX8_ask : cokV_ mX8_ask := ⟨⟨(uw_mem 1657 (by decide +kernel) (by decide +kernel)), (uw_mem 112 (by decide +kernel) (by decide +kernel)), by decide +kernel, by decide +kernel⟩, (uw_mem 1655 (by decide +kernel) (by decide +kernel)), (uw_mem 1656 (by decide +kernel) (by decide +kernel))⟩
theorem nkX8_ask : nok_ mX8_ask 1 := by decide +kernel
def fX8_ask (s : st_) (i0 : Int32) : Option (st_ × Int32) :=
  bd_ (pt_ s 0 6 (0 : Int32)) fun s1 =>
  gd_ (ib_ (10 : Int32) 12584) <|
  bn_ (fX8_in (Int32.toInt64 i0) (0 : Int64) (Int32.toInt64 ((s1 1 (ix_ (10 : Int32))) - (1 : Int32)))) fun r6 =>
  if r6 = (0 : Int32) then (some (s1, (-1 : Int32)))
  else (gd_ (ib_ ((56 : Int32) + i0) 12584) <|
  some (s1, (s1 1 (ix_ ((56 : Int32) + i0)))))
theorem kX8_ask {E : ev_} {H : Heap} {a : Nat} {s : st_} {i0 : Int32} {r : st_ × Int32} (hm : fX8_ask s i0 = some r) (h0 : has_ E H a ly_O s) (hf : ev_fr E a) : sp_ E mX8_ask [.ref a, .int i0] H (po1 (.inl (some (.int r.2))) (fun Hn => sm_ H Hn a 10 ∧ has_ E Hn a ly_O r.1)) := by
  refine sp_of (by decide +kernel) rfl rfl ?_
  generalize hQ : po1 _ _ = Q
  have hs : sm_ H H a 10 := sm_.rfl'
  unfold fX8_ask at hm
  refine aw_lv (lv' := [(0, .ref a), (1, .int i0)]) [0, 1] rfl ?_
  refine aw_b (pc' := 2) (lv' := [(0, .ref a), (1, .int i0)]) (st' := [.int (0 : Int32), .ref a]) [(0, .aload_n 0, 1, .null), (1, .iconst 0, 1, .int (0 : Int32))] (by decide +kernel) rfl ?_
  obtain ⟨s1, e2, hm⟩ := bd_x hm
  refine aw_pl a 0 h0 eo_O_0 fsq_8_6 fpX8_45 hf rfl rfl e2 (by decide +kernel) (fun H3 h0 z4 => ?_)
  have hs := hs.step z4 (by omega) (by omega)
  refine aw_b (pc' := 9) (lv' := [(0, .ref a), (1, .int i0)]) (st' := [.ref a, .long (0 : Int64), .long (Int32.toInt64 i0)]) [(5, .iload_n 1, 1, .null), (6, .i2l, 1, .null), (7, .lconst 0, 1, .long (0 : Int64)), (8, .aload_n 0, 1, .null)] (by decide +kernel) rfl ?_
  refine aw_gl (v := .ref (a + 1)) a 0 h0 eo_O_0 fgX8_9 rfl (by decide +kernel) ?_
  refine aw_b (pc' := 14) (lv' := [(0, .ref a), (1, .int i0)]) (st' := [.int (10 : Int32), .ref (a + 1), .long (0 : Int64), .long (Int32.toInt64 i0)]) [(12, .bipush 10, 2, .int (10 : Int32))] (by decide +kernel) rfl ?_
  obtain ⟨g5, hm⟩ := gd_x hm
  refine aw_ial a 1 h0 rfl g5 (by decide +kernel) ?_
  refine aw_b (pc' := 18) (lv' := [(0, .ref a), (1, .int i0)]) (st' := [.long (Int32.toInt64 ((s1 1 (ix_ (10 : Int32))) - (1 : Int32))), .long (0 : Int64), .long (Int32.toInt64 i0)]) [(15, .iconst 1, 1, .int (1 : Int32)), (16, .isub, 1, .null), (17, .i2l, 1, .null)] (by decide +kernel) rfl ?_
  obtain ⟨r6, e7, hm⟩ := bn_x hm
  refine aw_cs (rest := []) (st1 := [.int r6]) (kX8_in e7) rfl rfl ckX8_in lkX8_70 nkX8_in rfl rfl rfl (Nat.le_of_ble_eq_true rfl) (Nat.zero_le _) (Nat.zero_le _) (by decide +kernel) (fun H8 z9 => ?_)
  have h0 := h0.kept0 z9
  have hs := hs.step0 z9
  refine aw_if_eq (off := 15) 36 (by decide) (by decide +kernel) (fun hc => ?_) (fun hc => ?_)
  · have hm := (if_pos hc).symm.trans hm
    refine aw_b (pc' := 37) (lv' := [(0, .ref a), (1, .int i0)]) (st' := [.int (-1 : Int32)]) [(36, .iconst (-1), 1, .int (-1 : Int32))] (by decide +kernel) rfl ?_
    obtain rfl := Option.some.inj hm
    subst hQ
    exact aw_iret rfl (Nat.zero_le _) (Nat.zero_le _) (by decide +kernel) ⟨rfl, hs, h0⟩
  · have hm := (if_neg hc).symm.trans hm
    refine aw_b (pc' := 25) (lv' := [(0, .ref a), (1, .int i0)]) (st' := [.ref a]) [(24, .aload_n 0, 1, .null)] (by decide +kernel) rfl ?_
    refine aw_gl (v := .ref (a + 1)) a 0 h0 eo_O_0 fgX8_9 rfl (by decide +kernel) ?_
    refine aw_b (pc' := 32) (lv' := [(0, .ref a), (1, .int i0)]) (st' := [.int ((56 : Int32) + i0), .ref (a + 1)]) [(28, .bipush 56, 2, .int (56 : Int32)), (30, .iload_n 1, 1, .null), (31, .iadd, 1, .null)] (by decide +kernel) rfl ?_
    obtain ⟨g10, hm⟩ := gd_x hm
    refine aw_ial a 1 h0 rfl g10 (by decide +kernel) ?_
    refine aw_b (pc' := 37) (lv' := [(0, .ref a), (1, .int i0)]) (st' := [.int (s1 1 (ix_ ((56 : Int32) + i0)))]) [(33, .goto 4, 3, .null)] (by decide +kernel) rfl ?_
    obtain rfl := Option.some.inj hm
    subst hQ
    exact aw_iret rfl (Nat.zero_le _) (Nat.zero_le _) (by decide +kernel) ⟨rfl, hs, h0⟩
def mX8_sets : mt_ := (yX8_sets, cX8_sets, 4, some .int, [], { frames := 0, locals := 0, cells := 0, slots := 0 })
theorem ckX8_sets : cokV_ mX8_sets := ⟨⟨(uw_mem 1685 (by decide +kernel) (by decide +kernel)), (uw_mem 112 (by decide +kernel) (by decide +kernel)), by decide +kernel, by decide +kernel⟩, (uw_mem 1684 (by decide +kernel) (by decide +kernel)), (uw_mem 54 (by decide +kernel) (by decide +kernel))⟩
theorem nkX8_sets : nok_ mX8_sets 2 := by decide +kernel
def fX8_sets (s : st_) (i0 : Int32) (i1 : Int32) : Option (st_ × Int32) :=
  gd_ (ib_ i0 12584) <|
  gd_ (ib_ i0 12584) <|
  bd_ (pt_ s 1 (ix_ i0) i1) fun s3 =>
  some (s3, (s 1 (ix_ i0)))
theorem kX8_sets {E : ev_} {H : Heap} {a : Nat} {s : st_} {i0 : Int32} {i1 : Int32} {r : st_ × Int32} (hm : fX8_sets s i0 i1 = some r) (h0 : has_ E H a ly_O s) (hf : ev_fr E a) : sp_ E mX8_sets [.ref a, .int i0, .int i1] H (po1 (.inl (some (.int r.2))) (fun Hn => sm_ H Hn a 10 ∧ has_ E Hn a ly_O r.1)) := by
  refine sp_of (by decide +kernel) rfl rfl ?_
  generalize hQ : po1 _ _ = Q
  have hs : sm_ H H a 10 := sm_.rfl'
  unfold fX8_sets at hm
  refine aw_lv (lv' := [(0, .ref a), (1, .int i0), (2, .int i1)]) [0, 1, 2] rfl ?_
  refine aw_b (pc' := 1) (lv' := [(0, .ref a), (1, .int i0), (2, .int i1)]) (st' := [.ref a]) [(0, .aload_n 0, 1, .null)] (by decide +kernel) rfl ?_
  refine aw_gl (v := .ref (a + 1)) a 0 h0 eo_O_0 fgX8_9 rfl (by decide +kernel) ?_
  refine aw_b (pc' := 5) (lv' := [(0, .ref a), (1, .int i0), (2, .int i1)]) (st' := [.int i0, .ref (a + 1)]) [(4, .iload_n 1, 1, .null)] (by decide +kernel) rfl ?_
  obtain ⟨g1, hm⟩ := gd_x hm
  refine aw_ial a 1 h0 rfl g1 (by decide +kernel) ?_
  refine aw_b (pc' := 8) (lv' := [(3, .int (s 1 (ix_ i0))), (0, .ref a), (1, .int i0), (2, .int i1)]) (st' := [.ref a]) [(6, .istore_n 3, 1, .null), (7, .aload_n 0, 1, .null)] (by decide +kernel) rfl ?_
  refine aw_gl (v := .ref (a + 1)) a 0 h0 eo_O_0 fgX8_9 rfl (by decide +kernel) ?_
  refine aw_b (pc' := 13) (lv' := [(3, .int (s 1 (ix_ i0))), (0, .ref a), (1, .int i0), (2, .int i1)]) (st' := [.int i1, .int i0, .ref (a + 1)]) [(11, .iload_n 1, 1, .null), (12, .iload_n 2, 1, .null)] (by decide +kernel) rfl ?_
  obtain ⟨g2, hm⟩ := gd_x hm
  obtain ⟨s3, e4, hm⟩ := bd_x hm
  refine aw_isl a 1 h0 rfl hf g2 e4 (by decide +kernel) (fun H5 h0 z6 => ?_)
  have hs := hs.step z6 (by omega) (by omega)
  refine aw_b (pc' := 15) (lv' := [(3, .int (s 1 (ix_ i0))), (0, .ref a), (1, .int i0), (2, .int i1)]) (st' := [.int (s 1 (ix_ i0))]) [(14, .iload_n 3, 1, .null)] (by decide +kernel) rfl ?_
  obtain rfl := Option.some.inj hm
  subst hQ
  exact aw_iret rfl (Nat.zero_le _) (Nat.zero_le _) (by decide +kernel) ⟨rfl, hs, h0⟩
