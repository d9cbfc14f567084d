/-! the law: foresees -/
def mL_foresees : mt_ := (yL_foresees, cL_foresees, 17, some .boolean, [], { frames := 7, locals := 169, cells := 75, slots := 8899 })
theorem ckL_foresees : cokS_ mL_foresees := ⟨⟨(uw_mem 1356 (by decide +kernel) (by decide +kernel)), (uw_mem 28 (by decide +kernel) (by decide +kernel)), by decide +kernel, by decide +kernel⟩, (uw_mem 1355 (by decide +kernel) (by decide +kernel))⟩
theorem nkL_foresees : nok_ mL_foresees 4 := by decide +kernel
theorem lkL_259 : Cond.methodLink RL 259 yX7_restoreSnapshot ∈ uw_ := (uw_mem 1470 (by decide +kernel) (by decide +kernel))
theorem lkL_222 : Cond.methodLink RL 222 yL_whole ∈ uw_ := (uw_mem 1357 (by decide +kernel) (by decide +kernel))
def fL_foresees_j392 (i0 : Int32) (j4 : Int64) (s_j392 : st_) : Option (st_ × Int32) :=
  bn_ (fL_whole s_j392 i0) fun r85 =>
  if (lg_cmp r85 j4) = (0 : Int32) then (some (s_j392, (1 : Int32)))
  else (some (s_j392, (0 : Int32)))
def fL_foresees_j282 (t : st_) (i0 : Int32) (i1 : Int32) (i2 : Int32) (j4 : Int64) (j8 : Int32) (j9 : Int32) (j12 : Int32) (j13 : Int32) (r31 : st_ × Int32) : Option (st_ × Int32) :=
  bn_ (fX2_copyFrom (sb_ r31.1 8) t) fun r43 =>
  bd_ (mg_ r31.1 8 75 r43) fun s45 =>
  bn_ (gX7_setMaster s45 (2 : Int32) (i0 - (1 : Int32))) fun r49 =>
  bn_ (gX7_run r49.1 i1) fun r53 =>
  bn_ (gX7_regret r53.1 (0 : Int32)) fun r57 =>
  if r57 = j8 then (bn_ (fX2_copyFrom (sb_ r53.1 8) t) fun r61 =>
  bd_ (mg_ r53.1 8 75 r61) fun s63 =>
  bn_ (gX7_setFoe s63 (2 : Int32)) fun r67 =>
  bn_ (gX7_run r67.1 i1) fun r71 =>
  bn_ (gX7_regret r71.1 (0 : Int32)) fun r75 =>
  if r75 = j9 then (bn_ (fX2_copyFrom (sb_ r71.1 8) t) fun r79 =>
  bd_ (mg_ r71.1 8 75 r79) fun s81 =>
  if j13 < (0 : Int32) then (fL_foresees_j392 i0 j4 s81)
  else (bn_ (gX7_setFoe s81 (0 : Int32)) fun r89 =>
  bn_ (gX7_request r89.1 i2) fun r93 =>
  bn_ (gX7_run r93.1 (1 : Int32)) fun r97 =>
  bn_ (gX7_regret r97.1 (0 : Int32)) fun r101 =>
  if r101 = j12 then (bn_ (fX2_copyFrom (sb_ r97.1 8) t) fun r105 =>
  bd_ (mg_ r97.1 8 75 r105) fun s107 =>
  fL_foresees_j392 i0 j4 s107)
  else (some (r97.1, (0 : Int32)))))
  else (some (r71.1, (0 : Int32))))
  else (some (r53.1, (0 : Int32)))
def fL_foresees_j207 (t : st_) (i0 : Int32) (i1 : Int32) (i2 : Int32) (j4 : Int64) (j6 : Int32) (j7 : Int32) (j8 : Int32) (j9 : Int32) (j12 : Int32) (j13 : Int32) (j14 : Int32) (r1 : st_ × Int32) (z0_j189 : Int32) (z1_j207 : Int32) : Option (st_ × Int32) :=
  if z0_j189 = z1_j207 then (bn_ (fX2_copyFrom (sb_ r1.1 8) t) fun r21 =>
  bd_ (mg_ r1.1 8 75 r21) fun s23 =>
  bn_ (gX7_arm s23 (0 : Int32) (3 : Int32)) fun r27 =>
  bn_ (gX7_run s23 i1) fun r31 =>
  bn_ (gX7_regret r31.1 (0 : Int32)) fun r35 =>
  if r35 = j6 then (bn_ (gX7_arm r31.1 (0 : Int32) (3 : Int32)) fun r39 =>
  if (r39 - r27) = j7 then (if j14 = (-2000000000 : Int32) then (fL_foresees_j282 t i0 i1 i2 j4 j8 j9 j12 j13 r31)
  else (bn_ (gX7_arm r31.1 (-1 : Int32) (3 : Int32)) fun r111 =>
  bn_ (gX7_rival r31.1 (2 : Int32)) fun r115 =>
  if j14 = (r111 - r115) then (fL_foresees_j282 t i0 i1 i2 j4 j8 j9 j12 j13 r31)
  else (some (r31.1, (0 : Int32)))))
  else (some (r31.1, (0 : Int32))))
  else (some (r31.1, (0 : Int32))))
  else (some (r1.1, (0 : Int32)))
def fL_foresees_j189 (t : st_) (i0 : Int32) (i1 : Int32) (i2 : Int32) (j4 : Int64) (j6 : Int32) (j7 : Int32) (j8 : Int32) (j9 : Int32) (j12 : Int32) (j13 : Int32) (j14 : Int32) (r1 : st_ × Int32) (z0_j189 : Int32) : Option (st_ × Int32) :=
  bn_ (gX7_regret r1.1 (0 : Int32)) fun r13 =>
  bn_ (gX7_regret r1.1 (1 : Int32)) fun r17 =>
  if r13 ≤ r17 then (fL_foresees_j207 t i0 i1 i2 j4 j6 j7 j8 j9 j12 j13 j14 r1 z0_j189 (0 : Int32))
  else (fL_foresees_j207 t i0 i1 i2 j4 j6 j7 j8 j9 j12 j13 j14 r1 z0_j189 (1 : Int32))
def fL_foresees (s : st_) (t : st_) (i0 : Int32) (i1 : Int32) (i2 : Int32) (j4 : Int64) (j6 : Int32) (j7 : Int32) (j8 : Int32) (j9 : Int32) (j10 : Int32) (j11 : Int32) (j12 : Int32) (j13 : Int32) (j14 : Int32) : Option (st_ × Int32) :=
  bn_ (gX7_run s (1 : Int32)) fun r1 =>
  bn_ (gX7_rounds r1.1) fun r5 =>
  bn_ (gX7_taken r1.1 (r5 - (1 : Int32))) fun r9 =>
  if r9 = j11 then (if j10 = (1 : Int32) then (fL_foresees_j189 t i0 i1 i2 j4 j6 j7 j8 j9 j12 j13 j14 r1 (1 : Int32))
  else (fL_foresees_j189 t i0 i1 i2 j4 j6 j7 j8 j9 j12 j13 j14 r1 (0 : Int32)))
  else (some (r1.1, (0 : Int32)))
set_option maxRecDepth 100000 in
theorem kL_foreseesB {E : ev_} {H : Heap} {a b : Nat} {s : st_} {t : st_} {i0 : Int32} {i1 : Int32} {i2 : Int32} {j4 : Int64} {j6 : Int32} {j7 : Int32} {j8 : Int32} {j9 : Int32} {j10 : Int32} {j11 : Int32} {j12 : Int32} {j13 : Int32} {j14 : Int32} {r : st_ × Int32} (hm : fL_foresees s t i0 i1 i2 j4 j6 j7 j8 j9 j10 j11 j12 j13 j14 = some r) (h0 : has_ E H a ly_M s) (h1 : has_ E H b ly_G t) (hsn : at_ E H (a + 119) (sna_ E (up_ (fun _ => none) 0 (some b)))) (hd : a + 120 ≤ b) (hf : ev_fr E a) : aw E mL_foresees (po1 (.inl (some (.int r.2))) (fun Hn => sm_ H Hn a 119 ∧ has_ E Hn a ly_M r.1)) 157 [(0, .ref a), (1, .int i0), (2, .int i1), (3, .int i2), (4, .long j4), (6, .int j6), (7, .int j7), (8, .int j8), (9, .int j9), (10, .int j10), (11, .int j11), (12, .int j12), (13, .int j13), (14, .int j14)] [] H 75 8899 := by
  generalize hQ : po1 _ _ = Q
  have hs : sm_ H H a 119 := sm_.rfl'
  unfold fL_foresees at hm
  refine aw_b (pc' := 159) (lv' := [(0, .ref a), (1, .int i0), (2, .int i1), (3, .int i2), (4, .long j4), (6, .int j6), (7, .int j7), (8, .int j8), (9, .int j9), (10, .int j10), (11, .int j11), (12, .int j12), (13, .int j13), (14, .int j14)]) (st' := [.int (1 : Int32), .ref a]) [(157, .aload_n 0, 1, .null), (158, .iconst 1, 1, .int (1 : Int32))] (by decide +kernel) rfl ?_
  obtain ⟨r1, e2, hm⟩ := bn_x hm
  refine aw_cv (rest := []) (st1 := [.int r1.2]) a 0 (kX7_run e2 h0 hf) rfl rfl ckX7_run lkL_133 h0 eo_M_0 ⟨_, _, rfl⟩ nkX7_run rfl rfl rfl (Nat.le_of_ble_eq_true rfl) (Nat.le_of_ble_eq_true rfl) (Nat.le_of_ble_eq_true rfl) (by decide +kernel) (fun H3 z4 => ?_)
  obtain ⟨z4, hn⟩ := z4
  have h0 := hn
  have h1 := h1.kept (n := 75) z4 rfl (by omega)
  have hs := hs.step z4 (by omega) (by omega)
  refine aw_b (pc' := 165) (lv' := [(0, .ref a), (1, .int i0), (2, .int i1), (3, .int i2), (4, .long j4), (6, .int j6), (7, .int j7), (8, .int j8), (9, .int j9), (10, .int j10), (11, .int j11), (12, .int j12), (13, .int j13), (14, .int j14)]) (st' := [.ref a, .ref a]) [(162, .pop, 1, .null), (163, .aload_n 0, 1, .null), (164, .aload_n 0, 1, .null)] (by decide +kernel) rfl ?_
  obtain ⟨r5, e6, hm⟩ := bn_x hm
  refine aw_cv (rest := [.ref a]) (st1 := [.int r5, .ref a]) a 0 (kX7_rounds e6 h0) rfl rfl ckX7_rounds lkL_136 h0 eo_M_0 ⟨_, _, rfl⟩ nkX7_rounds rfl rfl rfl (Nat.le_of_ble_eq_true rfl) (Nat.le_of_ble_eq_true rfl) (Nat.le_of_ble_eq_true rfl) (by decide +kernel) (fun H7 z8 => ?_)
  have h0 := h0.kept0 z8
  have h1 := h1.kept0 z8
  have hs := hs.step0 z8
  refine aw_b (pc' := 170) (lv' := [(0, .ref a), (1, .int i0), (2, .int i1), (3, .int i2), (4, .long j4), (6, .int j6), (7, .int j7), (8, .int j8), (9, .int j9), (10, .int j10), (11, .int j11), (12, .int j12), (13, .int j13), (14, .int j14)]) (st' := [.int (r5 - (1 : Int32)), .ref a]) [(168, .iconst 1, 1, .int (1 : Int32)), (169, .isub, 1, .null)] (by decide +kernel) rfl ?_
  obtain ⟨r9, e10, hm⟩ := bn_x hm
  refine aw_cv (rest := []) (st1 := [.int r9]) a 0 (kX7_taken e10 h0) rfl rfl ckX7_taken lkL_195 h0 eo_M_0 ⟨_, _, rfl⟩ nkX7_taken rfl rfl rfl (Nat.le_of_ble_eq_true rfl) (Nat.le_of_ble_eq_true rfl) (Nat.le_of_ble_eq_true rfl) (by decide +kernel) (fun H11 z12 => ?_)
  have h0 := h0.kept0 z12
  have h1 := h1.kept0 z12
  have hs := hs.step0 z12
  refine aw_b (pc' := 175) (lv' := [(0, .ref a), (1, .int i0), (2, .int i1), (3, .int i2), (4, .long j4), (6, .int j6), (7, .int j7), (8, .int j8), (9, .int j9), (10, .int j10), (11, .int j11), (12, .int j12), (13, .int j13), (14, .int j14)]) (st' := [.int j11, .int r9]) [(173, .iload 11, 2, .null)] (by decide +kernel) rfl ?_
  refine aw_ic_ne (off := 35) 210 (by decide) (by decide +kernel) (fun hc => ?_) (fun hc => ?_)
  · have hm := (if_neg hc).symm.trans hm
    refine aw_b (pc' := 211) (lv' := [(0, .ref a), (1, .int i0), (2, .int i1), (3, .int i2), (4, .long j4), (6, .int j6), (7, .int j7), (8, .int j8), (9, .int j9), (10, .int j10), (11, .int j11), (12, .int j12), (13, .int j13), (14, .int j14)]) (st' := [.int (0 : Int32)]) [(210, .iconst 0, 1, .int (0 : Int32))] (by decide +kernel) rfl ?_
    obtain rfl := Option.some.inj hm
    subst hQ
    exact aw_zret rfl (by decide +kernel) (Nat.le_of_ble_eq_true rfl) (Nat.le_of_ble_eq_true rfl) (by decide +kernel) ⟨rfl, hs, h0⟩
  · have hm := (if_pos hc).symm.trans hm
    refine aw_b (pc' := 181) (lv' := [(0, .ref a), (1, .int i0), (2, .int i1), (3, .int i2), (4, .long j4), (6, .int j6), (7, .int j7), (8, .int j8), (9, .int j9), (10, .int j10), (11, .int j11), (12, .int j12), (13, .int j13), (14, .int j14)]) (st' := [.int (1 : Int32), .int j10]) [(178, .iload 10, 2, .null), (180, .iconst 1, 1, .int (1 : Int32))] (by decide +kernel) rfl ?_
    have J189 : ∀ (z0_j189 : Int32) (H_j189 : Heap), has_ E H_j189 a ly_M r1.1 → has_ E H_j189 b ly_G t → sm_ H H_j189 a 119 → fL_foresees_j189 t i0 i1 i2 j4 j6 j7 j8 j9 j12 j13 j14 r1 z0_j189 = some r → aw E mL_foresees Q 189 [(0, .ref a), (1, .int i0), (2, .int i1), (3, .int i2), (4, .long j4), (6, .int j6), (7, .int j7), (8, .int j8), (9, .int j9), (12, .int j12), (13, .int j13), (14, .int j14)] [.int z0_j189] H_j189 75 8899 := by
      intro z0_j189 H_j189 h0 h1 hs hm
      unfold fL_foresees_j189 at hm
      refine aw_b (pc' := 191) (lv' := [(0, .ref a), (1, .int i0), (2, .int i1), (3, .int i2), (4, .long j4), (6, .int j6), (7, .int j7), (8, .int j8), (9, .int j9), (12, .int j12), (13, .int j13), (14, .int j14)]) (st' := [.int (0 : Int32), .ref a, .int z0_j189]) [(189, .aload_n 0, 1, .null), (190, .iconst 0, 1, .int (0 : Int32))] (by decide +kernel) rfl ?_
      obtain ⟨r13, e14, hm⟩ := bn_x hm
      refine aw_cv (rest := [.int z0_j189]) (st1 := [.int r13, .int z0_j189]) a 0 (kX7_regret e14 h0) rfl rfl ckX7_regret lkL_147 h0 eo_M_0 ⟨_, _, rfl⟩ nkX7_regret rfl rfl rfl (Nat.le_of_ble_eq_true rfl) (Nat.le_of_ble_eq_true rfl) (Nat.le_of_ble_eq_true rfl) (by decide +kernel) (fun H15 z16 => ?_)
      have h0 := h0.kept0 z16
      have h1 := h1.kept0 z16
      have hs := hs.step0 z16
      refine aw_b (pc' := 196) (lv' := [(0, .ref a), (1, .int i0), (2, .int i1), (3, .int i2), (4, .long j4), (6, .int j6), (7, .int j7), (8, .int j8), (9, .int j9), (12, .int j12), (13, .int j13), (14, .int j14)]) (st' := [.int (1 : Int32), .ref a, .int r13, .int z0_j189]) [(194, .aload_n 0, 1, .null), (195, .iconst 1, 1, .int (1 : Int32))] (by decide +kernel) rfl ?_
      obtain ⟨r17, e18, hm⟩ := bn_x hm
      refine aw_cv (rest := [.int r13, .int z0_j189]) (st1 := [.int r17, .int r13, .int z0_j189]) a 0 (kX7_regret e18 h0) rfl rfl ckX7_regret lkL_147 h0 eo_M_0 ⟨_, _, rfl⟩ nkX7_regret rfl rfl rfl (Nat.le_of_ble_eq_true rfl) (Nat.le_of_ble_eq_true rfl) (Nat.le_of_ble_eq_true rfl) (by decide +kernel) (fun H19 z20 => ?_)
      have h0 := h0.kept0 z20
      have h1 := h1.kept0 z20
      have hs := hs.step0 z20
      have J207 : ∀ (z1_j207 : Int32) (H_j207 : Heap), has_ E H_j207 a ly_M r1.1 → has_ E H_j207 b ly_G t → sm_ H H_j207 a 119 → fL_foresees_j207 t i0 i1 i2 j4 j6 j7 j8 j9 j12 j13 j14 r1 z0_j189 z1_j207 = some r → aw E mL_foresees Q 207 [(0, .ref a), (1, .int i0), (2, .int i1), (3, .int i2), (4, .long j4), (6, .int j6), (7, .int j7), (8, .int j8), (9, .int j9), (12, .int j12), (13, .int j13), (14, .int j14)] [.int z1_j207, .int z0_j189] H_j207 75 8899 := by
        intro z1_j207 H_j207 h0 h1 hs hm
        unfold fL_foresees_j207 at hm
        refine aw_ic_eq (off := 5) 212 (by decide) (by decide +kernel) (fun hc => ?_) (fun hc => ?_)
        · have hm := (if_pos hc).symm.trans hm
          refine aw_b (pc' := 214) (lv' := [(0, .ref a), (1, .int i0), (2, .int i1), (3, .int i2), (4, .long j4), (6, .int j6), (7, .int j7), (8, .int j8), (9, .int j9), (12, .int j12), (13, .int j13), (14, .int j14)]) (st' := [.int (0 : Int32), .ref a]) [(212, .aload_n 0, 1, .null), (213, .iconst 0, 1, .int (0 : Int32))] (by decide +kernel) rfl ?_
          obtain ⟨r21, e22, hm⟩ := bn_x hm
          obtain ⟨s23, e24, hm⟩ := bd_x hm
          refine aw_cvu (rest := []) (st1 := [.int (r21 1 9)]) (kS7_rest e22 hf h0 (at_same hsn (hs.2 _ (at_lt hsn) (Or.inr (Nat.le_refl _)))) rfl hd h1) rfl rfl ckS7_rest lkL_259 (h0 0 _ eo_M_0) ⟨_, _, rfl⟩ nkS7_rest rfl rfl rfl rfl rfl (Nat.le_of_ble_eq_true rfl) (Nat.le_of_ble_eq_true rfl) (Nat.le_of_ble_eq_true rfl) (by decide +kernel) (fun H25 _ z26 => ?_)
          obtain ⟨z26, hn⟩ := z26
          rw [← e24] at hn
          have h0 := hn
          have h1 := h1.kept (n := 75) z26 rfl (by omega)
          have hs := hs.step z26 (by omega) (by omega)
          refine aw_b (pc' := 221) (lv' := [(0, .ref a), (1, .int i0), (2, .int i1), (3, .int i2), (4, .long j4), (6, .int j6), (7, .int j7), (8, .int j8), (9, .int j9), (12, .int j12), (13, .int j13), (14, .int j14)]) (st' := [.int (3 : Int32), .int (0 : Int32), .ref a]) [(217, .pop, 1, .null), (218, .aload_n 0, 1, .null), (219, .iconst 0, 1, .int (0 : Int32)), (220, .iconst 3, 1, .int (3 : Int32))] (by decide +kernel) rfl ?_
          obtain ⟨r27, e28, hm⟩ := bn_x hm
          refine aw_cv (rest := []) (st1 := [.int r27]) a 0 (kX7_arm e28 h0) rfl rfl ckX7_arm lkL_141 h0 eo_M_0 ⟨_, _, rfl⟩ nkX7_arm rfl rfl rfl (Nat.le_of_ble_eq_true rfl) (Nat.le_of_ble_eq_true rfl) (Nat.le_of_ble_eq_true rfl) (by decide +kernel) (fun H29 z30 => ?_)
          have h0 := h0.kept0 z30
          have h1 := h1.kept0 z30
          have hs := hs.step0 z30
          refine aw_b (pc' := 228) (lv' := [(16, .int r27), (0, .ref a), (1, .int i0), (2, .int i1), (3, .int i2), (4, .long j4), (6, .int j6), (7, .int j7), (8, .int j8), (9, .int j9), (12, .int j12), (13, .int j13), (14, .int j14)]) (st' := [.int i1, .ref a]) [(224, .istore 16, 2, .null), (226, .aload_n 0, 1, .null), (227, .iload_n 2, 1, .null)] (by decide +kernel) rfl ?_
          obtain ⟨r31, e32, hm⟩ := bn_x hm
          refine aw_cv (rest := []) (st1 := [.int r31.2]) a 0 (kX7_run e32 h0 hf) rfl rfl ckX7_run lkL_133 h0 eo_M_0 ⟨_, _, rfl⟩ nkX7_run rfl rfl rfl (Nat.le_of_ble_eq_true rfl) (Nat.le_of_ble_eq_true rfl) (Nat.le_of_ble_eq_true rfl) (by decide +kernel) (fun H33 z34 => ?_)
          obtain ⟨z34, hn⟩ := z34
          have h0 := hn
          have h1 := h1.kept (n := 75) z34 rfl (by omega)
          have hs := hs.step z34 (by omega) (by omega)
          refine aw_b (pc' := 234) (lv' := [(16, .int r27), (0, .ref a), (1, .int i0), (2, .int i1), (3, .int i2), (4, .long j4), (6, .int j6), (7, .int j7), (8, .int j8), (9, .int j9), (12, .int j12), (13, .int j13), (14, .int j14)]) (st' := [.int (0 : Int32), .ref a]) [(231, .pop, 1, .null), (232, .aload_n 0, 1, .null), (233, .iconst 0, 1, .int (0 : Int32))] (by decide +kernel) rfl ?_
          obtain ⟨r35, e36, hm⟩ := bn_x hm
          refine aw_cv (rest := []) (st1 := [.int r35]) a 0 (kX7_regret e36 h0) rfl rfl ckX7_regret lkL_147 h0 eo_M_0 ⟨_, _, rfl⟩ nkX7_regret rfl rfl rfl (Nat.le_of_ble_eq_true rfl) (Nat.le_of_ble_eq_true rfl) (Nat.le_of_ble_eq_true rfl) (by decide +kernel) (fun H37 z38 => ?_)
          have h0 := h0.kept0 z38
          have h1 := h1.kept0 z38
          have hs := hs.step0 z38
          refine aw_b (pc' := 239) (lv' := [(16, .int r27), (0, .ref a), (1, .int i0), (2, .int i1), (3, .int i2), (4, .long j4), (6, .int j6), (7, .int j7), (8, .int j8), (9, .int j9), (12, .int j12), (13, .int j13), (14, .int j14)]) (st' := [.int j6, .int r35]) [(237, .iload 6, 2, .null)] (by decide +kernel) rfl ?_
          refine aw_ic_ne (off := 41) 280 (by decide) (by decide +kernel) (fun hc => ?_) (fun hc => ?_)
          · have hm := (if_neg hc).symm.trans hm
            refine aw_b (pc' := 281) (lv' := [(16, .int r27), (0, .ref a), (1, .int i0), (2, .int i1), (3, .int i2), (4, .long j4), (6, .int j6), (7, .int j7), (8, .int j8), (9, .int j9), (12, .int j12), (13, .int j13), (14, .int j14)]) (st' := [.int (0 : Int32)]) [(280, .iconst 0, 1, .int (0 : Int32))] (by decide +kernel) rfl ?_
            obtain rfl := Option.some.inj hm
            subst hQ
            exact aw_zret rfl (by decide +kernel) (Nat.le_of_ble_eq_true rfl) (Nat.le_of_ble_eq_true rfl) (by decide +kernel) ⟨rfl, hs, h0⟩
          · have hm := (if_pos hc).symm.trans hm
            refine aw_b (pc' := 245) (lv' := [(16, .int r27), (0, .ref a), (1, .int i0), (2, .int i1), (3, .int i2), (4, .long j4), (6, .int j6), (7, .int j7), (8, .int j8), (9, .int j9), (12, .int j12), (13, .int j13), (14, .int j14)]) (st' := [.int (3 : Int32), .int (0 : Int32), .ref a]) [(242, .aload_n 0, 1, .null), (243, .iconst 0, 1, .int (0 : Int32)), (244, .iconst 3, 1, .int (3 : Int32))] (by decide +kernel) rfl ?_
            obtain ⟨r39, e40, hm⟩ := bn_x hm
            refine aw_cv (rest := []) (st1 := [.int r39]) a 0 (kX7_arm e40 h0) rfl rfl ckX7_arm lkL_141 h0 eo_M_0 ⟨_, _, rfl⟩ nkX7_arm rfl rfl rfl (Nat.le_of_ble_eq_true rfl) (Nat.le_of_ble_eq_true rfl) (Nat.le_of_ble_eq_true rfl) (by decide +kernel) (fun H41 z42 => ?_)
            have h0 := h0.kept0 z42
            have h1 := h1.kept0 z42
            have hs := hs.step0 z42
            refine aw_b (pc' := 253) (lv' := [(16, .int r27), (0, .ref a), (1, .int i0), (2, .int i1), (3, .int i2), (4, .long j4), (6, .int j6), (7, .int j7), (8, .int j8), (9, .int j9), (12, .int j12), (13, .int j13), (14, .int j14)]) (st' := [.int j7, .int (r39 - r27)]) [(248, .iload 16, 2, .null), (250, .isub, 1, .null), (251, .iload 7, 2, .null)] (by decide +kernel) rfl ?_
            refine aw_ic_ne (off := 27) 280 (by decide) (by decide +kernel) (fun hc => ?_) (fun hc => ?_)
            · have hm := (if_neg hc).symm.trans hm
              refine aw_b (pc' := 281) (lv' := [(16, .int r27), (0, .ref a), (1, .int i0), (2, .int i1), (3, .int i2), (4, .long j4), (6, .int j6), (7, .int j7), (8, .int j8), (9, .int j9), (12, .int j12), (13, .int j13), (14, .int j14)]) (st' := [.int (0 : Int32)]) [(280, .iconst 0, 1, .int (0 : Int32))] (by decide +kernel) rfl ?_
              obtain rfl := Option.some.inj hm
              subst hQ
              exact aw_zret rfl (by decide +kernel) (Nat.le_of_ble_eq_true rfl) (Nat.le_of_ble_eq_true rfl) (by decide +kernel) ⟨rfl, hs, h0⟩
            · have hm := (if_pos hc).symm.trans hm
              refine aw_b (pc' := 258) (lv' := [(16, .int r27), (0, .ref a), (1, .int i0), (2, .int i1), (3, .int i2), (4, .long j4), (6, .int j6), (7, .int j7), (8, .int j8), (9, .int j9), (12, .int j12), (13, .int j13), (14, .int j14)]) (st' := [.int j14]) [(256, .iload 14, 2, .null)] (by decide +kernel) rfl ?_
              refine aw_ldc (v := (-2000000000 : Int32)) kwL_164 (by decide +kernel) ?_
              have J282 : ∀ (H_j282 : Heap), has_ E H_j282 a ly_M r31.1 → has_ E H_j282 b ly_G t → sm_ H H_j282 a 119 → fL_foresees_j282 t i0 i1 i2 j4 j8 j9 j12 j13 r31 = some r → aw E mL_foresees Q 282 [(0, .ref a), (1, .int i0), (2, .int i1), (3, .int i2), (4, .long j4), (8, .int j8), (9, .int j9), (12, .int j12), (13, .int j13)] [] H_j282 75 8899 := by
                intro H_j282 h0 h1 hs hm
                unfold fL_foresees_j282 at hm
                refine aw_b (pc' := 284) (lv' := [(0, .ref a), (1, .int i0), (2, .int i1), (3, .int i2), (4, .long j4), (8, .int j8), (9, .int j9), (12, .int j12), (13, .int j13)]) (st' := [.int (0 : Int32), .ref a]) [(282, .aload_n 0, 1, .null), (283, .iconst 0, 1, .int (0 : Int32))] (by decide +kernel) rfl ?_
                obtain ⟨r43, e44, hm⟩ := bn_x hm
                obtain ⟨s45, e46, hm⟩ := bd_x hm
                refine aw_cvu (rest := []) (st1 := [.int (r43 1 9)]) (kS7_rest e44 hf h0 (at_same hsn (hs.2 _ (at_lt hsn) (Or.inr (Nat.le_refl _)))) rfl hd h1) rfl rfl ckS7_rest lkL_259 (h0 0 _ eo_M_0) ⟨_, _, rfl⟩ nkS7_rest rfl rfl rfl rfl rfl (Nat.le_of_ble_eq_true rfl) (Nat.le_of_ble_eq_true rfl) (Nat.le_of_ble_eq_true rfl) (by decide +kernel) (fun H47 _ z48 => ?_)
                obtain ⟨z48, hn⟩ := z48
                rw [← e46] at hn
                have h0 := hn
                have h1 := h1.kept (n := 75) z48 rfl (by omega)
                have hs := hs.step z48 (by omega) (by omega)
                refine aw_b (pc' := 293) (lv' := [(0, .ref a), (1, .int i0), (2, .int i1), (3, .int i2), (4, .long j4), (8, .int j8), (9, .int j9), (12, .int j12), (13, .int j13)]) (st' := [.int (i0 - (1 : Int32)), .int (2 : Int32), .ref a]) [(287, .pop, 1, .null), (288, .aload_n 0, 1, .null), (289, .iconst 2, 1, .int (2 : Int32)), (290, .iload_n 1, 1, .null), (291, .iconst 1, 1, .int (1 : Int32)), (292, .isub, 1, .null)] (by decide +kernel) rfl ?_
                obtain ⟨r49, e50, hm⟩ := bn_x hm
                refine aw_cv (rest := []) (st1 := [.int r49.2]) a 0 (kX7_setMaster e50 h0 hf) rfl rfl ckX7_setMaster lkL_120 h0 eo_M_0 ⟨_, _, rfl⟩ nkX7_setMaster rfl rfl rfl (Nat.le_of_ble_eq_true rfl) (Nat.le_of_ble_eq_true rfl) (Nat.le_of_ble_eq_true rfl) (by decide +kernel) (fun H51 z52 => ?_)
                obtain ⟨z52, hn⟩ := z52
                have h0 := hn
                have h1 := h1.kept (n := 75) z52 rfl (by omega)
                have hs := hs.step z52 (by omega) (by omega)
                refine aw_b (pc' := 299) (lv' := [(0, .ref a), (1, .int i0), (2, .int i1), (3, .int i2), (4, .long j4), (8, .int j8), (9, .int j9), (12, .int j12), (13, .int j13)]) (st' := [.int i1, .ref a]) [(296, .pop, 1, .null), (297, .aload_n 0, 1, .null), (298, .iload_n 2, 1, .null)] (by decide +kernel) rfl ?_
                obtain ⟨r53, e54, hm⟩ := bn_x hm
                refine aw_cv (rest := []) (st1 := [.int r53.2]) a 0 (kX7_run e54 h0 hf) rfl rfl ckX7_run lkL_133 h0 eo_M_0 ⟨_, _, rfl⟩ nkX7_run rfl rfl rfl (Nat.le_of_ble_eq_true rfl) (Nat.le_of_ble_eq_true rfl) (Nat.le_of_ble_eq_true rfl) (by decide +kernel) (fun H55 z56 => ?_)
                obtain ⟨z56, hn⟩ := z56
                have h0 := hn
                have h1 := h1.kept (n := 75) z56 rfl (by omega)
                have hs := hs.step z56 (by omega) (by omega)
                refine aw_b (pc' := 305) (lv' := [(0, .ref a), (1, .int i0), (2, .int i1), (3, .int i2), (4, .long j4), (8, .int j8), (9, .int j9), (12, .int j12), (13, .int j13)]) (st' := [.int (0 : Int32), .ref a]) [(302, .pop, 1, .null), (303, .aload_n 0, 1, .null), (304, .iconst 0, 1, .int (0 : Int32))] (by decide +kernel) rfl ?_
                obtain ⟨r57, e58, hm⟩ := bn_x hm
                refine aw_cv (rest := []) (st1 := [.int r57]) a 0 (kX7_regret e58 h0) rfl rfl ckX7_regret lkL_147 h0 eo_M_0 ⟨_, _, rfl⟩ nkX7_regret rfl rfl rfl (Nat.le_of_ble_eq_true rfl) (Nat.le_of_ble_eq_true rfl) (Nat.le_of_ble_eq_true rfl) (by decide +kernel) (fun H59 z60 => ?_)
                have h0 := h0.kept0 z60
                have h1 := h1.kept0 z60
                have hs := hs.step0 z60
                refine aw_b (pc' := 310) (lv' := [(0, .ref a), (1, .int i0), (2, .int i1), (3, .int i2), (4, .long j4), (8, .int j8), (9, .int j9), (12, .int j12), (13, .int j13)]) (st' := [.int j8, .int r57]) [(308, .iload 8, 2, .null)] (by decide +kernel) rfl ?_
                refine aw_ic_eq (off := 5) 315 (by decide) (by decide +kernel) (fun hc => ?_) (fun hc => ?_)
                · have hm := (if_pos hc).symm.trans hm
                  refine aw_b (pc' := 317) (lv' := [(0, .ref a), (1, .int i0), (2, .int i1), (3, .int i2), (4, .long j4), (8, .int j8), (9, .int j9), (12, .int j12), (13, .int j13)]) (st' := [.int (0 : Int32), .ref a]) [(315, .aload_n 0, 1, .null), (316, .iconst 0, 1, .int (0 : Int32))] (by decide +kernel) rfl ?_
                  obtain ⟨r61, e62, hm⟩ := bn_x hm
                  obtain ⟨s63, e64, hm⟩ := bd_x hm
                  refine aw_cvu (rest := []) (st1 := [.int (r61 1 9)]) (kS7_rest e62 hf h0 (at_same hsn (hs.2 _ (at_lt hsn) (Or.inr (Nat.le_refl _)))) rfl hd h1) rfl rfl ckS7_rest lkL_259 (h0 0 _ eo_M_0) ⟨_, _, rfl⟩ nkS7_rest rfl rfl rfl rfl rfl (Nat.le_of_ble_eq_true rfl) (Nat.le_of_ble_eq_true rfl) (Nat.le_of_ble_eq_true rfl) (by decide +kernel) (fun H65 _ z66 => ?_)
                  obtain ⟨z66, hn⟩ := z66
                  rw [← e64] at hn
                  have h0 := hn
                  have h1 := h1.kept (n := 75) z66 rfl (by omega)
                  have hs := hs.step z66 (by omega) (by omega)
                  refine aw_b (pc' := 323) (lv' := [(0, .ref a), (1, .int i0), (2, .int i1), (3, .int i2), (4, .long j4), (8, .int j8), (9, .int j9), (12, .int j12), (13, .int j13)]) (st' := [.int (2 : Int32), .ref a]) [(320, .pop, 1, .null), (321, .aload_n 0, 1, .null), (322, .iconst 2, 1, .int (2 : Int32))] (by decide +kernel) rfl ?_
                  obtain ⟨r67, e68, hm⟩ := bn_x hm
                  refine aw_cv (rest := []) (st1 := [.int r67.2]) a 0 (kX7_setFoe e68 h0 hf) rfl rfl ckX7_setFoe lkL_117 h0 eo_M_0 ⟨_, _, rfl⟩ nkX7_setFoe rfl rfl rfl (Nat.le_of_ble_eq_true rfl) (Nat.le_of_ble_eq_true rfl) (Nat.le_of_ble_eq_true rfl) (by decide +kernel) (fun H69 z70 => ?_)
                  obtain ⟨z70, hn⟩ := z70
                  have h0 := hn
                  have h1 := h1.kept (n := 75) z70 rfl (by omega)
                  have hs := hs.step z70 (by omega) (by omega)
                  refine aw_b (pc' := 329) (lv' := [(0, .ref a), (1, .int i0), (2, .int i1), (3, .int i2), (4, .long j4), (8, .int j8), (9, .int j9), (12, .int j12), (13, .int j13)]) (st' := [.int i1, .ref a]) [(326, .pop, 1, .null), (327, .aload_n 0, 1, .null), (328, .iload_n 2, 1, .null)] (by decide +kernel) rfl ?_
                  obtain ⟨r71, e72, hm⟩ := bn_x hm
                  refine aw_cv (rest := []) (st1 := [.int r71.2]) a 0 (kX7_run e72 h0 hf) rfl rfl ckX7_run lkL_133 h0 eo_M_0 ⟨_, _, rfl⟩ nkX7_run rfl rfl rfl (Nat.le_of_ble_eq_true rfl) (Nat.le_of_ble_eq_true rfl) (Nat.le_of_ble_eq_true rfl) (by decide +kernel) (fun H73 z74 => ?_)
                  obtain ⟨z74, hn⟩ := z74
                  have h0 := hn
                  have h1 := h1.kept (n := 75) z74 rfl (by omega)
                  have hs := hs.step z74 (by omega) (by omega)
                  refine aw_b (pc' := 335) (lv' := [(0, .ref a), (1, .int i0), (2, .int i1), (3, .int i2), (4, .long j4), (8, .int j8), (9, .int j9), (12, .int j12), (13, .int j13)]) (st' := [.int (0 : Int32), .ref a]) [(332, .pop, 1, .null), (333, .aload_n 0, 1, .null), (334, .iconst 0, 1, .int (0 : Int32))] (by decide +kernel) rfl ?_
                  obtain ⟨r75, e76, hm⟩ := bn_x hm
                  refine aw_cv (rest := []) (st1 := [.int r75]) a 0 (kX7_regret e76 h0) rfl rfl ckX7_regret lkL_147 h0 eo_M_0 ⟨_, _, rfl⟩ nkX7_regret rfl rfl rfl (Nat.le_of_ble_eq_true rfl) (Nat.le_of_ble_eq_true rfl) (Nat.le_of_ble_eq_true rfl) (by decide +kernel) (fun H77 z78 => ?_)
                  have h0 := h0.kept0 z78
                  have h1 := h1.kept0 z78
                  have hs := hs.step0 z78
                  refine aw_b (pc' := 340) (lv' := [(0, .ref a), (1, .int i0), (2, .int i1), (3, .int i2), (4, .long j4), (8, .int j8), (9, .int j9), (12, .int j12), (13, .int j13)]) (st' := [.int j9, .int r75]) [(338, .iload 9, 2, .null)] (by decide +kernel) rfl ?_
                  refine aw_ic_eq (off := 5) 345 (by decide) (by decide +kernel) (fun hc => ?_) (fun hc => ?_)
                  · have hm := (if_pos hc).symm.trans hm
                    refine aw_b (pc' := 347) (lv' := [(0, .ref a), (1, .int i0), (2, .int i1), (3, .int i2), (4, .long j4), (8, .int j8), (9, .int j9), (12, .int j12), (13, .int j13)]) (st' := [.int (0 : Int32), .ref a]) [(345, .aload_n 0, 1, .null), (346, .iconst 0, 1, .int (0 : Int32))] (by decide +kernel) rfl ?_
                    obtain ⟨r79, e80, hm⟩ := bn_x hm
                    obtain ⟨s81, e82, hm⟩ := bd_x hm
                    refine aw_cvu (rest := []) (st1 := [.int (r79 1 9)]) (kS7_rest e80 hf h0 (at_same hsn (hs.2 _ (at_lt hsn) (Or.inr (Nat.le_refl _)))) rfl hd h1) rfl rfl ckS7_rest lkL_259 (h0 0 _ eo_M_0) ⟨_, _, rfl⟩ nkS7_rest rfl rfl rfl rfl rfl (Nat.le_of_ble_eq_true rfl) (Nat.le_of_ble_eq_true rfl) (Nat.le_of_ble_eq_true rfl) (by decide +kernel) (fun H83 _ z84 => ?_)
                    obtain ⟨z84, hn⟩ := z84
                    rw [← e82] at hn
                    have h0 := hn
                    have h1 := h1.kept (n := 75) z84 rfl (by omega)
                    have hs := hs.step z84 (by omega) (by omega)
                    refine aw_b (pc' := 353) (lv' := [(0, .ref a), (1, .int i0), (2, .int i1), (3, .int i2), (4, .long j4), (8, .int j8), (9, .int j9), (12, .int j12), (13, .int j13)]) (st' := [.int j13]) [(350, .pop, 1, .null), (351, .iload 13, 2, .null)] (by decide +kernel) rfl ?_
                    have J392 : ∀ (s_j392 : st_) (H_j392 : Heap), has_ E H_j392 a ly_M s_j392 → has_ E H_j392 b ly_G t → sm_ H H_j392 a 119 → fL_foresees_j392 i0 j4 s_j392 = some r → aw E mL_foresees Q 392 [(0, .ref a), (1, .int i0), (4, .long j4)] [] H_j392 75 8899 := by
                      intro s_j392 H_j392 h0 h1 hs hm
                      unfold fL_foresees_j392 at hm
                      refine aw_b (pc' := 394) (lv' := [(0, .ref a), (1, .int i0), (4, .long j4)]) (st' := [.int i0, .ref a]) [(392, .aload_n 0, 1, .null), (393, .iload_n 1, 1, .null)] (by decide +kernel) rfl ?_
                      obtain ⟨r85, e86, hm⟩ := bn_x hm
                      refine aw_cs (rest := []) (st1 := [.long r85]) (kL_whole e86 h0) rfl rfl ckL_whole lkL_222 nkL_whole rfl rfl rfl (Nat.le_of_ble_eq_true rfl) (Nat.le_of_ble_eq_true rfl) (Nat.le_of_ble_eq_true rfl) (by decide +kernel) (fun H87 z88 => ?_)
                      have h0 := h0.kept0 z88
                      have h1 := h1.kept0 z88
                      have hs := hs.step0 z88
                      refine aw_b (pc' := 400) (lv' := [(0, .ref a), (1, .int i0), (4, .long j4)]) (st' := [.int (lg_cmp r85 j4)]) [(397, .lload 4, 2, .null), (399, .lcmp, 1, .null)] (by decide +kernel) rfl ?_
                      refine aw_if_ne (off := 7) 407 (by decide) (by decide +kernel) (fun hc => ?_) (fun hc => ?_)
                      · have hm := (if_neg hc).symm.trans hm
                        refine aw_b (pc' := 408) (lv' := [(0, .ref a), (1, .int i0), (4, .long j4)]) (st' := [.int (0 : Int32)]) [(407, .iconst 0, 1, .int (0 : Int32))] (by decide +kernel) rfl ?_
                        obtain rfl := Option.some.inj hm
                        subst hQ
                        exact aw_zret rfl (by decide +kernel) (Nat.le_of_ble_eq_true rfl) (Nat.le_of_ble_eq_true rfl) (by decide +kernel) ⟨rfl, hs, h0⟩
                      · have hm := (if_pos hc).symm.trans hm
                        refine aw_b (pc' := 408) (lv' := [(0, .ref a), (1, .int i0), (4, .long j4)]) (st' := [.int (1 : Int32)]) [(403, .iconst 1, 1, .int (1 : Int32)), (404, .goto 4, 3, .null)] (by decide +kernel) rfl ?_
                        obtain rfl := Option.some.inj hm
                        subst hQ
                        exact aw_zret rfl (by decide +kernel) (Nat.le_of_ble_eq_true rfl) (Nat.le_of_ble_eq_true rfl) (by decide +kernel) ⟨rfl, hs, h0⟩
                    refine aw_if_lt (off := 39) 392 (by decide) (by decide +kernel) (fun hc => ?_) (fun hc => ?_)
                    · have hm := (if_pos hc).symm.trans hm
                      refine aw_lv (lv' := [(0, .ref a), (1, .int i0), (4, .long j4)]) [0, 1, 4] rfl ?_
                      exact J392 s81 H83 h0 h1 hs hm
                    · have hm := (if_neg hc).symm.trans hm
                      refine aw_b (pc' := 358) (lv' := [(0, .ref a), (1, .int i0), (2, .int i1), (3, .int i2), (4, .long j4), (8, .int j8), (9, .int j9), (12, .int j12), (13, .int j13)]) (st' := [.int (0 : Int32), .ref a]) [(356, .aload_n 0, 1, .null), (357, .iconst 0, 1, .int (0 : Int32))] (by decide +kernel) rfl ?_
                      obtain ⟨r89, e90, hm⟩ := bn_x hm
                      refine aw_cv (rest := []) (st1 := [.int r89.2]) a 0 (kX7_setFoe e90 h0 hf) rfl rfl ckX7_setFoe lkL_117 h0 eo_M_0 ⟨_, _, rfl⟩ nkX7_setFoe rfl rfl rfl (Nat.le_of_ble_eq_true rfl) (Nat.le_of_ble_eq_true rfl) (Nat.le_of_ble_eq_true rfl) (by decide +kernel) (fun H91 z92 => ?_)
                      obtain ⟨z92, hn⟩ := z92
                      have h0 := hn
                      have h1 := h1.kept (n := 75) z92 rfl (by omega)
                      have hs := hs.step z92 (by omega) (by omega)
                      refine aw_b (pc' := 364) (lv' := [(0, .ref a), (1, .int i0), (2, .int i1), (3, .int i2), (4, .long j4), (8, .int j8), (9, .int j9), (12, .int j12), (13, .int j13)]) (st' := [.int i2, .ref a]) [(361, .pop, 1, .null), (362, .aload_n 0, 1, .null), (363, .iload_n 3, 1, .null)] (by decide +kernel) rfl ?_
                      obtain ⟨r93, e94, hm⟩ := bn_x hm
                      refine aw_cv (rest := []) (st1 := [.int r93.2]) a 0 (kX7_request e94 h0 hf) rfl rfl ckX7_request lkL_114 h0 eo_M_0 ⟨_, _, rfl⟩ nkX7_request rfl rfl rfl (Nat.le_of_ble_eq_true rfl) (Nat.le_of_ble_eq_true rfl) (Nat.le_of_ble_eq_true rfl) (by decide +kernel) (fun H95 z96 => ?_)
                      obtain ⟨z96, hn⟩ := z96
                      have h0 := hn
                      have h1 := h1.kept (n := 75) z96 rfl (by omega)
                      have hs := hs.step z96 (by omega) (by omega)
                      refine aw_b (pc' := 370) (lv' := [(0, .ref a), (1, .int i0), (2, .int i1), (3, .int i2), (4, .long j4), (8, .int j8), (9, .int j9), (12, .int j12), (13, .int j13)]) (st' := [.int (1 : Int32), .ref a]) [(367, .pop, 1, .null), (368, .aload_n 0, 1, .null), (369, .iconst 1, 1, .int (1 : Int32))] (by decide +kernel) rfl ?_
                      obtain ⟨r97, e98, hm⟩ := bn_x hm
                      refine aw_cv (rest := []) (st1 := [.int r97.2]) a 0 (kX7_run e98 h0 hf) rfl rfl ckX7_run lkL_133 h0 eo_M_0 ⟨_, _, rfl⟩ nkX7_run rfl rfl rfl (Nat.le_of_ble_eq_true rfl) (Nat.le_of_ble_eq_true rfl) (Nat.le_of_ble_eq_true rfl) (by decide +kernel) (fun H99 z100 => ?_)
                      obtain ⟨z100, hn⟩ := z100
                      have h0 := hn
                      have h1 := h1.kept (n := 75) z100 rfl (by omega)
                      have hs := hs.step z100 (by omega) (by omega)
                      refine aw_b (pc' := 376) (lv' := [(0, .ref a), (1, .int i0), (2, .int i1), (3, .int i2), (4, .long j4), (8, .int j8), (9, .int j9), (12, .int j12), (13, .int j13)]) (st' := [.int (0 : Int32), .ref a]) [(373, .pop, 1, .null), (374, .aload_n 0, 1, .null), (375, .iconst 0, 1, .int (0 : Int32))] (by decide +kernel) rfl ?_
                      obtain ⟨r101, e102, hm⟩ := bn_x hm
                      refine aw_cv (rest := []) (st1 := [.int r101]) a 0 (kX7_regret e102 h0) rfl rfl ckX7_regret lkL_147 h0 eo_M_0 ⟨_, _, rfl⟩ nkX7_regret rfl rfl rfl (Nat.le_of_ble_eq_true rfl) (Nat.le_of_ble_eq_true rfl) (Nat.le_of_ble_eq_true rfl) (by decide +kernel) (fun H103 z104 => ?_)
                      have h0 := h0.kept0 z104
                      have h1 := h1.kept0 z104
                      have hs := hs.step0 z104
                      refine aw_b (pc' := 381) (lv' := [(0, .ref a), (1, .int i0), (2, .int i1), (3, .int i2), (4, .long j4), (8, .int j8), (9, .int j9), (12, .int j12), (13, .int j13)]) (st' := [.int j12, .int r101]) [(379, .iload 12, 2, .null)] (by decide +kernel) rfl ?_
                      refine aw_ic_eq (off := 5) 386 (by decide) (by decide +kernel) (fun hc => ?_) (fun hc => ?_)
                      · have hm := (if_pos hc).symm.trans hm
                        refine aw_b (pc' := 388) (lv' := [(0, .ref a), (1, .int i0), (2, .int i1), (3, .int i2), (4, .long j4), (8, .int j8), (9, .int j9), (12, .int j12), (13, .int j13)]) (st' := [.int (0 : Int32), .ref a]) [(386, .aload_n 0, 1, .null), (387, .iconst 0, 1, .int (0 : Int32))] (by decide +kernel) rfl ?_
                        obtain ⟨r105, e106, hm⟩ := bn_x hm
                        obtain ⟨s107, e108, hm⟩ := bd_x hm
                        refine aw_cvu (rest := []) (st1 := [.int (r105 1 9)]) (kS7_rest e106 hf h0 (at_same hsn (hs.2 _ (at_lt hsn) (Or.inr (Nat.le_refl _)))) rfl hd h1) rfl rfl ckS7_rest lkL_259 (h0 0 _ eo_M_0) ⟨_, _, rfl⟩ nkS7_rest rfl rfl rfl rfl rfl (Nat.le_of_ble_eq_true rfl) (Nat.le_of_ble_eq_true rfl) (Nat.le_of_ble_eq_true rfl) (by decide +kernel) (fun H109 _ z110 => ?_)
                        obtain ⟨z110, hn⟩ := z110
                        rw [← e108] at hn
                        have h0 := hn
                        have h1 := h1.kept (n := 75) z110 rfl (by omega)
                        have hs := hs.step z110 (by omega) (by omega)
                        refine aw_b (pc' := 392) (lv' := [(0, .ref a), (1, .int i0), (2, .int i1), (3, .int i2), (4, .long j4), (8, .int j8), (9, .int j9), (12, .int j12), (13, .int j13)]) (st' := []) [(391, .pop, 1, .null)] (by decide +kernel) rfl ?_
                        refine aw_lv (lv' := [(0, .ref a), (1, .int i0), (4, .long j4)]) [0, 1, 4] rfl ?_
                        exact J392 s107 H109 h0 h1 hs hm
                      · have hm := (if_neg hc).symm.trans hm
                        refine aw_b (pc' := 385) (lv' := [(0, .ref a), (1, .int i0), (2, .int i1), (3, .int i2), (4, .long j4), (8, .int j8), (9, .int j9), (12, .int j12), (13, .int j13)]) (st' := [.int (0 : Int32)]) [(384, .iconst 0, 1, .int (0 : Int32))] (by decide +kernel) rfl ?_
                        obtain rfl := Option.some.inj hm
                        subst hQ
                        exact aw_zret rfl (by decide +kernel) (Nat.le_of_ble_eq_true rfl) (Nat.le_of_ble_eq_true rfl) (by decide +kernel) ⟨rfl, hs, h0⟩
                  · have hm := (if_neg hc).symm.trans hm
                    refine aw_b (pc' := 344) (lv' := [(0, .ref a), (1, .int i0), (2, .int i1), (3, .int i2), (4, .long j4), (8, .int j8), (9, .int j9), (12, .int j12), (13, .int j13)]) (st' := [.int (0 : Int32)]) [(343, .iconst 0, 1, .int (0 : Int32))] (by decide +kernel) rfl ?_
                    obtain rfl := Option.some.inj hm
                    subst hQ
                    exact aw_zret rfl (by decide +kernel) (Nat.le_of_ble_eq_true rfl) (Nat.le_of_ble_eq_true rfl) (by decide +kernel) ⟨rfl, hs, h0⟩
                · have hm := (if_neg hc).symm.trans hm
                  refine aw_b (pc' := 314) (lv' := [(0, .ref a), (1, .int i0), (2, .int i1), (3, .int i2), (4, .long j4), (8, .int j8), (9, .int j9), (12, .int j12), (13, .int j13)]) (st' := [.int (0 : Int32)]) [(313, .iconst 0, 1, .int (0 : Int32))] (by decide +kernel) rfl ?_
                  obtain rfl := Option.some.inj hm
                  subst hQ
                  exact aw_zret rfl (by decide +kernel) (Nat.le_of_ble_eq_true rfl) (Nat.le_of_ble_eq_true rfl) (by decide +kernel) ⟨rfl, hs, h0⟩
              refine aw_ic_eq (off := 22) 282 (by decide) (by decide +kernel) (fun hc => ?_) (fun hc => ?_)
              · have hm := (if_pos hc).symm.trans hm
                refine aw_lv (lv' := [(0, .ref a), (1, .int i0), (2, .int i1), (3, .int i2), (4, .long j4), (8, .int j8), (9, .int j9), (12, .int j12), (13, .int j13)]) [1, 2, 3, 4, 5, 8, 9, 10, 11] rfl ?_
                exact J282 H41 h0 h1 hs hm
              · have hm := (if_neg hc).symm.trans hm
                refine aw_b (pc' := 268) (lv' := [(16, .int r27), (0, .ref a), (1, .int i0), (2, .int i1), (3, .int i2), (4, .long j4), (6, .int j6), (7, .int j7), (8, .int j8), (9, .int j9), (12, .int j12), (13, .int j13), (14, .int j14)]) (st' := [.int (3 : Int32), .int (-1 : Int32), .ref a, .int j14]) [(263, .iload 14, 2, .null), (265, .aload_n 0, 1, .null), (266, .iconst (-1), 1, .int (-1 : Int32)), (267, .iconst 3, 1, .int (3 : Int32))] (by decide +kernel) rfl ?_
                obtain ⟨r111, e112, hm⟩ := bn_x hm
                refine aw_cv (rest := [.int j14]) (st1 := [.int r111, .int j14]) a 0 (kX7_arm e112 h0) rfl rfl ckX7_arm lkL_141 h0 eo_M_0 ⟨_, _, rfl⟩ nkX7_arm rfl rfl rfl (Nat.le_of_ble_eq_true rfl) (Nat.le_of_ble_eq_true rfl) (Nat.le_of_ble_eq_true rfl) (by decide +kernel) (fun H113 z114 => ?_)
                have h0 := h0.kept0 z114
                have h1 := h1.kept0 z114
                have hs := hs.step0 z114
                refine aw_b (pc' := 273) (lv' := [(16, .int r27), (0, .ref a), (1, .int i0), (2, .int i1), (3, .int i2), (4, .long j4), (6, .int j6), (7, .int j7), (8, .int j8), (9, .int j9), (12, .int j12), (13, .int j13), (14, .int j14)]) (st' := [.int (2 : Int32), .ref a, .int r111, .int j14]) [(271, .aload_n 0, 1, .null), (272, .iconst 2, 1, .int (2 : Int32))] (by decide +kernel) rfl ?_
                obtain ⟨r115, e116, hm⟩ := bn_x hm
                refine aw_cv (rest := [.int r111, .int j14]) (st1 := [.int r115, .int r111, .int j14]) a 0 (kX7_rival e116 h0) rfl rfl ckX7_rival lkL_150 h0 eo_M_0 ⟨_, _, rfl⟩ nkX7_rival rfl rfl rfl (Nat.le_of_ble_eq_true rfl) (Nat.le_of_ble_eq_true rfl) (Nat.le_of_ble_eq_true rfl) (by decide +kernel) (fun H117 z118 => ?_)
                have h0 := h0.kept0 z118
                have h1 := h1.kept0 z118
                have hs := hs.step0 z118
                refine aw_b (pc' := 277) (lv' := [(16, .int r27), (0, .ref a), (1, .int i0), (2, .int i1), (3, .int i2), (4, .long j4), (6, .int j6), (7, .int j7), (8, .int j8), (9, .int j9), (12, .int j12), (13, .int j13), (14, .int j14)]) (st' := [.int (r111 - r115), .int j14]) [(276, .isub, 1, .null)] (by decide +kernel) rfl ?_
                refine aw_ic_eq (off := 5) 282 (by decide) (by decide +kernel) (fun hc => ?_) (fun hc => ?_)
                · have hm := (if_pos hc).symm.trans hm
                  refine aw_lv (lv' := [(0, .ref a), (1, .int i0), (2, .int i1), (3, .int i2), (4, .long j4), (8, .int j8), (9, .int j9), (12, .int j12), (13, .int j13)]) [1, 2, 3, 4, 5, 8, 9, 10, 11] rfl ?_
                  exact J282 H117 h0 h1 hs hm
                · have hm := (if_neg hc).symm.trans hm
                  refine aw_b (pc' := 281) (lv' := [(16, .int r27), (0, .ref a), (1, .int i0), (2, .int i1), (3, .int i2), (4, .long j4), (6, .int j6), (7, .int j7), (8, .int j8), (9, .int j9), (12, .int j12), (13, .int j13), (14, .int j14)]) (st' := [.int (0 : Int32)]) [(280, .iconst 0, 1, .int (0 : Int32))] (by decide +kernel) rfl ?_
                  obtain rfl := Option.some.inj hm
                  subst hQ
                  exact aw_zret rfl (by decide +kernel) (Nat.le_of_ble_eq_true rfl) (Nat.le_of_ble_eq_true rfl) (by decide +kernel) ⟨rfl, hs, h0⟩
        · have hm := (if_neg hc).symm.trans hm
          refine aw_b (pc' := 211) (lv' := [(0, .ref a), (1, .int i0), (2, .int i1), (3, .int i2), (4, .long j4), (6, .int j6), (7, .int j7), (8, .int j8), (9, .int j9), (12, .int j12), (13, .int j13), (14, .int j14)]) (st' := [.int (0 : Int32)]) [(210, .iconst 0, 1, .int (0 : Int32))] (by decide +kernel) rfl ?_
          obtain rfl := Option.some.inj hm
          subst hQ
          exact aw_zret rfl (by decide +kernel) (Nat.le_of_ble_eq_true rfl) (Nat.le_of_ble_eq_true rfl) (by decide +kernel) ⟨rfl, hs, h0⟩
      refine aw_ic_le (off := 7) 206 (by decide) (by decide +kernel) (fun hc => ?_) (fun hc => ?_)
      · have hm := (if_pos hc).symm.trans hm
        refine aw_b (pc' := 207) (lv' := [(0, .ref a), (1, .int i0), (2, .int i1), (3, .int i2), (4, .long j4), (6, .int j6), (7, .int j7), (8, .int j8), (9, .int j9), (12, .int j12), (13, .int j13), (14, .int j14)]) (st' := [.int (0 : Int32), .int z0_j189]) [(206, .iconst 0, 1, .int (0 : Int32))] (by decide +kernel) rfl ?_
        exact J207 (0 : Int32) H19 h0 h1 hs hm
      · have hm := (if_neg hc).symm.trans hm
        refine aw_b (pc' := 207) (lv' := [(0, .ref a), (1, .int i0), (2, .int i1), (3, .int i2), (4, .long j4), (6, .int j6), (7, .int j7), (8, .int j8), (9, .int j9), (12, .int j12), (13, .int j13), (14, .int j14)]) (st' := [.int (1 : Int32), .int z0_j189]) [(202, .iconst 1, 1, .int (1 : Int32)), (203, .goto 4, 3, .null)] (by decide +kernel) rfl ?_
        exact J207 (1 : Int32) H19 h0 h1 hs hm
    refine aw_ic_ne (off := 7) 188 (by decide) (by decide +kernel) (fun hc => ?_) (fun hc => ?_)
    · have hm := (if_neg hc).symm.trans hm
      refine aw_b (pc' := 189) (lv' := [(0, .ref a), (1, .int i0), (2, .int i1), (3, .int i2), (4, .long j4), (6, .int j6), (7, .int j7), (8, .int j8), (9, .int j9), (10, .int j10), (11, .int j11), (12, .int j12), (13, .int j13), (14, .int j14)]) (st' := [.int (0 : Int32)]) [(188, .iconst 0, 1, .int (0 : Int32))] (by decide +kernel) rfl ?_
      refine aw_lv (lv' := [(0, .ref a), (1, .int i0), (2, .int i1), (3, .int i2), (4, .long j4), (6, .int j6), (7, .int j7), (8, .int j8), (9, .int j9), (12, .int j12), (13, .int j13), (14, .int j14)]) [0, 1, 2, 3, 4, 5, 6, 7, 8, 11, 12, 13] rfl ?_
      exact J189 (0 : Int32) H11 h0 h1 hs hm
    · have hm := (if_pos hc).symm.trans hm
      refine aw_b (pc' := 189) (lv' := [(0, .ref a), (1, .int i0), (2, .int i1), (3, .int i2), (4, .long j4), (6, .int j6), (7, .int j7), (8, .int j8), (9, .int j9), (10, .int j10), (11, .int j11), (12, .int j12), (13, .int j13), (14, .int j14)]) (st' := [.int (1 : Int32)]) [(184, .iconst 1, 1, .int (1 : Int32)), (185, .goto 4, 3, .null)] (by decide +kernel) rfl ?_
      refine aw_lv (lv' := [(0, .ref a), (1, .int i0), (2, .int i1), (3, .int i2), (4, .long j4), (6, .int j6), (7, .int j7), (8, .int j8), (9, .int j9), (12, .int j12), (13, .int j13), (14, .int j14)]) [0, 1, 2, 3, 4, 5, 6, 7, 8, 11, 12, 13] rfl ?_
      exact J189 (1 : Int32) H11 h0 h1 hs hm
theorem lkL_226 : Cond.methodLink RL 226 yX7_regretIn ∈ uw_ := (uw_mem 1376 (by decide +kernel) (by decide +kernel))
theorem lkL_229 : Cond.methodLink RL 229 yX7_costIn ∈ uw_ := (uw_mem 1397 (by decide +kernel) (by decide +kernel))
theorem lkL_232 : Cond.methodLink RL 232 yX7_regretKeeping ∈ uw_ := (uw_mem 1401 (by decide +kernel) (by decide +kernel))
theorem lkL_235 : Cond.methodLink RL 235 yX7_regretAgainst ∈ uw_ := (uw_mem 1405 (by decide +kernel) (by decide +kernel))
theorem lkL_238 : Cond.methodLink RL 238 yX7_breachIn ∈ uw_ := (uw_mem 1409 (by decide +kernel) (by decide +kernel))
theorem lkL_241 : Cond.methodLink RL 241 yX7_nextRule ∈ uw_ := (uw_mem 1414 (by decide +kernel) (by decide +kernel))
theorem lkL_244 : Cond.methodLink RL 244 yX7_hurtOf ∈ uw_ := (uw_mem 1419 (by decide +kernel) (by decide +kernel))
theorem lkL_247 : Cond.methodLink RL 247 yX7_worst ∈ uw_ := (uw_mem 1424 (by decide +kernel) (by decide +kernel))
theorem lkL_250 : Cond.methodLink RL 250 yX7_rivalIn ∈ uw_ := (uw_mem 1429 (by decide +kernel) (by decide +kernel))
theorem lkL_253 : Cond.methodLink RL 253 yX7_optimum ∈ uw_ := (uw_mem 1433 (by decide +kernel) (by decide +kernel))
theorem lkL_256 : Cond.methodLink RL 256 yX7_saveSnapshot ∈ uw_ := (uw_mem 1456 (by decide +kernel) (by decide +kernel))
def fL_foreseesA_j146 (i0 : Int32) (i1 : Int32) (i2 : Int32) (r1 : Int64) (r5 : st_ × Int32) (r9 : st_ × Int32) (r13 : st_ × Int32) (r17 : st_ × Int32) (r21 : st_ × Int32) (r25 : Int32) (r29 : st_ × Int32) (r33 : st_ × Int32) (r37 : st_ × Int32) (s_j120 : st_) (z0_j130 : Int32) (z1_j146 : Int32) : Option (st_ × Int32) :=
  if z0_j130 = z1_j146 then (bn_ (fX2_copyFrom zs_ (sb_ s_j120 8)) fun g1 =>
  fL_foresees s_j120 g1 i0 i1 i2 r1 r5.2 r9.2 r13.2 r17.2 r21.2 r25 r29.2 r33.2 r37.2)
  else (some (s_j120, (0 : Int32)))
def fL_foreseesA_j130 (i0 : Int32) (i1 : Int32) (i2 : Int32) (r1 : Int64) (r5 : st_ × Int32) (r9 : st_ × Int32) (r13 : st_ × Int32) (r17 : st_ × Int32) (r21 : st_ × Int32) (r25 : Int32) (r29 : st_ × Int32) (r33 : st_ × Int32) (r37 : st_ × Int32) (s_j120 : st_) (z0_j130 : Int32) : Option (st_ × Int32) :=
  bn_ (gX7_arm s_j120 (-1 : Int32) (2 : Int32)) fun r53 =>
  if r53 = (20 : Int32) then (fL_foreseesA_j146 i0 i1 i2 r1 r5 r9 r13 r17 r21 r25 r29 r33 r37 s_j120 z0_j130 (1 : Int32))
  else (fL_foreseesA_j146 i0 i1 i2 r1 r5 r9 r13 r17 r21 r25 r29 r33 r37 s_j120 z0_j130 (0 : Int32))
def fL_foreseesA_j120 (i0 : Int32) (i1 : Int32) (i2 : Int32) (r1 : Int64) (r5 : st_ × Int32) (r9 : st_ × Int32) (r13 : st_ × Int32) (r17 : st_ × Int32) (r21 : st_ × Int32) (r25 : Int32) (r29 : st_ × Int32) (r33 : st_ × Int32) (r37 : st_ × Int32) (s_j120 : st_) : Option (st_ × Int32) :=
  if (0 : Int32) ≤ r33.2 then (fL_foreseesA_j130 i0 i1 i2 r1 r5 r9 r13 r17 r21 r25 r29 r33 r37 s_j120 (0 : Int32))
  else (fL_foreseesA_j130 i0 i1 i2 r1 r5 r9 r13 r17 r21 r25 r29 r33 r37 s_j120 (1 : Int32))
def fL_foreseesA (s : st_) (i0 : Int32) (i1 : Int32) (i2 : Int32) : Option (st_ × Int32) :=
  bn_ (fL_whole s i0) fun r1 =>
  bn_ (gX7_regretIn s i1) fun r5 =>
  bn_ (gX7_costIn r5.1 (0 : Int32) i1) fun r9 =>
  bn_ (gX7_regretKeeping r9.1 (i0 - (1 : Int32)) i1) fun r13 =>
  bn_ (gX7_regretAgainst r13.1 (2 : Int32) i1) fun r17 =>
  bn_ (gX7_breachIn r17.1) fun r21 =>
  bn_ (gX7_nextRule r21.1) fun r25 =>
  bn_ (gX7_hurtOf r21.1 i2) fun r29 =>
  bn_ (gX7_worst r29.1) fun r33 =>
  bn_ (gX7_rivalIn r33.1 i1) fun r37 =>
  bn_ (gX7_arm r37.1 (-1 : Int32) (2 : Int32)) fun r41 =>
  bn_ (gX7_optimum r37.1 (if r41 < (4 : Int32) then r41 else (4 : Int32))) fun r45 =>
  bn_ (fL_whole r45.1 i0) fun r49 =>
  if (lg_cmp r49 r1) = (0 : Int32) then (if r45.2 < (0 : Int32) then (some (r45.1, (0 : Int32)))
  else (if r33.2 < (0 : Int32) then (fL_foreseesA_j120 i0 i1 i2 r1 r5 r9 r13 r17 r21 r25 r29 r33 r37 r45.1)
  else (bn_ (gX7_hurtOf r45.1 r33.2) fun r58 =>
  if r58.2 < r29.2 then (some (r58.1, (0 : Int32)))
  else (fL_foreseesA_j120 i0 i1 i2 r1 r5 r9 r13 r17 r21 r25 r29 r33 r37 r58.1))))
  else (some (r45.1, (0 : Int32)))
set_option maxRecDepth 100000 in
theorem kL_foreseesA {E : ev_} {H : Heap} {a : Nat} {s : st_} {i0 : Int32} {i1 : Int32} {i2 : Int32} {r : st_ × Int32} (hm : fL_foreseesA s i0 i1 i2 = some r) (h0 : has_ E H a ly_M s) (hO : exo_ E) (hp : at_ E H (a + 119) (sna_ E (fun _ => none))) (hf : ev_fr E a) : sp_ E mL_foresees [.ref a, .int i0, .int i1, .int i2] H (po1 (.inl (some (.int r.2))) (fun Hn => sm_ H Hn a 120 ∧ has_ E Hn a ly_M r.1)) := by
  refine sp_of (by decide +kernel) rfl rfl ?_
  generalize hQ : po1 _ _ = Q
  have hs : sm_ H H a 119 := sm_.rfl'
  unfold fL_foreseesA at hm
  refine aw_lv (lv' := [(0, .ref a), (1, .int i0), (2, .int i1), (3, .int i2)]) [0, 1, 2, 3] rfl ?_
  refine aw_b (pc' := 2) (lv' := [(0, .ref a), (1, .int i0), (2, .int i1), (3, .int i2)]) (st' := [.int i0, .ref a]) [(0, .aload_n 0, 1, .null), (1, .iload_n 1, 1, .null)] (by decide +kernel) rfl ?_
  obtain ⟨r1, e2, hm⟩ := bn_x hm
  refine aw_cs (rest := []) (st1 := [.long r1]) (kL_whole e2 h0) rfl rfl ckL_whole lkL_222 nkL_whole rfl rfl rfl (Nat.le_of_ble_eq_true rfl) (Nat.zero_le _) (Nat.zero_le _) (by decide +kernel) (fun H3 z4 => ?_)
  have h0 := h0.kept0 z4
  have hs := hs.step0 z4
  refine aw_b (pc' := 9) (lv' := [(4, .long r1), (0, .ref a), (1, .int i0), (2, .int i1), (3, .int i2)]) (st' := [.int i1, .ref a]) [(5, .lstore 4, 2, .null), (7, .aload_n 0, 1, .null), (8, .iload_n 2, 1, .null)] (by decide +kernel) rfl ?_
  obtain ⟨r5, e6, hm⟩ := bn_x hm
  refine aw_cv (rest := []) (st1 := [.int r5.2]) a 0 (kX7_regretIn e6 h0 hf) rfl rfl ckX7_regretIn lkL_226 h0 eo_M_0 ⟨_, _, rfl⟩ nkX7_regretIn rfl rfl rfl (Nat.le_of_ble_eq_true rfl) (Nat.zero_le _) (Nat.zero_le _) (by decide +kernel) (fun H7 z8 => ?_)
  obtain ⟨z8, hn⟩ := z8
  have h0 := hn
  have hs := hs.step z8 (by omega) (by omega)
  refine aw_b (pc' := 17) (lv' := [(6, .int r5.2), (4, .long r1), (0, .ref a), (1, .int i0), (2, .int i1), (3, .int i2)]) (st' := [.int i1, .int (0 : Int32), .ref a]) [(12, .istore 6, 2, .null), (14, .aload_n 0, 1, .null), (15, .iconst 0, 1, .int (0 : Int32)), (16, .iload_n 2, 1, .null)] (by decide +kernel) rfl ?_
  obtain ⟨r9, e10, hm⟩ := bn_x hm
  refine aw_cv (rest := []) (st1 := [.int r9.2]) a 0 (kX7_costIn e10 h0 hf) rfl rfl ckX7_costIn lkL_229 h0 eo_M_0 ⟨_, _, rfl⟩ nkX7_costIn rfl rfl rfl (Nat.le_of_ble_eq_true rfl) (Nat.zero_le _) (Nat.zero_le _) (by decide +kernel) (fun H11 z12 => ?_)
  obtain ⟨z12, hn⟩ := z12
  have h0 := hn
  have hs := hs.step z12 (by omega) (by omega)
  refine aw_b (pc' := 27) (lv' := [(7, .int r9.2), (6, .int r5.2), (4, .long r1), (0, .ref a), (1, .int i0), (2, .int i1), (3, .int i2)]) (st' := [.int i1, .int (i0 - (1 : Int32)), .ref a]) [(20, .istore 7, 2, .null), (22, .aload_n 0, 1, .null), (23, .iload_n 1, 1, .null), (24, .iconst 1, 1, .int (1 : Int32)), (25, .isub, 1, .null), (26, .iload_n 2, 1, .null)] (by decide +kernel) rfl ?_
  obtain ⟨r13, e14, hm⟩ := bn_x hm
  refine aw_cv (rest := []) (st1 := [.int r13.2]) a 0 (kX7_regretKeeping e14 h0 hf) rfl rfl ckX7_regretKeeping lkL_232 h0 eo_M_0 ⟨_, _, rfl⟩ nkX7_regretKeeping rfl rfl rfl (Nat.le_of_ble_eq_true rfl) (Nat.zero_le _) (Nat.zero_le _) (by decide +kernel) (fun H15 z16 => ?_)
  obtain ⟨z16, hn⟩ := z16
  have h0 := hn
  have hs := hs.step z16 (by omega) (by omega)
  refine aw_b (pc' := 35) (lv' := [(8, .int r13.2), (7, .int r9.2), (6, .int r5.2), (4, .long r1), (0, .ref a), (1, .int i0), (2, .int i1), (3, .int i2)]) (st' := [.int i1, .int (2 : Int32), .ref a]) [(30, .istore 8, 2, .null), (32, .aload_n 0, 1, .null), (33, .iconst 2, 1, .int (2 : Int32)), (34, .iload_n 2, 1, .null)] (by decide +kernel) rfl ?_
  obtain ⟨r17, e18, hm⟩ := bn_x hm
  refine aw_cv (rest := []) (st1 := [.int r17.2]) a 0 (kX7_regretAgainst e18 h0 hf) rfl rfl ckX7_regretAgainst lkL_235 h0 eo_M_0 ⟨_, _, rfl⟩ nkX7_regretAgainst rfl rfl rfl (Nat.le_of_ble_eq_true rfl) (Nat.zero_le _) (Nat.zero_le _) (by decide +kernel) (fun H19 z20 => ?_)
  obtain ⟨z20, hn⟩ := z20
  have h0 := hn
  have hs := hs.step z20 (by omega) (by omega)
  refine aw_b (pc' := 41) (lv' := [(9, .int r17.2), (8, .int r13.2), (7, .int r9.2), (6, .int r5.2), (4, .long r1), (0, .ref a), (1, .int i0), (2, .int i1), (3, .int i2)]) (st' := [.ref a]) [(38, .istore 9, 2, .null), (40, .aload_n 0, 1, .null)] (by decide +kernel) rfl ?_
  obtain ⟨r21, e22, hm⟩ := bn_x hm
  refine aw_cv (rest := []) (st1 := [.int r21.2]) a 0 (kX7_breachIn e22 h0 hf) rfl rfl ckX7_breachIn lkL_238 h0 eo_M_0 ⟨_, _, rfl⟩ nkX7_breachIn rfl rfl rfl (Nat.le_of_ble_eq_true rfl) (Nat.zero_le _) (Nat.zero_le _) (by decide +kernel) (fun H23 z24 => ?_)
  obtain ⟨z24, hn⟩ := z24
  have h0 := hn
  have hs := hs.step z24 (by omega) (by omega)
  refine aw_b (pc' := 47) (lv' := [(10, .int r21.2), (9, .int r17.2), (8, .int r13.2), (7, .int r9.2), (6, .int r5.2), (4, .long r1), (0, .ref a), (1, .int i0), (2, .int i1), (3, .int i2)]) (st' := [.ref a]) [(44, .istore 10, 2, .null), (46, .aload_n 0, 1, .null)] (by decide +kernel) rfl ?_
  obtain ⟨r25, e26, hm⟩ := bn_x hm
  refine aw_cv (rest := []) (st1 := [.int r25]) a 0 (kX7_nextRule e26 h0) rfl rfl ckX7_nextRule lkL_241 h0 eo_M_0 ⟨_, _, rfl⟩ nkX7_nextRule rfl rfl rfl (Nat.le_of_ble_eq_true rfl) (Nat.zero_le _) (Nat.zero_le _) (by decide +kernel) (fun H27 z28 => ?_)
  have h0 := h0.kept0 z28
  have hs := hs.step0 z28
  refine aw_b (pc' := 54) (lv' := [(11, .int r25), (10, .int r21.2), (9, .int r17.2), (8, .int r13.2), (7, .int r9.2), (6, .int r5.2), (4, .long r1), (0, .ref a), (1, .int i0), (2, .int i1), (3, .int i2)]) (st' := [.int i2, .ref a]) [(50, .istore 11, 2, .null), (52, .aload_n 0, 1, .null), (53, .iload_n 3, 1, .null)] (by decide +kernel) rfl ?_
  obtain ⟨r29, e30, hm⟩ := bn_x hm
  refine aw_cv (rest := []) (st1 := [.int r29.2]) a 0 (kX7_hurtOf e30 h0 hf) rfl rfl ckX7_hurtOf lkL_244 h0 eo_M_0 ⟨_, _, rfl⟩ nkX7_hurtOf rfl rfl rfl (Nat.le_of_ble_eq_true rfl) (Nat.zero_le _) (Nat.zero_le _) (by decide +kernel) (fun H31 z32 => ?_)
  obtain ⟨z32, hn⟩ := z32
  have h0 := hn
  have hs := hs.step z32 (by omega) (by omega)
  refine aw_b (pc' := 60) (lv' := [(12, .int r29.2), (11, .int r25), (10, .int r21.2), (9, .int r17.2), (8, .int r13.2), (7, .int r9.2), (6, .int r5.2), (4, .long r1), (0, .ref a), (1, .int i0), (2, .int i1), (3, .int i2)]) (st' := [.ref a]) [(57, .istore 12, 2, .null), (59, .aload_n 0, 1, .null)] (by decide +kernel) rfl ?_
  obtain ⟨r33, e34, hm⟩ := bn_x hm
  refine aw_cv (rest := []) (st1 := [.int r33.2]) a 0 (kX7_worst e34 h0 hf) rfl rfl ckX7_worst lkL_247 h0 eo_M_0 ⟨_, _, rfl⟩ nkX7_worst rfl rfl rfl (Nat.le_of_ble_eq_true rfl) (Nat.zero_le _) (Nat.zero_le _) (by decide +kernel) (fun H35 z36 => ?_)
  obtain ⟨z36, hn⟩ := z36
  have h0 := hn
  have hs := hs.step z36 (by omega) (by omega)
  refine aw_b (pc' := 67) (lv' := [(13, .int r33.2), (12, .int r29.2), (11, .int r25), (10, .int r21.2), (9, .int r17.2), (8, .int r13.2), (7, .int r9.2), (6, .int r5.2), (4, .long r1), (0, .ref a), (1, .int i0), (2, .int i1), (3, .int i2)]) (st' := [.int i1, .ref a]) [(63, .istore 13, 2, .null), (65, .aload_n 0, 1, .null), (66, .iload_n 2, 1, .null)] (by decide +kernel) rfl ?_
  obtain ⟨r37, e38, hm⟩ := bn_x hm
  refine aw_cv (rest := []) (st1 := [.int r37.2]) a 0 (kX7_rivalIn e38 h0 hf) rfl rfl ckX7_rivalIn lkL_250 h0 eo_M_0 ⟨_, _, rfl⟩ nkX7_rivalIn rfl rfl rfl (Nat.le_of_ble_eq_true rfl) (Nat.zero_le _) (Nat.zero_le _) (by decide +kernel) (fun H39 z40 => ?_)
  obtain ⟨z40, hn⟩ := z40
  have h0 := hn
  have hs := hs.step z40 (by omega) (by omega)
  refine aw_b (pc' := 77) (lv' := [(14, .int r37.2), (13, .int r33.2), (12, .int r29.2), (11, .int r25), (10, .int r21.2), (9, .int r17.2), (8, .int r13.2), (7, .int r9.2), (6, .int r5.2), (4, .long r1), (0, .ref a), (1, .int i0), (2, .int i1), (3, .int i2)]) (st' := [.int (2 : Int32), .int (-1 : Int32), .ref a, .int (4 : Int32), .ref a]) [(70, .istore 14, 2, .null), (72, .aload_n 0, 1, .null), (73, .iconst 4, 1, .int (4 : Int32)), (74, .aload_n 0, 1, .null), (75, .iconst (-1), 1, .int (-1 : Int32)), (76, .iconst 2, 1, .int (2 : Int32))] (by decide +kernel) rfl ?_
  obtain ⟨r41, e42, hm⟩ := bn_x hm
  refine aw_cv (rest := [.int (4 : Int32), .ref a]) (st1 := [.int r41, .int (4 : Int32), .ref a]) a 0 (kX7_arm e42 h0) rfl rfl ckX7_arm lkL_141 h0 eo_M_0 ⟨_, _, rfl⟩ nkX7_arm rfl rfl rfl (Nat.le_of_ble_eq_true rfl) (Nat.zero_le _) (Nat.zero_le _) (by decide +kernel) (fun H43 z44 => ?_)
  have h0 := h0.kept0 z44
  have hs := hs.step0 z44
  refine aw_mn (rest := [.ref a]) mtL_201 rfl (Nat.le_of_ble_eq_true rfl) (Nat.zero_le _) (Nat.zero_le _) (by decide +kernel) ?_
  obtain ⟨r45, e46, hm⟩ := bn_x hm
  refine aw_cv (rest := []) (st1 := [.int r45.2]) a 0 (kX7_optimum e46 h0 hf) rfl rfl ckX7_optimum lkL_253 h0 eo_M_0 ⟨_, _, rfl⟩ nkX7_optimum rfl rfl rfl (Nat.le_of_ble_eq_true rfl) (Nat.zero_le _) (Nat.zero_le _) (by decide +kernel) (fun H47 z48 => ?_)
  obtain ⟨z48, hn⟩ := z48
  have h0 := hn
  have hs := hs.step z48 (by omega) (by omega)
  refine aw_b (pc' := 90) (lv' := [(15, .int r45.2), (14, .int r37.2), (13, .int r33.2), (12, .int r29.2), (11, .int r25), (10, .int r21.2), (9, .int r17.2), (8, .int r13.2), (7, .int r9.2), (6, .int r5.2), (4, .long r1), (0, .ref a), (1, .int i0), (2, .int i1), (3, .int i2)]) (st' := [.int i0, .ref a]) [(86, .istore 15, 2, .null), (88, .aload_n 0, 1, .null), (89, .iload_n 1, 1, .null)] (by decide +kernel) rfl ?_
  obtain ⟨r49, e50, hm⟩ := bn_x hm
  refine aw_cs (rest := []) (st1 := [.long r49]) (kL_whole e50 h0) rfl rfl ckL_whole lkL_222 nkL_whole rfl rfl rfl (Nat.le_of_ble_eq_true rfl) (Nat.zero_le _) (Nat.zero_le _) (by decide +kernel) (fun H51 z52 => ?_)
  have h0 := h0.kept0 z52
  have hs := hs.step0 z52
  refine aw_b (pc' := 96) (lv' := [(15, .int r45.2), (14, .int r37.2), (13, .int r33.2), (12, .int r29.2), (11, .int r25), (10, .int r21.2), (9, .int r17.2), (8, .int r13.2), (7, .int r9.2), (6, .int r5.2), (4, .long r1), (0, .ref a), (1, .int i0), (2, .int i1), (3, .int i2)]) (st' := [.int (lg_cmp r49 r1)]) [(93, .lload 4, 2, .null), (95, .lcmp, 1, .null)] (by decide +kernel) rfl ?_
  refine aw_if_ne (off := 53) 149 (by decide) (by decide +kernel) (fun hc => ?_) (fun hc => ?_)
  · have hm := (if_neg hc).symm.trans hm
    refine aw_b (pc' := 150) (lv' := [(15, .int r45.2), (14, .int r37.2), (13, .int r33.2), (12, .int r29.2), (11, .int r25), (10, .int r21.2), (9, .int r17.2), (8, .int r13.2), (7, .int r9.2), (6, .int r5.2), (4, .long r1), (0, .ref a), (1, .int i0), (2, .int i1), (3, .int i2)]) (st' := [.int (0 : Int32)]) [(149, .iconst 0, 1, .int (0 : Int32))] (by decide +kernel) rfl ?_
    obtain rfl := Option.some.inj hm
    subst hQ
    exact aw_zret rfl (by decide +kernel) (Nat.zero_le _) (Nat.zero_le _) (by decide +kernel) ⟨rfl, hs.w120, h0⟩
  · have hm := (if_pos hc).symm.trans hm
    refine aw_b (pc' := 101) (lv' := [(15, .int r45.2), (14, .int r37.2), (13, .int r33.2), (12, .int r29.2), (11, .int r25), (10, .int r21.2), (9, .int r17.2), (8, .int r13.2), (7, .int r9.2), (6, .int r5.2), (4, .long r1), (0, .ref a), (1, .int i0), (2, .int i1), (3, .int i2)]) (st' := [.int r45.2]) [(99, .iload 15, 2, .null)] (by decide +kernel) rfl ?_
    refine aw_if_lt (off := 48) 149 (by decide) (by decide +kernel) (fun hc => ?_) (fun hc => ?_)
    · have hm := (if_pos hc).symm.trans hm
      refine aw_b (pc' := 150) (lv' := [(15, .int r45.2), (14, .int r37.2), (13, .int r33.2), (12, .int r29.2), (11, .int r25), (10, .int r21.2), (9, .int r17.2), (8, .int r13.2), (7, .int r9.2), (6, .int r5.2), (4, .long r1), (0, .ref a), (1, .int i0), (2, .int i1), (3, .int i2)]) (st' := [.int (0 : Int32)]) [(149, .iconst 0, 1, .int (0 : Int32))] (by decide +kernel) rfl ?_
      obtain rfl := Option.some.inj hm
      subst hQ
      exact aw_zret rfl (by decide +kernel) (Nat.zero_le _) (Nat.zero_le _) (by decide +kernel) ⟨rfl, hs.w120, h0⟩
    · have hm := (if_neg hc).symm.trans hm
      refine aw_b (pc' := 106) (lv' := [(15, .int r45.2), (14, .int r37.2), (13, .int r33.2), (12, .int r29.2), (11, .int r25), (10, .int r21.2), (9, .int r17.2), (8, .int r13.2), (7, .int r9.2), (6, .int r5.2), (4, .long r1), (0, .ref a), (1, .int i0), (2, .int i1), (3, .int i2)]) (st' := [.int r33.2]) [(104, .iload 13, 2, .null)] (by decide +kernel) rfl ?_
      have J120 : ∀ (s_j120 : st_) (H_j120 : Heap), has_ E H_j120 a ly_M s_j120 → sm_ H H_j120 a 119 → fL_foreseesA_j120 i0 i1 i2 r1 r5 r9 r13 r17 r21 r25 r29 r33 r37 s_j120 = some r → aw E mL_foresees Q 120 [(0, .ref a), (1, .int i0), (2, .int i1), (3, .int i2), (4, .long r1), (6, .int r5.2), (7, .int r9.2), (8, .int r13.2), (9, .int r17.2), (10, .int r21.2), (11, .int r25), (12, .int r29.2), (13, .int r33.2), (14, .int r37.2)] [] H_j120 0 0 := by
        intro s_j120 H_j120 h0 hs hm
        unfold fL_foreseesA_j120 at hm
        refine aw_b (pc' := 122) (lv' := [(0, .ref a), (1, .int i0), (2, .int i1), (3, .int i2), (4, .long r1), (6, .int r5.2), (7, .int r9.2), (8, .int r13.2), (9, .int r17.2), (10, .int r21.2), (11, .int r25), (12, .int r29.2), (13, .int r33.2), (14, .int r37.2)]) (st' := [.int r33.2]) [(120, .iload 13, 2, .null)] (by decide +kernel) rfl ?_
        have J130 : ∀ (z0_j130 : Int32) (H_j130 : Heap), has_ E H_j130 a ly_M s_j120 → sm_ H H_j130 a 119 → fL_foreseesA_j130 i0 i1 i2 r1 r5 r9 r13 r17 r21 r25 r29 r33 r37 s_j120 z0_j130 = some r → aw E mL_foresees Q 130 [(0, .ref a), (1, .int i0), (2, .int i1), (3, .int i2), (4, .long r1), (6, .int r5.2), (7, .int r9.2), (8, .int r13.2), (9, .int r17.2), (10, .int r21.2), (11, .int r25), (12, .int r29.2), (13, .int r33.2), (14, .int r37.2)] [.int z0_j130] H_j130 0 0 := by
          intro z0_j130 H_j130 h0 hs hm
          unfold fL_foreseesA_j130 at hm
          refine aw_b (pc' := 133) (lv' := [(0, .ref a), (1, .int i0), (2, .int i1), (3, .int i2), (4, .long r1), (6, .int r5.2), (7, .int r9.2), (8, .int r13.2), (9, .int r17.2), (10, .int r21.2), (11, .int r25), (12, .int r29.2), (13, .int r33.2), (14, .int r37.2)]) (st' := [.int (2 : Int32), .int (-1 : Int32), .ref a, .int z0_j130]) [(130, .aload_n 0, 1, .null), (131, .iconst (-1), 1, .int (-1 : Int32)), (132, .iconst 2, 1, .int (2 : Int32))] (by decide +kernel) rfl ?_
          obtain ⟨r53, e54, hm⟩ := bn_x hm
          refine aw_cv (rest := [.int z0_j130]) (st1 := [.int r53, .int z0_j130]) a 0 (kX7_arm e54 h0) rfl rfl ckX7_arm lkL_141 h0 eo_M_0 ⟨_, _, rfl⟩ nkX7_arm rfl rfl rfl (Nat.le_of_ble_eq_true rfl) (Nat.zero_le _) (Nat.zero_le _) (by decide +kernel) (fun H55 z56 => ?_)
          have h0 := h0.kept0 z56
          have hs := hs.step0 z56
          refine aw_b (pc' := 138) (lv' := [(0, .ref a), (1, .int i0), (2, .int i1), (3, .int i2), (4, .long r1), (6, .int r5.2), (7, .int r9.2), (8, .int r13.2), (9, .int r17.2), (10, .int r21.2), (11, .int r25), (12, .int r29.2), (13, .int r33.2), (14, .int r37.2)]) (st' := [.int (20 : Int32), .int r53, .int z0_j130]) [(136, .bipush 20, 2, .int (20 : Int32))] (by decide +kernel) rfl ?_
          have J146 : ∀ (z1_j146 : Int32) (H_j146 : Heap), has_ E H_j146 a ly_M s_j120 → sm_ H H_j146 a 119 → fL_foreseesA_j146 i0 i1 i2 r1 r5 r9 r13 r17 r21 r25 r29 r33 r37 s_j120 z0_j130 z1_j146 = some r → aw E mL_foresees Q 146 [(0, .ref a), (1, .int i0), (2, .int i1), (3, .int i2), (4, .long r1), (6, .int r5.2), (7, .int r9.2), (8, .int r13.2), (9, .int r17.2), (10, .int r21.2), (11, .int r25), (12, .int r29.2), (13, .int r33.2), (14, .int r37.2)] [.int z1_j146, .int z0_j130] H_j146 0 0 := by
            intro z1_j146 H_j146 h0 hs hm
            unfold fL_foreseesA_j146 at hm
            refine aw_ic_eq (off := 5) 151 (by decide) (by decide +kernel) (fun hc => ?_) (fun hc => ?_)
            · have hm := (if_pos hc).symm.trans hm
              refine aw_b (pc' := 153) (lv' := [(0, .ref a), (1, .int i0), (2, .int i1), (3, .int i2), (4, .long r1), (6, .int r5.2), (7, .int r9.2), (8, .int r13.2), (9, .int r17.2), (10, .int r21.2), (11, .int r25), (12, .int r29.2), (13, .int r33.2), (14, .int r37.2)]) (st' := [.int (0 : Int32), .ref a]) [(151, .aload_n 0, 1, .null), (152, .iconst 0, 1, .int (0 : Int32))] (by decide +kernel) rfl ?_
              obtain ⟨g1, e57, hm⟩ := bn_x hm
              refine aw_cvu (rest := []) (st1 := [.int (s_j120 9 9)]) (kS7_save e57 hO hf h0 (at_same hp (hs.2 _ (at_lt hp) (Or.inr (Nat.le_refl _))))) rfl rfl ckS7_save lkL_256 (h0 0 _ eo_M_0) ⟨_, _, rfl⟩ nkS7_save rfl rfl rfl rfl rfl (Nat.le_of_ble_eq_true rfl) (by decide) (by decide) (by decide +kernel) (fun H1 hz1 hsp => ?_)
              obtain ⟨b, b1, b2, b3, b4, b5⟩ := hsp
              have hq := at_lt hp
              have hqz := hs.1
              have h0 := h0.kept (n := 119) (⟨b4, fun q hq ho => b5 q hq (by omega)⟩ : sm_ _ H1 (a + 119) 1) rfl (Or.inl (Nat.le_refl _))
              refine aw_b (pc' := 157) (lv' := [(0, .ref a), (1, .int i0), (2, .int i1), (3, .int i2), (4, .long r1), (6, .int r5.2), (7, .int r9.2), (8, .int r13.2), (9, .int r17.2), (10, .int r21.2), (11, .int r25), (12, .int r29.2), (13, .int r33.2), (14, .int r37.2)]) (st' := []) [(156, .pop, 1, .null)] (by decide +kernel) rfl ?_
              refine aw_lv (lv' := [(0, .ref a), (1, .int i0), (2, .int i1), (3, .int i2), (4, .long r1), (6, .int r5.2), (7, .int r9.2), (8, .int r13.2), (9, .int r17.2), (10, .int r21.2), (11, .int r25), (12, .int r29.2), (13, .int r33.2), (14, .int r37.2)]) [0, 1, 2, 3, 4, 5, 6, 7, 8, 9, 10, 11, 12, 13] rfl ?_
              refine aw_post (fun o Hn hq3 => ?_) (kL_foreseesB hm h0 b2 b3 (by omega) hf)
              subst hQ
              exact ⟨hq3.1, ⟨Nat.le_trans hqz (Nat.le_trans b4 hq3.2.1.1), fun q hq4 ho => by rw [hq3.2.1.2 q (by omega) (by omega), b5 q (by omega) (by omega)]; exact hs.2 q hq4 (by omega)⟩, hq3.2.2⟩
            · have hm := (if_neg hc).symm.trans hm
              refine aw_b (pc' := 150) (lv' := [(0, .ref a), (1, .int i0), (2, .int i1), (3, .int i2), (4, .long r1), (6, .int r5.2), (7, .int r9.2), (8, .int r13.2), (9, .int r17.2), (10, .int r21.2), (11, .int r25), (12, .int r29.2), (13, .int r33.2), (14, .int r37.2)]) (st' := [.int (0 : Int32)]) [(149, .iconst 0, 1, .int (0 : Int32))] (by decide +kernel) rfl ?_
              obtain rfl := Option.some.inj hm
              subst hQ
              exact aw_zret rfl (by decide +kernel) (Nat.zero_le _) (Nat.zero_le _) (by decide +kernel) ⟨rfl, hs.w120, h0⟩
          refine aw_ic_ne (off := 7) 145 (by decide) (by decide +kernel) (fun hc => ?_) (fun hc => ?_)
          · have hm := (if_neg hc).symm.trans hm
            refine aw_b (pc' := 146) (lv' := [(0, .ref a), (1, .int i0), (2, .int i1), (3, .int i2), (4, .long r1), (6, .int r5.2), (7, .int r9.2), (8, .int r13.2), (9, .int r17.2), (10, .int r21.2), (11, .int r25), (12, .int r29.2), (13, .int r33.2), (14, .int r37.2)]) (st' := [.int (0 : Int32), .int z0_j130]) [(145, .iconst 0, 1, .int (0 : Int32))] (by decide +kernel) rfl ?_
            exact J146 (0 : Int32) H55 h0 hs hm
          · have hm := (if_pos hc).symm.trans hm
            refine aw_b (pc' := 146) (lv' := [(0, .ref a), (1, .int i0), (2, .int i1), (3, .int i2), (4, .long r1), (6, .int r5.2), (7, .int r9.2), (8, .int r13.2), (9, .int r17.2), (10, .int r21.2), (11, .int r25), (12, .int r29.2), (13, .int r33.2), (14, .int r37.2)]) (st' := [.int (1 : Int32), .int z0_j130]) [(141, .iconst 1, 1, .int (1 : Int32)), (142, .goto 4, 3, .null)] (by decide +kernel) rfl ?_
            exact J146 (1 : Int32) H55 h0 hs hm
        refine aw_if_ge (off := 7) 129 (by decide) (by decide +kernel) (fun hc => ?_) (fun hc => ?_)
        · have hm := (if_pos hc).symm.trans hm
          refine aw_b (pc' := 130) (lv' := [(0, .ref a), (1, .int i0), (2, .int i1), (3, .int i2), (4, .long r1), (6, .int r5.2), (7, .int r9.2), (8, .int r13.2), (9, .int r17.2), (10, .int r21.2), (11, .int r25), (12, .int r29.2), (13, .int r33.2), (14, .int r37.2)]) (st' := [.int (0 : Int32)]) [(129, .iconst 0, 1, .int (0 : Int32))] (by decide +kernel) rfl ?_
          exact J130 (0 : Int32) H_j120 h0 hs hm
        · have hm := (if_neg hc).symm.trans hm
          refine aw_b (pc' := 130) (lv' := [(0, .ref a), (1, .int i0), (2, .int i1), (3, .int i2), (4, .long r1), (6, .int r5.2), (7, .int r9.2), (8, .int r13.2), (9, .int r17.2), (10, .int r21.2), (11, .int r25), (12, .int r29.2), (13, .int r33.2), (14, .int r37.2)]) (st' := [.int (1 : Int32)]) [(125, .iconst 1, 1, .int (1 : Int32)), (126, .goto 4, 3, .null)] (by decide +kernel) rfl ?_
          exact J130 (1 : Int32) H_j120 h0 hs hm
      refine aw_if_lt (off := 14) 120 (by decide) (by decide +kernel) (fun hc => ?_) (fun hc => ?_)
      · have hm := (if_pos hc).symm.trans hm
        refine aw_lv (lv' := [(0, .ref a), (1, .int i0), (2, .int i1), (3, .int i2), (4, .long r1), (6, .int r5.2), (7, .int r9.2), (8, .int r13.2), (9, .int r17.2), (10, .int r21.2), (11, .int r25), (12, .int r29.2), (13, .int r33.2), (14, .int r37.2)]) [11, 12, 13, 14, 10, 9, 8, 7, 6, 5, 4, 3, 2, 1] rfl ?_
        exact J120 r45.1 H51 h0 hs hm
      · have hm := (if_neg hc).symm.trans hm
        refine aw_b (pc' := 112) (lv' := [(15, .int r45.2), (14, .int r37.2), (13, .int r33.2), (12, .int r29.2), (11, .int r25), (10, .int r21.2), (9, .int r17.2), (8, .int r13.2), (7, .int r9.2), (6, .int r5.2), (4, .long r1), (0, .ref a), (1, .int i0), (2, .int i1), (3, .int i2)]) (st' := [.int r33.2, .ref a]) [(109, .aload_n 0, 1, .null), (110, .iload 13, 2, .null)] (by decide +kernel) rfl ?_
        obtain ⟨r58, e59, hm⟩ := bn_x hm
        refine aw_cv (rest := []) (st1 := [.int r58.2]) a 0 (kX7_hurtOf e59 h0 hf) rfl rfl ckX7_hurtOf lkL_244 h0 eo_M_0 ⟨_, _, rfl⟩ nkX7_hurtOf rfl rfl rfl (Nat.le_of_ble_eq_true rfl) (Nat.zero_le _) (Nat.zero_le _) (by decide +kernel) (fun H60 z61 => ?_)
        obtain ⟨z61, hn⟩ := z61
        have h0 := hn
        have hs := hs.step z61 (by omega) (by omega)
        refine aw_b (pc' := 117) (lv' := [(15, .int r45.2), (14, .int r37.2), (13, .int r33.2), (12, .int r29.2), (11, .int r25), (10, .int r21.2), (9, .int r17.2), (8, .int r13.2), (7, .int r9.2), (6, .int r5.2), (4, .long r1), (0, .ref a), (1, .int i0), (2, .int i1), (3, .int i2)]) (st' := [.int r29.2, .int r58.2]) [(115, .iload 12, 2, .null)] (by decide +kernel) rfl ?_
        refine aw_ic_lt (off := 32) 149 (by decide) (by decide +kernel) (fun hc => ?_) (fun hc => ?_)
        · have hm := (if_pos hc).symm.trans hm
          refine aw_b (pc' := 150) (lv' := [(15, .int r45.2), (14, .int r37.2), (13, .int r33.2), (12, .int r29.2), (11, .int r25), (10, .int r21.2), (9, .int r17.2), (8, .int r13.2), (7, .int r9.2), (6, .int r5.2), (4, .long r1), (0, .ref a), (1, .int i0), (2, .int i1), (3, .int i2)]) (st' := [.int (0 : Int32)]) [(149, .iconst 0, 1, .int (0 : Int32))] (by decide +kernel) rfl ?_
          obtain rfl := Option.some.inj hm
          subst hQ
          exact aw_zret rfl (by decide +kernel) (Nat.zero_le _) (Nat.zero_le _) (by decide +kernel) ⟨rfl, hs.w120, h0⟩
        · have hm := (if_neg hc).symm.trans hm
          refine aw_lv (lv' := [(0, .ref a), (1, .int i0), (2, .int i1), (3, .int i2), (4, .long r1), (6, .int r5.2), (7, .int r9.2), (8, .int r13.2), (9, .int r17.2), (10, .int r21.2), (11, .int r25), (12, .int r29.2), (13, .int r33.2), (14, .int r37.2)]) [11, 12, 13, 14, 10, 9, 8, 7, 6, 5, 4, 3, 2, 1] rfl ?_
          exact J120 r58.1 H60 h0 hs hm
