/-! the law from its entry: printed by wip/whole/gen_94.py -/
theorem nwL_8 : nwk_ RL 8 7 8 dfX7 := ⟨_, _, tyX7, rfl, tyX7_ok, wkX7, (uw_mem 123 (by decide +kernel) (by decide +kernel)), (uw_mem 124 (by decide +kernel) (by decide +kernel)), (uw_mem 103 (by decide +kernel) (by decide +kernel)), by decide +kernel⟩
theorem nwL_142 : nwk_ RL 142 8 19 dfX8 := ⟨_, _, tyX8, rfl, tyX8_ok, wkX8, (uw_mem 1422 (by decide +kernel) (by decide +kernel)), (uw_mem 1423 (by decide +kernel) (by decide +kernel)), (uw_mem 112 (by decide +kernel) (by decide +kernel)), by decide +kernel⟩
theorem ilL_141 : ilk_ RL 141 yX7_init := Or.inl (uw_mem 125 (by decide +kernel) (by decide +kernel))
theorem ilL_144 : ilk_ RL 144 yX8_init := Or.inl (uw_mem 1424 (by decide +kernel) (by decide +kernel))
set_option maxHeartbeats 4000000 in
theorem law_start {E : ev_} (hX : exo_ E) {H : Heap} {b0 L : Nat} {xs : Nat → Int32} (hS : scr_ E b0 L xs H) (hL : L ≤ 2048) (hH : ev_fr E H.size) {Q : po_} (hQ : ∀ H, Q (.inl (some (.int 1))) H) : aw E mL_law Q 0 [(0, .ref b0)] [] H 0 0 := by
  obtain ⟨r, ro, em, eo, hFF, h6⟩ := init_ff
  have hb0 := hS.lt
  refine aw_nw (H0 := H) (a := H.size) (es := []) (x := H.size) (es' := [.inr (7, dfX7)]) (nwl_.rf rfl) nwL_8 rfl rfl (by show 0 + 1 ≤ 601024; omega) (by show 0 + 8 ≤ 7293033; omega) (by decide +kernel) (fun H1 h1 => ?_)
  refine pe1_ok (i := .dup) (len := 1) (v := .null) (by decide +kernel) rfl ?_
  show aw E mL_law Q 4 [(0, .ref b0)] [.ref H.size, .ref H.size] H1 _ _
  refine aw_ci (u := 119) (u6 := 12460) (nX7_init hX em ((show nwl_ E H H1 H.size ([] ++ [.inr (7, dfX7)]) from h1).last) hH) ckX7_init rfl ilL_141 nkX7_init (by decide +kernel) rfl rfl (Nat.le_of_ble_eq_true rfl) (by show 0 + 1 + 119 ≤ 601024; omega) (by show 0 + 8 + 12460 ≤ 7293033; omega) (by decide +kernel) (fun H2 z => ?_)
  obtain ⟨hb, hM, hsn⟩ := z
  have hb : blw_ H1 H2 H.size 120 := hb
  have hM : has_ E H2 H.size ly_M r := hM
  have hsn : at_ E H2 (H.size + 119) (sna_ E (fun _ => none)) := hsn
  have k2 : ∀ q, q < H.size → H2[q]? = H[q]? := fun q hq => (hb.2 q hq).trans (h1.2.1 q hq)
  have l2 : H.size + 120 ≤ H2.size := hb.1
  refine aw_b (pc' := 8) (lv' := [(1, .ref H.size), (0, .ref b0)]) (st' := []) [(7, .astore_n 1, 1, .null)] (by decide +kernel) rfl ?_
  refine aw_nw (H0 := H2) (a := H2.size) (es := []) (x := H2.size) (es' := [.inr (8, dfX8)]) (nwl_.rf rfl) nwL_142 rfl rfl (by show _ ≤ 601024; decide) (by show _ ≤ 7293033; decide) (by decide +kernel) (fun H3 h3 => ?_)
  refine pe1_ok (i := .dup) (len := 1) (v := .null) (by decide +kernel) rfl ?_
  show aw E mL_law Q 12 [(1, .ref H.size), (0, .ref b0)] [.ref H2.size, .ref H2.size] H3 _ _
  refine aw_ci (u := 9) (u6 := 65732) (nX8_init hX eo ((show nwl_ E H2 H3 H2.size ([] ++ [.inr (8, dfX8)]) from h3).last) (Nat.le_trans hH (by show H.size ≤ H2.size + 0; omega))) ckX8_init rfl ilL_144 nkX8_init (by decide +kernel) rfl rfl (Nat.le_of_ble_eq_true rfl) (by show _ ≤ 601024; decide) (by show _ ≤ 7293033; decide) (by decide +kernel) (fun H4 z => ?_)
  obtain ⟨hb4, hO⟩ := z
  have hb4 : blw_ H3 H4 H2.size 10 := hb4
  have hO : has_ E H4 H2.size ly_O ro := hO
  have k4 : ∀ q, q < H2.size → H4[q]? = H2[q]? := fun q hq => (hb4.2 q hq).trans (h3.2.1 q hq)
  have l4 : H2.size + 10 ≤ H4.size := hb4.1
  refine aw_b (pc' := 17) (lv' := [(2, .ref H2.size), (1, .ref H.size), (0, .ref b0)]) (st' := [.int 1]) [(15, .astore_n 2, 1, .null), (16, .iconst 1, 1, .int 1)] (by decide +kernel) rfl ?_
  refine aw_na (atype := .long) (ty := .long) (t := 3) (N := 1) (x := H4.size) (z := .inr (.inl (fun _ => 0))) (H0 := H4) (a := H4.size) (es := []) (es' := [.inl (E.2.1 3, 1, .inr (.inl (fun _ => 0)))]) (nwl_.rf rfl) rfl rfl (fun _ _ h => h) acw_long (fun c => rfl) (by decide) (by decide) (by decide) rfl rfl (by show _ ≤ 601024; decide) (by show _ ≤ 7293033; decide) (by decide +kernel) (fun H5 h5 => ?_)
  refine aw_b (pc' := 21) (lv' := [(3, .ref H4.size), (2, .ref H2.size), (1, .ref H.size), (0, .ref b0)]) (st' := [.int 1]) [(19, .astore_n 3, 1, .null), (20, .iconst 1, 1, .int 1)] (by decide +kernel) rfl ?_
  refine aw_na (atype := .double) (ty := .double) (t := 4) (N := 1) (x := H5.size) (z := .inr (.inr (.inr (.inl (fun _ => 0))))) (H0 := H5) (a := H5.size) (es := []) (es' := [.inl (E.2.1 4, 1, .inr (.inr (.inr (.inl (fun _ => 0)))))]) (nwl_.rf rfl) rfl rfl (fun _ _ h => h) acw_double (fun c => rfl) (by decide) (by decide) (by decide) rfl rfl (by show _ ≤ 601024; decide) (by show _ ≤ 7293033; decide) (by decide +kernel) (fun H6 h6' => ?_)
  have l5 : H5.size = H4.size + 1 := h5.1
  refine aw_b (pc' := 28) (lv' := [(5, .int (nI 0)), (4, .ref H5.size), (3, .ref H4.size), (2, .ref H2.size), (1, .ref H.size), (0, .ref b0)]) (st' := []) [(23, .astore 4, 2, .null), (25, .iconst 0, 1, .int (nI 0)), (26, .istore 5, 2, .null)] (by decide +kernel) rfl ?_
  refine aw_lv (lv' := lvL ((H.size, H2.size, H4.size, H5.size), b0, L, xs) 0) [0, 5, 4, 3, 2, 1] rfl ?_
  have k6 : ∀ q, q < H4.size → H6[q]? = H4[q]? := fun q hq => (h6'.2.1 q (by omega)).trans (h5.2.1 q hq)
  have k26 : ∀ q, q < H2.size → H6[q]? = H2[q]? := fun q hq => (k6 q (by omega)).trans (k4 q hq)
  have o5 : at_ E H5 H4.size (.inl (E.2.1 3, 1, .inr (.inl (fun _ => 0)))) := h5.2.2 0 _ rfl
  have o6 : at_ E H6 H5.size (.inl (E.2.1 4, 1, .inr (.inr (.inr (.inl (fun _ => 0)))))) := h6'.2.2 0 _ rfl
  refine aw_widen (k' := 132) (n' := 78221) (by decide) (by decide) ?_
  refine law_loop hX (G := ((H.size, H2.size, H4.size, H5.size), b0, L, xs)) ⟨hH, l2, l4, by show H4.size + 1 ≤ H5.size; omega, hb0, hL⟩ hQ 512 (i := 0) (s := r) (t := ro) (f := fun _ => none) (by show L ≤ _; omega) (by omega) (by omega) (by omega) ⟨?_, ?_, ?_, ?_, ?_, ?_⟩ ⟨fun k hk => Or.inl ⟨rfl, h6 k⟩, fun b0 b1 h => by cases h⟩ hFF
  · exact hS.kept ((k26 b0 (by show b0 < H2.size; omega)).trans (k2 b0 hb0))
  · exact hM.keptq (fun o ho => k26 _ (by have ho : o < 119 := ho; show H.size + o < H2.size; omega))
  · exact at_same hsn (k26 _ (by show H.size + 119 < H2.size; omega))
  · exact hO.keptq (fun o ho => k6 _ (by have ho : o < 10 := ho; show H2.size + o < H4.size; omega))
  · exact ⟨_, 0, at_same o5 (h6'.2.1 _ (by show H4.size < H5.size; omega)), _, rfl, rfl⟩
  · exact ⟨_, 0, o6, _, rfl, rfl⟩
