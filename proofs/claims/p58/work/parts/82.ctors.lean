theorem acw_byte : Cond.arrayClass .byte ∈ uw_ := (uw_mem 174 (by decide +kernel) (by decide +kernel))
theorem acw_int : Cond.arrayClass .int ∈ uw_ := (uw_mem 175 (by decide +kernel) (by decide +kernel))
def dfX0 : List Value := [.int 0, .int 0, .int 0, .null, .null, .int 0, .int 0, .int 0, .int 0, .int 0, .int 0, .int 0]
def dfX1 : List Value := [.null, .null, .null, .null, .null, .null, .null, .int 0, .int 0, .int 0, .int 0, .int 0, .int 0, .int 0]
def dfX2 : List Value := [.null, .null]
def dfX3 : List Value := [.null, .null, .int 0, .int 0, .int 0, .int 0, .int 0]
def dfX4 : List Value := [.int 0, .int 0, .null, .null, .null, .null, .null, .null, .null, .int 0, .int 0, .int 0, .int 0, .int 0]
def dfX5 : List Value := [.int 0, .int 0, .int 0, .int 0, .int 0, .null, .null, .int 0, .int 0, .int 0, .int 0, .int 0, .int 0, .null, .int 0, .int 0, .int 0, .int 0, .int 0]
def dfX6 : List Value := [.int 0, .null, .null]
def dfX7 : List Value := [.null, .int 0, .int 0, .null, .null, .null, .null, .null]
/-! the constructors: printed by wip/whole/gen_82.py -/
def mX5_init : mt_ := (yX5_init, cX5_init, 1, none, [], { frames := 1, locals := 12, cells := 3, slots := 28 })
theorem ckX5_init : cokI_ mX5_init := ⟨⟨(uw_mem 71 (by decide +kernel) (by decide +kernel)), (uw_mem 31 (by decide +kernel) (by decide +kernel)), by decide +kernel, by decide +kernel⟩, (uw_mem 70 (by decide +kernel) (by decide +kernel)), rfl⟩
theorem nkX5_init : nok_ mX5_init 0 := by decide +kernel
theorem oiX5_3 : Cond.methodLink RX5 3 Lib.objectInit ∈ uw_ := (uw_mem 72 (by decide +kernel) (by decide +kernel))
theorem fFX5_9 : fpf_ RX5 9 5 5 (.array .int) := ⟨_, _, _, tyX5, rfl, by decide, (uw_mem 93 (by decide +kernel) (by decide +kernel)), wkX5, tyX5_ok, nmX5, rfl, rfl, by decide +kernel⟩
theorem fFX5_15 : fpf_ RX5 15 5 6 (.array .int) := ⟨_, _, _, tyX5, rfl, by decide, (uw_mem 94 (by decide +kernel) (by decide +kernel)), wkX5, tyX5_ok, nmX5, rfl, rfl, by decide +kernel⟩
theorem fFX5_18 : fpf_ RX5 18 5 13 (.array .int) := ⟨_, _, _, tyX5, rfl, by decide, (uw_mem 116 (by decide +kernel) (by decide +kernel)), wkX5, tyX5_ok, nmX5, rfl, rfl, by decide +kernel⟩
set_option maxHeartbeats 4000000 in
set_option maxRecDepth 100000 in
theorem nX5_init {E : ev_} {H : Heap} {a : Nat} (hO : exo_ E) (h : nwl_ E H H a [.inr (5, dfX5)]) (hf : ev_fr E a) : sp_ E mX5_init [.ref a] H (po1 (.inl none) (fun Hn => nwl_ E H Hn a (lc_ E a ly_S))) := by
  refine sp_of (by decide +kernel) rfl rfl ?_
  generalize hQ : po1 _ _ = Q
  refine aw_lv (lv' := [(0, .ref a)]) [0] rfl ?_
  have h : nwl_ E H H a (.inr (5, [.int 0, .int 0, .int 0, .int 0, .int 0, .null, .null, .int 0, .int 0, .int 0, .int 0, .int 0, .int 0, .null, .int 0, .int 0, .int 0, .int 0, .int 0]) :: []) := h
  refine aw_b (pc' := 1) (lv' := [(0, .ref a)]) (st' := [.ref a]) [(0, .aload_n 0, 1, .null)] (by decide +kernel) rfl ?_
  refine aw_oi oiX5_3 (by decide) (by decide) (by decide +kernel) ?_
  refine aw_b (pc' := 7) (lv' := [(0, .ref a)]) (st' := [.int 6, .ref a]) [(4, .aload_n 0, 1, .null), (5, .bipush 6, 2, .int 6)] (by decide +kernel) rfl ?_
  refine aw_na (atype := .int) (ty := .int) (t := 0) (N := 6) (x := a + 1) (z := .inl (fun _ => 0)) (es' := .inr (5, [.int 0, .int 0, .int 0, .int 0, .int 0, .null, .null, .int 0, .int 0, .int 0, .int 0, .int 0, .int 0, .null, .int 0, .int 0, .int 0, .int 0, .int 0]) :: [.inl (E.2.1 0, 6, .inl (fun _ => 0))]) h rfl rfl (fun _ _ h => h) acw_int (fun c => rfl) (by decide) (by decide) (by decide) rfl rfl (by decide) (by decide) (by decide +kernel) (fun H1 h => ?_)
  refine aw_pf 0 (es' := .inr (5, [.int 0, .int 0, .int 0, .int 0, .int 0, .ref (a + 1), .null, .int 0, .int 0, .int 0, .int 0, .int 0, .int 0, .null, .int 0, .int 0, .int 0, .int 0, .int 0]) :: [.inl (E.2.1 0, 6, .inl (fun _ => 0))]) h rfl fFX5_9 rfl hf rfl rfl rfl rfl (by decide +kernel) (fun H2 h => ?_)
  refine aw_b (pc' := 15) (lv' := [(0, .ref a)]) (st' := [.int 6, .ref a]) [(12, .aload_n 0, 1, .null), (13, .bipush 6, 2, .int 6)] (by decide +kernel) rfl ?_
  refine aw_na (atype := .int) (ty := .int) (t := 0) (N := 6) (x := a + 2) (z := .inl (fun _ => 0)) (es' := .inr (5, [.int 0, .int 0, .int 0, .int 0, .int 0, .ref (a + 1), .null, .int 0, .int 0, .int 0, .int 0, .int 0, .int 0, .null, .int 0, .int 0, .int 0, .int 0, .int 0]) :: ([.inl (E.2.1 0, 6, .inl (fun _ => 0))] ++ [.inl (E.2.1 0, 6, .inl (fun _ => 0))])) h rfl rfl (fun _ _ h => h) acw_int (fun c => rfl) (by decide) (by decide) (by decide) rfl rfl (by decide) (by decide) (by decide +kernel) (fun H3 h => ?_)
  refine aw_pf 0 (es' := .inr (5, [.int 0, .int 0, .int 0, .int 0, .int 0, .ref (a + 1), .ref (a + 2), .int 0, .int 0, .int 0, .int 0, .int 0, .int 0, .null, .int 0, .int 0, .int 0, .int 0, .int 0]) :: ([.inl (E.2.1 0, 6, .inl (fun _ => 0))] ++ [.inl (E.2.1 0, 6, .inl (fun _ => 0))])) h rfl fFX5_15 rfl hf rfl rfl rfl rfl (by decide +kernel) (fun H4 h => ?_)
  refine aw_b (pc' := 23) (lv' := [(0, .ref a)]) (st' := [.int 16, .ref a]) [(20, .aload_n 0, 1, .null), (21, .bipush 16, 2, .int 16)] (by decide +kernel) rfl ?_
  refine aw_na (atype := .int) (ty := .int) (t := 0) (N := 16) (x := a + 3) (z := .inl (fun _ => 0)) (es' := .inr (5, [.int 0, .int 0, .int 0, .int 0, .int 0, .ref (a + 1), .ref (a + 2), .int 0, .int 0, .int 0, .int 0, .int 0, .int 0, .null, .int 0, .int 0, .int 0, .int 0, .int 0]) :: (([.inl (E.2.1 0, 6, .inl (fun _ => 0))] ++ [.inl (E.2.1 0, 6, .inl (fun _ => 0))]) ++ [.inl (E.2.1 0, 16, .inl (fun _ => 0))])) h rfl rfl (fun _ _ h => h) acw_int (fun c => rfl) (by decide) (by decide) (by decide) rfl rfl (by decide) (by decide) (by decide +kernel) (fun H5 h => ?_)
  refine aw_pf 0 (es' := .inr (5, [.int 0, .int 0, .int 0, .int 0, .int 0, .ref (a + 1), .ref (a + 2), .int 0, .int 0, .int 0, .int 0, .int 0, .int 0, .ref (a + 3), .int 0, .int 0, .int 0, .int 0, .int 0]) :: (([.inl (E.2.1 0, 6, .inl (fun _ => 0))] ++ [.inl (E.2.1 0, 6, .inl (fun _ => 0))]) ++ [.inl (E.2.1 0, 16, .inl (fun _ => 0))])) h rfl fFX5_18 rfl hf rfl rfl rfl rfl (by decide +kernel) (fun H6 h => ?_)
  refine aw_vret rfl (by decide) (by decide) (by decide +kernel) ?_
  rw [← hQ]
  refine ⟨rfl, ?_⟩
  exact h
def mX0_init : mt_ := (yX0_init, cX0_init, 1, none, [], { frames := 1, locals := 12, cells := 2, slots := 40 })
theorem ckX0_init : cokI_ mX0_init := ⟨⟨(uw_mem 219 (by decide +kernel) (by decide +kernel)), (uw_mem 34 (by decide +kernel) (by decide +kernel)), by decide +kernel, by decide +kernel⟩, (uw_mem 218 (by decide +kernel) (by decide +kernel)), rfl⟩
theorem nkX0_init : nok_ mX0_init 0 := by decide +kernel
theorem oiX0_3 : Cond.methodLink RX0 3 Lib.objectInit ∈ uw_ := (uw_mem 220 (by decide +kernel) (by decide +kernel))
theorem fFX0_9 : fpf_ RX0 9 0 3 (.array .int) := ⟨_, _, _, tyX0, rfl, by decide, (uw_mem 231 (by decide +kernel) (by decide +kernel)), wkX0, tyX0_ok, nmX0, rfl, rfl, by decide +kernel⟩
theorem fFX0_15 : fpf_ RX0 15 0 4 (.array .int) := ⟨_, _, _, tyX0, rfl, by decide, (uw_mem 234 (by decide +kernel) (by decide +kernel)), wkX0, tyX0_ok, nmX0, rfl, rfl, by decide +kernel⟩
set_option maxHeartbeats 4000000 in
set_option maxRecDepth 100000 in
theorem nX0_init {E : ev_} {H : Heap} {a : Nat} (hO : exo_ E) (h : nwl_ E H H a [.inr (0, dfX0)]) (hf : ev_fr E a) : sp_ E mX0_init [.ref a] H (po1 (.inl none) (fun Hn => nwl_ E H Hn a (lc_ E a ly_A))) := by
  refine sp_of (by decide +kernel) rfl rfl ?_
  generalize hQ : po1 _ _ = Q
  refine aw_lv (lv' := [(0, .ref a)]) [0] rfl ?_
  have h : nwl_ E H H a (.inr (0, [.int 0, .int 0, .int 0, .null, .null, .int 0, .int 0, .int 0, .int 0, .int 0, .int 0, .int 0]) :: []) := h
  refine aw_b (pc' := 1) (lv' := [(0, .ref a)]) (st' := [.ref a]) [(0, .aload_n 0, 1, .null)] (by decide +kernel) rfl ?_
  refine aw_oi oiX0_3 (by decide) (by decide) (by decide +kernel) ?_
  refine aw_b (pc' := 7) (lv' := [(0, .ref a)]) (st' := [.int 20, .ref a]) [(4, .aload_n 0, 1, .null), (5, .bipush 20, 2, .int 20)] (by decide +kernel) rfl ?_
  refine aw_na (atype := .int) (ty := .int) (t := 0) (N := 20) (x := a + 1) (z := .inl (fun _ => 0)) (es' := .inr (0, [.int 0, .int 0, .int 0, .null, .null, .int 0, .int 0, .int 0, .int 0, .int 0, .int 0, .int 0]) :: [.inl (E.2.1 0, 20, .inl (fun _ => 0))]) h rfl rfl (fun _ _ h => h) acw_int (fun c => rfl) (by decide) (by decide) (by decide) rfl rfl (by decide) (by decide) (by decide +kernel) (fun H1 h => ?_)
  refine aw_pf 0 (es' := .inr (0, [.int 0, .int 0, .int 0, .ref (a + 1), .null, .int 0, .int 0, .int 0, .int 0, .int 0, .int 0, .int 0]) :: [.inl (E.2.1 0, 20, .inl (fun _ => 0))]) h rfl fFX0_9 rfl hf rfl rfl rfl rfl (by decide +kernel) (fun H2 h => ?_)
  refine aw_b (pc' := 15) (lv' := [(0, .ref a)]) (st' := [.int 20, .ref a]) [(12, .aload_n 0, 1, .null), (13, .bipush 20, 2, .int 20)] (by decide +kernel) rfl ?_
  refine aw_na (atype := .int) (ty := .int) (t := 0) (N := 20) (x := a + 2) (z := .inl (fun _ => 0)) (es' := .inr (0, [.int 0, .int 0, .int 0, .ref (a + 1), .null, .int 0, .int 0, .int 0, .int 0, .int 0, .int 0, .int 0]) :: ([.inl (E.2.1 0, 20, .inl (fun _ => 0))] ++ [.inl (E.2.1 0, 20, .inl (fun _ => 0))])) h rfl rfl (fun _ _ h => h) acw_int (fun c => rfl) (by decide) (by decide) (by decide) rfl rfl (by decide) (by decide) (by decide +kernel) (fun H3 h => ?_)
  refine aw_pf 0 (es' := .inr (0, [.int 0, .int 0, .int 0, .ref (a + 1), .ref (a + 2), .int 0, .int 0, .int 0, .int 0, .int 0, .int 0, .int 0]) :: ([.inl (E.2.1 0, 20, .inl (fun _ => 0))] ++ [.inl (E.2.1 0, 20, .inl (fun _ => 0))])) h rfl fFX0_15 rfl hf rfl rfl rfl rfl (by decide +kernel) (fun H4 h => ?_)
  refine aw_vret rfl (by decide) (by decide) (by decide +kernel) ?_
  rw [← hQ]
  refine ⟨rfl, ?_⟩
  exact h
def mX6_init : mt_ := (yX6_init, cX6_init, 1, none, [], { frames := 1, locals := 12, cells := 2, slots := 2313 })
theorem ckX6_init : cokI_ mX6_init := ⟨⟨(uw_mem 412 (by decide +kernel) (by decide +kernel)), (uw_mem 36 (by decide +kernel) (by decide +kernel)), by decide +kernel, by decide +kernel⟩, (uw_mem 411 (by decide +kernel) (by decide +kernel)), rfl⟩
theorem nkX6_init : nok_ mX6_init 0 := by decide +kernel
theorem oiX6_3 : Cond.methodLink RX6 3 Lib.objectInit ∈ uw_ := (uw_mem 413 (by decide +kernel) (by decide +kernel))
theorem fFX6_11 : fpf_ RX6 11 6 1 (.array .int) := ⟨_, _, _, tyX6, rfl, by decide, (uw_mem 415 (by decide +kernel) (by decide +kernel)), wkX6, tyX6_ok, nmX6, rfl, rfl, by decide +kernel⟩
theorem fFX6_15 : fpf_ RX6 15 6 2 (.array .int) := ⟨_, _, _, tyX6, rfl, by decide, (uw_mem 416 (by decide +kernel) (by decide +kernel)), wkX6, tyX6_ok, nmX6, rfl, rfl, by decide +kernel⟩
set_option maxHeartbeats 4000000 in
set_option maxRecDepth 100000 in
theorem nX6_init {E : ev_} {H : Heap} {a : Nat} (hO : exo_ E) (h : nwl_ E H H a [.inr (6, dfX6)]) (hf : ev_fr E a) : sp_ E mX6_init [.ref a] H (po1 (.inl none) (fun Hn => nwl_ E H Hn a (lc_ E a ly_T))) := by
  refine sp_of (by decide +kernel) rfl rfl ?_
  generalize hQ : po1 _ _ = Q
  refine aw_lv (lv' := [(0, .ref a)]) [0] rfl ?_
  have h : nwl_ E H H a (.inr (6, [.int 0, .null, .null]) :: []) := h
  refine aw_b (pc' := 1) (lv' := [(0, .ref a)]) (st' := [.ref a]) [(0, .aload_n 0, 1, .null)] (by decide +kernel) rfl ?_
  refine aw_oi oiX6_3 (by decide) (by decide) (by decide +kernel) ?_
  refine aw_b (pc' := 7) (lv' := [(0, .ref a)]) (st' := [.int 9, .ref a]) [(4, .aload_n 0, 1, .null), (5, .bipush 9, 2, .int 9)] (by decide +kernel) rfl ?_
  refine aw_na (atype := .int) (ty := .int) (t := 0) (N := 9) (x := a + 1) (z := .inl (fun _ => 0)) (es' := .inr (6, [.int 0, .null, .null]) :: [.inl (E.2.1 0, 9, .inl (fun _ => 0))]) h rfl rfl (fun _ _ h => h) acw_int (fun c => rfl) (by decide) (by decide) (by decide) rfl rfl (by decide) (by decide) (by decide +kernel) (fun H1 h => ?_)
  refine aw_pf 0 (es' := .inr (6, [.int 0, .ref (a + 1), .null]) :: [.inl (E.2.1 0, 9, .inl (fun _ => 0))]) h rfl fFX6_11 rfl hf rfl rfl rfl rfl (by decide +kernel) (fun H2 h => ?_)
  refine aw_b (pc' := 16) (lv' := [(0, .ref a)]) (st' := [.int 2304, .ref a]) [(12, .aload_n 0, 1, .null), (13, .sipush 2304, 3, .int 2304)] (by decide +kernel) rfl ?_
  refine aw_na (atype := .int) (ty := .int) (t := 0) (N := 2304) (x := a + 2) (z := .inl (fun _ => 0)) (es' := .inr (6, [.int 0, .ref (a + 1), .null]) :: ([.inl (E.2.1 0, 9, .inl (fun _ => 0))] ++ [.inl (E.2.1 0, 2304, .inl (fun _ => 0))])) h rfl rfl (fun _ _ h => h) acw_int (fun c => rfl) (by decide) (by decide) (by decide) rfl rfl (by decide) (by decide) (by decide +kernel) (fun H3 h => ?_)
  refine aw_pf 0 (es' := .inr (6, [.int 0, .ref (a + 1), .ref (a + 2)]) :: ([.inl (E.2.1 0, 9, .inl (fun _ => 0))] ++ [.inl (E.2.1 0, 2304, .inl (fun _ => 0))])) h rfl fFX6_15 rfl hf rfl rfl rfl rfl (by decide +kernel) (fun H4 h => ?_)
  refine aw_vret rfl (by decide) (by decide) (by decide +kernel) ?_
  rw [← hQ]
  refine ⟨rfl, ?_⟩
  exact h
def mX3_init : mt_ := (yX3_init, cX3_init, 1, none, [], { frames := 2, locals := 32, cells := 5, slots := 47 })
theorem ckX3_init : cokI_ mX3_init := ⟨⟨(uw_mem 65 (by decide +kernel) (by decide +kernel)), (uw_mem 30 (by decide +kernel) (by decide +kernel)), by decide +kernel, by decide +kernel⟩, (uw_mem 64 (by decide +kernel) (by decide +kernel)), rfl⟩
theorem nkX3_init : nok_ mX3_init 0 := by decide +kernel
theorem oiX3_3 : Cond.methodLink RX3 3 Lib.objectInit ∈ uw_ := (uw_mem 66 (by decide +kernel) (by decide +kernel))
theorem nwX3_9 : nwk_ RX3 9 5 19 dfX5 := ⟨_, _, tyX5, rfl, tyX5_ok, wkX5, (uw_mem 67 (by decide +kernel) (by decide +kernel)), (uw_mem 68 (by decide +kernel) (by decide +kernel)), (uw_mem 31 (by decide +kernel) (by decide +kernel)), by decide +kernel⟩
theorem ilX3_11 : ilk_ RX3 11 yX5_init := Or.inr ⟨"ArmDuel", List.mem_of_getElem? (i := 69) (by decide +kernel)⟩
theorem fFX3_12 : fpf_ RX3 12 3 0 (.object "ArmDuel$Settings") := ⟨_, _, _, tyX3, rfl, by decide, (uw_mem 176 (by decide +kernel) (by decide +kernel)), wkX3, tyX3_ok, nmX3, rfl, rfl, by decide +kernel⟩
theorem fNX3_18 : fpk_ RX3 18 3 1 (.array .byte) := ⟨_, _, _, tyX3, rfl, by decide, (uw_mem 178 (by decide +kernel) (by decide +kernel)), wkX3, tyX3_ok, nmX3, rfl, by decide +kernel⟩
set_option maxHeartbeats 4000000 in
set_option maxRecDepth 100000 in
theorem nX3_init {E : ev_} {H : Heap} {a : Nat} (hO : exo_ E) (h : nwl_ E H H a [.inr (3, dfX3)]) (hf : ev_fr E a) : sp_ E mX3_init [.ref a] H (po1 (.inl none) (fun Hn => nwl_ E H Hn a (lc_ E a ly_E))) := by
  refine sp_of (by decide +kernel) rfl rfl ?_
  generalize hQ : po1 _ _ = Q
  refine aw_lv (lv' := [(0, .ref a)]) [0] rfl ?_
  have h : nwl_ E H H a (.inr (3, [.null, .null, .int 0, .int 0, .int 0, .int 0, .int 0]) :: []) := h
  refine aw_b (pc' := 1) (lv' := [(0, .ref a)]) (st' := [.ref a]) [(0, .aload_n 0, 1, .null)] (by decide +kernel) rfl ?_
  refine aw_oi oiX3_3 (by decide) (by decide) (by decide +kernel) ?_
  refine aw_b (pc' := 5) (lv' := [(0, .ref a)]) (st' := [.ref a]) [(4, .aload_n 0, 1, .null)] (by decide +kernel) rfl ?_
  refine aw_nc (L := ly_S) (x := a + 1) (k1 := _) (n1 := _) (es' := .inr (3, [.null, .null, .int 0, .int 0, .int 0, .int 0, .int 0]) :: lc_ E (a + 1) ly_S) h nwX3_9 rfl (fun H1 h1 => nX5_init hO h1 (Nat.le_trans hf (Nat.le_add_right _ _))) ckX5_init rfl ilX3_11 nkX5_init (by decide) rfl rfl (Nat.le_of_ble_eq_true rfl) rfl rfl (by decide) (by decide) rfl (by decide +kernel) (by decide +kernel) (by decide +kernel) (fun H1 h => ?_)
  refine aw_pf 0 (es' := .inr (3, [.ref (a + 1), .null, .int 0, .int 0, .int 0, .int 0, .int 0]) :: lc_ E (a + 1) ly_S) h rfl fFX3_12 rfl hf rfl rfl rfl rfl (by decide +kernel) (fun H2 h => ?_)
  refine aw_b (pc' := 17) (lv' := [(0, .ref a)]) (st' := [.int 0, .ref a]) [(15, .aload_n 0, 1, .null), (16, .iconst 0, 1, .int 0)] (by decide +kernel) rfl ?_
  refine aw_na (atype := .byte) (ty := .byte) (t := 1) (N := 0) (x := a + 5) (z := .inl (fun _ => 0)) (es' := .inr (3, [.ref (a + 1), .null, .int 0, .int 0, .int 0, .int 0, .int 0]) :: (lc_ E (a + 1) ly_S ++ [.inl (E.2.1 1, 0, .inl (fun _ => 0))])) h rfl rfl (fun _ _ h => h) acw_byte (fun c => rfl) (by decide) (by decide) (by decide) rfl rfl (by decide) (by decide) (by decide +kernel) (fun H3 h => ?_)
  refine aw_pn 0 (es' := .inr (3, [.ref (a + 1), .ref (a + 5), .int 0, .int 0, .int 0, .int 0, .int 0]) :: (lc_ E (a + 1) ly_S ++ [.inl (E.2.1 1, 0, .inl (fun _ => 0))])) h rfl fNX3_18 hf rfl rfl rfl rfl (by decide +kernel) (fun H4 h => ?_)
  refine aw_vret rfl (by decide) (by decide) (by decide +kernel) ?_
  rw [← hQ]
  refine ⟨rfl, ?_⟩
  exact h
def mX4_init : mt_ := (yX4_init, cX4_init, 1, none, [], { frames := 1, locals := 13, cells := 40, slots := 8194 })
theorem ckX4_init : cokI_ mX4_init := ⟨⟨(uw_mem 340 (by decide +kernel) (by decide +kernel)), (uw_mem 35 (by decide +kernel) (by decide +kernel)), by decide +kernel, by decide +kernel⟩, (uw_mem 339 (by decide +kernel) (by decide +kernel)), rfl⟩
theorem nkX4_init : nok_ mX4_init 0 := by decide +kernel
theorem oiX4_3 : Cond.methodLink RX4 3 Lib.objectInit ∈ uw_ := (uw_mem 341 (by decide +kernel) (by decide +kernel))
theorem clX4_9 : Cond.classLink RX4 9 "[[I" ∈ uw_ := (uw_mem 342 (by decide +kernel) (by decide +kernel))
theorem fFX4_11 : fpf_ RX4 11 4 2 (.array (.array .int)) := ⟨_, _, _, tyX4, rfl, by decide, (uw_mem 347 (by decide +kernel) (by decide +kernel)), wkX4, tyX4_ok, nmX4, rfl, rfl, by decide +kernel⟩
theorem fFX4_16 : fpf_ RX4 16 4 3 (.array .int) := ⟨_, _, _, tyX4, rfl, by decide, (uw_mem 348 (by decide +kernel) (by decide +kernel)), wkX4, tyX4_ok, nmX4, rfl, rfl, by decide +kernel⟩
theorem fFX4_20 : fpf_ RX4 20 4 4 (.array .int) := ⟨_, _, _, tyX4, rfl, by decide, (uw_mem 350 (by decide +kernel) (by decide +kernel)), wkX4, tyX4_ok, nmX4, rfl, rfl, by decide +kernel⟩
theorem fFX4_23 : fpf_ RX4 23 4 5 (.array .int) := ⟨_, _, _, tyX4, rfl, by decide, (uw_mem 352 (by decide +kernel) (by decide +kernel)), wkX4, tyX4_ok, nmX4, rfl, rfl, by decide +kernel⟩
theorem fFX4_26 : fpf_ RX4 26 4 6 (.array .int) := ⟨_, _, _, tyX4, rfl, by decide, (uw_mem 354 (by decide +kernel) (by decide +kernel)), wkX4, tyX4_ok, nmX4, rfl, rfl, by decide +kernel⟩
theorem fFX4_29 : fpf_ RX4 29 4 7 (.array (.array .int)) := ⟨_, _, _, tyX4, rfl, by decide, (uw_mem 356 (by decide +kernel) (by decide +kernel)), wkX4, tyX4_ok, nmX4, rfl, rfl, by decide +kernel⟩
theorem fFX4_32 : fpf_ RX4 32 4 8 (.array (.array .int)) := ⟨_, _, _, tyX4, rfl, by decide, (uw_mem 358 (by decide +kernel) (by decide +kernel)), wkX4, tyX4_ok, nmX4, rfl, rfl, by decide +kernel⟩
set_option maxHeartbeats 4000000 in
set_option maxRecDepth 100000 in
theorem nX4_init {E : ev_} {H : Heap} {a : Nat} (hO : exo_ E) (h : nwl_ E H H a [.inr (4, dfX4)]) (hf : ev_fr E a) : sp_ E mX4_init [.ref a] H (po1 (.inl none) (fun Hn => nwl_ E H Hn a (lc_ E a ly_R))) := by
  refine sp_of (by decide +kernel) rfl rfl ?_
  generalize hQ : po1 _ _ = Q
  refine aw_lv (lv' := [(0, .ref a)]) [0] rfl ?_
  have h : nwl_ E H H a (.inr (4, [.int 0, .int 0, .null, .null, .null, .null, .null, .null, .null, .int 0, .int 0, .int 0, .int 0, .int 0]) :: []) := h
  refine aw_b (pc' := 1) (lv' := [(0, .ref a)]) (st' := [.ref a]) [(0, .aload_n 0, 1, .null)] (by decide +kernel) rfl ?_
  refine aw_oi oiX4_3 (by decide) (by decide) (by decide +kernel) ?_
  refine aw_b (pc' := 10) (lv' := [(0, .ref a)]) (st' := [.int 1001, .int 7, .ref a]) [(4, .aload_n 0, 1, .null), (5, .bipush 7, 2, .int 7), (7, .sipush 1001, 3, .int 1001)] (by decide +kernel) rfl ?_
  refine aw_mm (N := 7) (K := 1001) (x := a + 1) (f := fun k => if k < 7 then some (a + (1 * k + 2)) else none) (es' := .inr (4, [.int 0, .int 0, .null, .null, .null, .null, .null, .null, .null, .int 0, .int 0, .int 0, .int 0, .int 0]) :: (.inl (E.2.1 7, 7, .inr (.inr (.inr (.inr (fun k => if k < 7 then some (a + (1 * k + 2)) else none))))) :: List.replicate 7 (.inl (E.2.1 0, 1001, .inl (fun _ => 0))))) h hO.2.2.1 clX4_9 acw_int (by decide) (by decide) (by decide) (by decide) (by decide) (by decide) rfl (fun j => by rw [show a + 1 + 1 + j = a + (1 * j + 2) by omega]) rfl (by decide) (by decide) (by decide +kernel) (fun H1 h => ?_)
  refine aw_pf 0 (es' := .inr (4, [.int 0, .int 0, .ref (a + 1), .null, .null, .null, .null, .null, .null, .int 0, .int 0, .int 0, .int 0, .int 0]) :: (.inl (E.2.1 7, 7, .inr (.inr (.inr (.inr (fun k => if k < 7 then some (a + (1 * k + 2)) else none))))) :: List.replicate 7 (.inl (E.2.1 0, 1001, .inl (fun _ => 0))))) h rfl fFX4_11 rfl hf rfl rfl rfl rfl (by decide +kernel) (fun H2 h => ?_)
  refine aw_b (pc' := 21) (lv' := [(0, .ref a)]) (st' := [.int 1000, .ref a]) [(17, .aload_n 0, 1, .null), (18, .sipush 1000, 3, .int 1000)] (by decide +kernel) rfl ?_
  refine aw_na (atype := .int) (ty := .int) (t := 0) (N := 1000) (x := a + 9) (z := .inl (fun _ => 0)) (es' := .inr (4, [.int 0, .int 0, .ref (a + 1), .null, .null, .null, .null, .null, .null, .int 0, .int 0, .int 0, .int 0, .int 0]) :: ((.inl (E.2.1 7, 7, .inr (.inr (.inr (.inr (fun k => if k < 7 then some (a + (1 * k + 2)) else none))))) :: List.replicate 7 (.inl (E.2.1 0, 1001, .inl (fun _ => 0)))) ++ [.inl (E.2.1 0, 1000, .inl (fun _ => 0))])) h rfl rfl (fun _ _ h => h) acw_int (fun c => rfl) (by decide) (by decide) (by decide) rfl rfl (by decide) (by decide) (by decide +kernel) (fun H3 h => ?_)
  refine aw_pf 0 (es' := .inr (4, [.int 0, .int 0, .ref (a + 1), .ref (a + 9), .null, .null, .null, .null, .null, .int 0, .int 0, .int 0, .int 0, .int 0]) :: ((.inl (E.2.1 7, 7, .inr (.inr (.inr (.inr (fun k => if k < 7 then some (a + (1 * k + 2)) else none))))) :: List.replicate 7 (.inl (E.2.1 0, 1001, .inl (fun _ => 0)))) ++ [.inl (E.2.1 0, 1000, .inl (fun _ => 0))])) h rfl fFX4_16 rfl hf rfl rfl rfl rfl (by decide +kernel) (fun H4 h => ?_)
  refine aw_b (pc' := 29) (lv' := [(0, .ref a)]) (st' := [.int 6, .ref a]) [(26, .aload_n 0, 1, .null), (27, .bipush 6, 2, .int 6)] (by decide +kernel) rfl ?_
  refine aw_na (atype := .int) (ty := .int) (t := 0) (N := 6) (x := a + 10) (z := .inl (fun _ => 0)) (es' := .inr (4, [.int 0, .int 0, .ref (a + 1), .ref (a + 9), .null, .null, .null, .null, .null, .int 0, .int 0, .int 0, .int 0, .int 0]) :: (((.inl (E.2.1 7, 7, .inr (.inr (.inr (.inr (fun k => if k < 7 then some (a + (1 * k + 2)) else none))))) :: List.replicate 7 (.inl (E.2.1 0, 1001, .inl (fun _ => 0)))) ++ [.inl (E.2.1 0, 1000, .inl (fun _ => 0))]) ++ [.inl (E.2.1 0, 6, .inl (fun _ => 0))])) h rfl rfl (fun _ _ h => h) acw_int (fun c => rfl) (by decide) (by decide) (by decide) rfl rfl (by decide) (by decide) (by decide +kernel) (fun H5 h => ?_)
  refine aw_pf 0 (es' := .inr (4, [.int 0, .int 0, .ref (a + 1), .ref (a + 9), .ref (a + 10), .null, .null, .null, .null, .int 0, .int 0, .int 0, .int 0, .int 0]) :: (((.inl (E.2.1 7, 7, .inr (.inr (.inr (.inr (fun k => if k < 7 then some (a + (1 * k + 2)) else none))))) :: List.replicate 7 (.inl (E.2.1 0, 1001, .inl (fun _ => 0)))) ++ [.inl (E.2.1 0, 1000, .inl (fun _ => 0))]) ++ [.inl (E.2.1 0, 6, .inl (fun _ => 0))])) h rfl fFX4_20 rfl hf rfl rfl rfl rfl (by decide +kernel) (fun H6 h => ?_)
  refine aw_b (pc' := 37) (lv' := [(0, .ref a)]) (st' := [.int 6, .ref a]) [(34, .aload_n 0, 1, .null), (35, .bipush 6, 2, .int 6)] (by decide +kernel) rfl ?_
  refine aw_na (atype := .int) (ty := .int) (t := 0) (N := 6) (x := a + 11) (z := .inl (fun _ => 0)) (es' := .inr (4, [.int 0, .int 0, .ref (a + 1), .ref (a + 9), .ref (a + 10), .null, .null, .null, .null, .int 0, .int 0, .int 0, .int 0, .int 0]) :: ((((.inl (E.2.1 7, 7, .inr (.inr (.inr (.inr (fun k => if k < 7 then some (a + (1 * k + 2)) else none))))) :: List.replicate 7 (.inl (E.2.1 0, 1001, .inl (fun _ => 0)))) ++ [.inl (E.2.1 0, 1000, .inl (fun _ => 0))]) ++ [.inl (E.2.1 0, 6, .inl (fun _ => 0))]) ++ [.inl (E.2.1 0, 6, .inl (fun _ => 0))])) h rfl rfl (fun _ _ h => h) acw_int (fun c => rfl) (by decide) (by decide) (by decide) rfl rfl (by decide) (by decide) (by decide +kernel) (fun H7 h => ?_)
  refine aw_pf 0 (es' := .inr (4, [.int 0, .int 0, .ref (a + 1), .ref (a + 9), .ref (a + 10), .ref (a + 11), .null, .null, .null, .int 0, .int 0, .int 0, .int 0, .int 0]) :: ((((.inl (E.2.1 7, 7, .inr (.inr (.inr (.inr (fun k => if k < 7 then some (a + (1 * k + 2)) else none))))) :: List.replicate 7 (.inl (E.2.1 0, 1001, .inl (fun _ => 0)))) ++ [.inl (E.2.1 0, 1000, .inl (fun _ => 0))]) ++ [.inl (E.2.1 0, 6, .inl (fun _ => 0))]) ++ [.inl (E.2.1 0, 6, .inl (fun _ => 0))])) h rfl fFX4_23 rfl hf rfl rfl rfl rfl (by decide +kernel) (fun H8 h => ?_)
  refine aw_b (pc' := 45) (lv' := [(0, .ref a)]) (st' := [.int 6, .ref a]) [(42, .aload_n 0, 1, .null), (43, .bipush 6, 2, .int 6)] (by decide +kernel) rfl ?_
  refine aw_na (atype := .int) (ty := .int) (t := 0) (N := 6) (x := a + 12) (z := .inl (fun _ => 0)) (es' := .inr (4, [.int 0, .int 0, .ref (a + 1), .ref (a + 9), .ref (a + 10), .ref (a + 11), .null, .null, .null, .int 0, .int 0, .int 0, .int 0, .int 0]) :: (((((.inl (E.2.1 7, 7, .inr (.inr (.inr (.inr (fun k => if k < 7 then some (a + (1 * k + 2)) else none))))) :: List.replicate 7 (.inl (E.2.1 0, 1001, .inl (fun _ => 0)))) ++ [.inl (E.2.1 0, 1000, .inl (fun _ => 0))]) ++ [.inl (E.2.1 0, 6, .inl (fun _ => 0))]) ++ [.inl (E.2.1 0, 6, .inl (fun _ => 0))]) ++ [.inl (E.2.1 0, 6, .inl (fun _ => 0))])) h rfl rfl (fun _ _ h => h) acw_int (fun c => rfl) (by decide) (by decide) (by decide) rfl rfl (by decide) (by decide) (by decide +kernel) (fun H9 h => ?_)
  refine aw_pf 0 (es' := .inr (4, [.int 0, .int 0, .ref (a + 1), .ref (a + 9), .ref (a + 10), .ref (a + 11), .ref (a + 12), .null, .null, .int 0, .int 0, .int 0, .int 0, .int 0]) :: (((((.inl (E.2.1 7, 7, .inr (.inr (.inr (.inr (fun k => if k < 7 then some (a + (1 * k + 2)) else none))))) :: List.replicate 7 (.inl (E.2.1 0, 1001, .inl (fun _ => 0)))) ++ [.inl (E.2.1 0, 1000, .inl (fun _ => 0))]) ++ [.inl (E.2.1 0, 6, .inl (fun _ => 0))]) ++ [.inl (E.2.1 0, 6, .inl (fun _ => 0))]) ++ [.inl (E.2.1 0, 6, .inl (fun _ => 0))])) h rfl fFX4_26 rfl hf rfl rfl rfl rfl (by decide +kernel) (fun H10 h => ?_)
  refine aw_b (pc' := 55) (lv' := [(0, .ref a)]) (st' := [.int 6, .int 6, .ref a]) [(50, .aload_n 0, 1, .null), (51, .bipush 6, 2, .int 6), (53, .bipush 6, 2, .int 6)] (by decide +kernel) rfl ?_
  refine aw_mm (N := 6) (K := 6) (x := a + 13) (f := fun k => if k < 6 then some (a + (1 * k + 14)) else none) (es' := .inr (4, [.int 0, .int 0, .ref (a + 1), .ref (a + 9), .ref (a + 10), .ref (a + 11), .ref (a + 12), .null, .null, .int 0, .int 0, .int 0, .int 0, .int 0]) :: ((((((.inl (E.2.1 7, 7, .inr (.inr (.inr (.inr (fun k => if k < 7 then some (a + (1 * k + 2)) else none))))) :: List.replicate 7 (.inl (E.2.1 0, 1001, .inl (fun _ => 0)))) ++ [.inl (E.2.1 0, 1000, .inl (fun _ => 0))]) ++ [.inl (E.2.1 0, 6, .inl (fun _ => 0))]) ++ [.inl (E.2.1 0, 6, .inl (fun _ => 0))]) ++ [.inl (E.2.1 0, 6, .inl (fun _ => 0))]) ++ (.inl (E.2.1 7, 6, .inr (.inr (.inr (.inr (fun k => if k < 6 then some (a + (1 * k + 14)) else none))))) :: List.replicate 6 (.inl (E.2.1 0, 6, .inl (fun _ => 0)))))) h hO.2.2.1 clX4_9 acw_int (by decide) (by decide) (by decide) (by decide) (by decide) (by decide) rfl (fun j => by rw [show a + 13 + 1 + j = a + (1 * j + 14) by omega]) rfl (by decide) (by decide) (by decide +kernel) (fun H11 h => ?_)
  refine aw_pf 0 (es' := .inr (4, [.int 0, .int 0, .ref (a + 1), .ref (a + 9), .ref (a + 10), .ref (a + 11), .ref (a + 12), .ref (a + 13), .null, .int 0, .int 0, .int 0, .int 0, .int 0]) :: ((((((.inl (E.2.1 7, 7, .inr (.inr (.inr (.inr (fun k => if k < 7 then some (a + (1 * k + 2)) else none))))) :: List.replicate 7 (.inl (E.2.1 0, 1001, .inl (fun _ => 0)))) ++ [.inl (E.2.1 0, 1000, .inl (fun _ => 0))]) ++ [.inl (E.2.1 0, 6, .inl (fun _ => 0))]) ++ [.inl (E.2.1 0, 6, .inl (fun _ => 0))]) ++ [.inl (E.2.1 0, 6, .inl (fun _ => 0))]) ++ (.inl (E.2.1 7, 6, .inr (.inr (.inr (.inr (fun k => if k < 6 then some (a + (1 * k + 14)) else none))))) :: List.replicate 6 (.inl (E.2.1 0, 6, .inl (fun _ => 0)))))) h rfl fFX4_29 rfl hf rfl rfl rfl rfl (by decide +kernel) (fun H12 h => ?_)
  refine aw_b (pc' := 66) (lv' := [(0, .ref a)]) (st' := [.int 5, .int 20, .ref a]) [(62, .aload_n 0, 1, .null), (63, .bipush 20, 2, .int 20), (65, .iconst 5, 1, .int 5)] (by decide +kernel) rfl ?_
  refine aw_mm (N := 20) (K := 5) (x := a + 20) (f := fun k => if k < 20 then some (a + (1 * k + 21)) else none) (es' := .inr (4, [.int 0, .int 0, .ref (a + 1), .ref (a + 9), .ref (a + 10), .ref (a + 11), .ref (a + 12), .ref (a + 13), .null, .int 0, .int 0, .int 0, .int 0, .int 0]) :: (((((((.inl (E.2.1 7, 7, .inr (.inr (.inr (.inr (fun k => if k < 7 then some (a + (1 * k + 2)) else none))))) :: List.replicate 7 (.inl (E.2.1 0, 1001, .inl (fun _ => 0)))) ++ [.inl (E.2.1 0, 1000, .inl (fun _ => 0))]) ++ [.inl (E.2.1 0, 6, .inl (fun _ => 0))]) ++ [.inl (E.2.1 0, 6, .inl (fun _ => 0))]) ++ [.inl (E.2.1 0, 6, .inl (fun _ => 0))]) ++ (.inl (E.2.1 7, 6, .inr (.inr (.inr (.inr (fun k => if k < 6 then some (a + (1 * k + 14)) else none))))) :: List.replicate 6 (.inl (E.2.1 0, 6, .inl (fun _ => 0))))) ++ (.inl (E.2.1 7, 20, .inr (.inr (.inr (.inr (fun k => if k < 20 then some (a + (1 * k + 21)) else none))))) :: List.replicate 20 (.inl (E.2.1 0, 5, .inl (fun _ => 0)))))) h hO.2.2.1 clX4_9 acw_int (by decide) (by decide) (by decide) (by decide) (by decide) (by decide) rfl (fun j => by rw [show a + 20 + 1 + j = a + (1 * j + 21) by omega]) rfl (by decide) (by decide) (by decide +kernel) (fun H13 h => ?_)
  refine aw_pf 0 (es' := .inr (4, [.int 0, .int 0, .ref (a + 1), .ref (a + 9), .ref (a + 10), .ref (a + 11), .ref (a + 12), .ref (a + 13), .ref (a + 20), .int 0, .int 0, .int 0, .int 0, .int 0]) :: (((((((.inl (E.2.1 7, 7, .inr (.inr (.inr (.inr (fun k => if k < 7 then some (a + (1 * k + 2)) else none))))) :: List.replicate 7 (.inl (E.2.1 0, 1001, .inl (fun _ => 0)))) ++ [.inl (E.2.1 0, 1000, .inl (fun _ => 0))]) ++ [.inl (E.2.1 0, 6, .inl (fun _ => 0))]) ++ [.inl (E.2.1 0, 6, .inl (fun _ => 0))]) ++ [.inl (E.2.1 0, 6, .inl (fun _ => 0))]) ++ (.inl (E.2.1 7, 6, .inr (.inr (.inr (.inr (fun k => if k < 6 then some (a + (1 * k + 14)) else none))))) :: List.replicate 6 (.inl (E.2.1 0, 6, .inl (fun _ => 0))))) ++ (.inl (E.2.1 7, 20, .inr (.inr (.inr (.inr (fun k => if k < 20 then some (a + (1 * k + 21)) else none))))) :: List.replicate 20 (.inl (E.2.1 0, 5, .inl (fun _ => 0)))))) h rfl fFX4_32 rfl hf rfl rfl rfl rfl (by decide +kernel) (fun H14 h => ?_)
  refine aw_vret rfl (by decide) (by decide) (by decide +kernel) ?_
  rw [← hQ]
  refine ⟨rfl, ?_⟩
  exact h
/-- the array of the own arms, k of them made -/
def gk_ (a k : Nat) : Nat → Option Nat := fun j => if j < k then some (a + (3 * j + 15)) else none
theorem gk_up (a k : Nat) : up_ (gk_ a k) k (some (a + (3 * k + 15))) = gk_ a (k + 1) := by
  funext j
  unfold up_ gk_
  by_cases h : j = k
  · subst h
    rw [if_pos rfl, if_pos (Nat.lt_succ_self j)]
  · rw [if_neg h]
    by_cases h2 : j < k
    · rw [if_pos h2, if_pos (by omega)]
    · rw [if_neg h2, if_neg (by omega)]
theorem gk_0 (a : Nat) : (fun _ => none) = gk_ a 0 := by
  funext j
  exact (if_neg (Nat.not_lt_zero j)).symm
def mX1_init : mt_ := (yX1_init, cX1_init, 2, none, [], { frames := 2, locals := 32, cells := 32, slots := 675 })
theorem ckX1_init : cokI_ mX1_init := ⟨⟨(uw_mem 211 (by decide +kernel) (by decide +kernel)), (uw_mem 33 (by decide +kernel) (by decide +kernel)), by decide +kernel, by decide +kernel⟩, (uw_mem 210 (by decide +kernel) (by decide +kernel)), rfl⟩
theorem nkX1_init : nok_ mX1_init 0 := by decide +kernel
theorem oiX1_3 : Cond.methodLink RX1 3 Lib.objectInit ∈ uw_ := (uw_mem 212 (by decide +kernel) (by decide +kernel))
theorem nwX1_9 : nwk_ RX1 9 5 19 dfX5 := ⟨_, _, tyX5, rfl, tyX5_ok, wkX5, (uw_mem 213 (by decide +kernel) (by decide +kernel)), (uw_mem 68 (by decide +kernel) (by decide +kernel)), (uw_mem 31 (by decide +kernel) (by decide +kernel)), by decide +kernel⟩
theorem ilX1_11 : ilk_ RX1 11 yX5_init := Or.inr ⟨"ArmDuel", List.mem_of_getElem? (i := 214) (by decide +kernel)⟩
theorem fFX1_12 : fpf_ RX1 12 1 0 (.object "ArmDuel$Settings") := ⟨_, _, _, tyX1, rfl, by decide, (uw_mem 279 (by decide +kernel) (by decide +kernel)), wkX1, tyX1_ok, nmX1, rfl, rfl, by decide +kernel⟩
theorem nwX1_18 : nwk_ RX1 18 0 12 dfX0 := ⟨_, _, tyX0, rfl, tyX0_ok, wkX0, (uw_mem 215 (by decide +kernel) (by decide +kernel)), (uw_mem 216 (by decide +kernel) (by decide +kernel)), (uw_mem 34 (by decide +kernel) (by decide +kernel)), by decide +kernel⟩
theorem ilX1_20 : ilk_ RX1 20 yX0_init := Or.inr ⟨"ArmDuel", List.mem_of_getElem? (i := 217) (by decide +kernel)⟩
theorem fFX1_21 : fpf_ RX1 21 1 1 (.object "ArmDuel$Arm") := ⟨_, _, _, tyX1, rfl, by decide, (uw_mem 282 (by decide +kernel) (by decide +kernel)), wkX1, tyX1_ok, nmX1, rfl, rfl, by decide +kernel⟩
theorem fFX1_25 : fpf_ RX1 25 1 2 (.object "ArmDuel$Arm") := ⟨_, _, _, tyX1, rfl, by decide, (uw_mem 285 (by decide +kernel) (by decide +kernel)), wkX1, tyX1_ok, nmX1, rfl, rfl, by decide +kernel⟩
theorem clX1_18 : Cond.classLink RX1 18 "ArmDuel$Arm" ∈ uw_ := (uw_mem 215 (by decide +kernel) (by decide +kernel))
theorem fFX1_28 : fpf_ RX1 28 1 3 (.array (.object "ArmDuel$Arm")) := ⟨_, _, _, tyX1, rfl, by decide, (uw_mem 288 (by decide +kernel) (by decide +kernel)), wkX1, tyX1_ok, nmX1, rfl, rfl, by decide +kernel⟩
theorem fFX1_32 : fpf_ RX1 32 1 4 (.array .int) := ⟨_, _, _, tyX1, rfl, by decide, (uw_mem 290 (by decide +kernel) (by decide +kernel)), wkX1, tyX1_ok, nmX1, rfl, rfl, by decide +kernel⟩
theorem fFX1_36 : fpf_ RX1 36 1 5 (.array .int) := ⟨_, _, _, tyX1, rfl, by decide, (uw_mem 292 (by decide +kernel) (by decide +kernel)), wkX1, tyX1_ok, nmX1, rfl, rfl, by decide +kernel⟩
theorem fFX1_39 : fpf_ RX1 39 1 6 (.array .int) := ⟨_, _, _, tyX1, rfl, by decide, (uw_mem 294 (by decide +kernel) (by decide +kernel)), wkX1, tyX1_ok, nmX1, rfl, rfl, by decide +kernel⟩
theorem gFX1_28 : fok_ RX1 28 1 3 := ⟨_, _, _, rfl, by decide, (uw_mem 288 (by decide +kernel) (by decide +kernel)), wkX1⟩
set_option maxHeartbeats 4000000 in
theorem own_it {E : ev_} {H0 H : Heap} {a k n1 n2 : Nat} {Q : po_} {es es' : List va_E} {fs : List Value} (hO : exo_ E) (hf : ev_fr E a) (h : nwl_ E H0 H a es) (h0 : es[0]? = some (.inr (1, fs))) (hfs : fs[3]? = some (.ref (a + 11))) (h11 : es[11]? = some (.inl (E.2.1 5, 6, .inr (.inr (.inr (.inr (gk_ a k))))))) (hl : es.length = 3 * k + 15) (hk : k < 6) (hc : n1 + 3 ≤ 32) (hs : n2 + 52 ≤ 675) (he : (es ++ lc_ E (a + (3 * k + 15)) ly_A).set 11 (.inl (E.2.1 5, 6, .inr (.inr (.inr (.inr (gk_ a (k + 1))))))) = es')
    (kk : ∀ H1 : Heap, nwl_ E H0 H1 a es' → aw E mX1_init Q 72 [(1, .int (nI (k + 1))), (0, .ref a)] [] H1 (n1 + 3) (n2 + 52)) : aw E mX1_init Q 72 [(1, .int (nI k)), (0, .ref a)] [] H n1 n2 := by
  subst he
  refine aw_b (pc' := 74) (lv' := [(1, .int (nI k)), (0, .ref a)]) (st' := [.ref a, .int (nI k)]) [(72, .iload_n 1, 1, .null), (73, .aload_n 0, 1, .null)] (by decide +kernel) rfl ?_
  refine aw_gn 0 h h0 gFX1_28 hfs (by decide +kernel) ?_
  refine aw_alen (x := .inl (E.2.1 5, 6, .inr (.inr (.inr (.inr (gk_ a k)))))) (ty := .object "ArmDuel$Arm") rfl (h.2.2 11 _ h11) (v := 6) rfl (by decide +kernel) ?_
  refine aw_ic_ge (off := 22) 100 rfl (by decide +kernel) (fun hge => absurd hge (nI_ge (a := k) (b := 6) hk (by omega))) (fun _ => ?_)
  refine aw_b (pc' := 82) (lv' := [(1, .int (nI k)), (0, .ref a)]) (st' := [.ref a]) [(81, .aload_n 0, 1, .null)] (by decide +kernel) rfl ?_
  refine aw_gn 0 h h0 gFX1_28 hfs (by decide +kernel) ?_
  refine aw_b (pc' := 86) (lv' := [(1, .int (nI k)), (0, .ref a)]) (st' := [.int (nI k), .ref (a + 11)]) [(85, .iload_n 1, 1, .null)] (by decide +kernel) rfl ?_
  refine aw_nc (L := ly_A) (x := a + (3 * k + 15)) (k1 := n1 + 3) (n1 := n2 + 52) (es' := es ++ lc_ E (a + (3 * k + 15)) ly_A) h nwX1_18 (by rw [hl]) (fun H1 h1 => nX0_init hO h1 (Nat.le_trans hf (Nat.le_add_right _ _))) ckX0_init rfl ilX1_20 nkX0_init (by decide) rfl rfl (Nat.le_of_ble_eq_true rfl) rfl rfl hc hs rfl (by decide +kernel) (by decide +kernel) (by decide +kernel) (fun H1 h => ?_)
  have e11 : (es ++ lc_ E (a + (3 * k + 15)) ly_A)[11]? = some (.inl (E.2.1 5, 6, .inr (.inr (.inr (.inr (gk_ a k)))))) := by
    rw [List.getElem?_append_left (by omega)]
    exact h11
  have ehd : (es ++ lc_ E (a + (3 * k + 15)) ly_A)[3 * k + 15]? = some (.inr (0, fsX0 (a + (3 * k + 15)) (fun _ => 0))) := by
    rw [List.getElem?_append_right (by omega), hl, Nat.sub_self]
    rfl
  refine aw_ast (i := nI k) (b := a + 11) (y := a + (3 * k + 15)) (h.2.2 11 _ e11) rfl (h.2.2 _ _ ehd) rfl (Nat.le_trans hf (Nat.le_add_right _ _)) (ib_n hk (by omega)) (by decide +kernel) (fun H2 h1 h2 => ?_)
  rw [ix_n (by omega), gk_up] at h1
  have h3 := h.put (List.getElem?_eq_some_iff.mp e11).1 h1 h2
  refine aw_b (pc' := 72) (lv' := [(1, .int (nI k + 1)), (0, .ref a)]) (st' := []) [(94, .iinc 1 1, 3, .int 1), (97, .goto (-25), 3, .null)] (by decide +kernel) rfl ?_
  rw [nI_1]
  exact kk H2 h3
set_option maxHeartbeats 4000000 in
set_option maxRecDepth 100000 in
theorem nX1_init {E : ev_} {H : Heap} {a : Nat} (hO : exo_ E) (h : nwl_ E H H a [.inr (1, dfX1)]) (hf : ev_fr E a) : sp_ E mX1_init [.ref a] H (po1 (.inl none) (fun Hn => nwl_ E H Hn a (lc_ E a ly_D))) := by
  refine sp_of (by decide +kernel) rfl rfl ?_
  generalize hQ : po1 _ _ = Q
  refine aw_lv (lv' := [(0, .ref a)]) [0] rfl ?_
  have h : nwl_ E H H a (.inr (1, [.null, .null, .null, .null, .null, .null, .null, .int 0, .int 0, .int 0, .int 0, .int 0, .int 0, .int 0]) :: []) := h
  refine aw_b (pc' := 1) (lv' := [(0, .ref a)]) (st' := [.ref a]) [(0, .aload_n 0, 1, .null)] (by decide +kernel) rfl ?_
  refine aw_oi oiX1_3 (by decide) (by decide) (by decide +kernel) ?_
  refine aw_b (pc' := 5) (lv' := [(0, .ref a)]) (st' := [.ref a]) [(4, .aload_n 0, 1, .null)] (by decide +kernel) rfl ?_
  refine aw_nc (L := ly_S) (x := a + 1) (k1 := _) (n1 := _) (es' := .inr (1, [.null, .null, .null, .null, .null, .null, .null, .int 0, .int 0, .int 0, .int 0, .int 0, .int 0, .int 0]) :: lc_ E (a + 1) ly_S) h nwX1_9 rfl (fun H1 h1 => nX5_init hO h1 (Nat.le_trans hf (Nat.le_add_right _ _))) ckX5_init rfl ilX1_11 nkX5_init (by decide) rfl rfl (Nat.le_of_ble_eq_true rfl) rfl rfl (by decide) (by decide) rfl (by decide +kernel) (by decide +kernel) (by decide +kernel) (fun H1 h => ?_)
  refine aw_pf 0 (es' := .inr (1, [.ref (a + 1), .null, .null, .null, .null, .null, .null, .int 0, .int 0, .int 0, .int 0, .int 0, .int 0, .int 0]) :: lc_ E (a + 1) ly_S) h rfl fFX1_12 rfl hf rfl rfl rfl rfl (by decide +kernel) (fun H2 h => ?_)
  refine aw_b (pc' := 16) (lv' := [(0, .ref a)]) (st' := [.ref a]) [(15, .aload_n 0, 1, .null)] (by decide +kernel) rfl ?_
  refine aw_nc (L := ly_A) (x := a + 5) (k1 := _) (n1 := _) (es' := .inr (1, [.ref (a + 1), .null, .null, .null, .null, .null, .null, .int 0, .int 0, .int 0, .int 0, .int 0, .int 0, .int 0]) :: (lc_ E (a + 1) ly_S ++ lc_ E (a + 5) ly_A)) h nwX1_18 rfl (fun H1 h1 => nX0_init hO h1 (Nat.le_trans hf (Nat.le_add_right _ _))) ckX0_init rfl ilX1_20 nkX0_init (by decide) rfl rfl (Nat.le_of_ble_eq_true rfl) rfl rfl (by decide) (by decide) rfl (by decide +kernel) (by decide +kernel) (by decide +kernel) (fun H3 h => ?_)
  refine aw_pf 0 (es' := .inr (1, [.ref (a + 1), .ref (a + 5), .null, .null, .null, .null, .null, .int 0, .int 0, .int 0, .int 0, .int 0, .int 0, .int 0]) :: (lc_ E (a + 1) ly_S ++ lc_ E (a + 5) ly_A)) h rfl fFX1_21 rfl hf rfl rfl rfl rfl (by decide +kernel) (fun H4 h => ?_)
  refine aw_b (pc' := 27) (lv' := [(0, .ref a)]) (st' := [.ref a]) [(26, .aload_n 0, 1, .null)] (by decide +kernel) rfl ?_
  refine aw_nc (L := ly_A) (x := a + 8) (k1 := _) (n1 := _) (es' := .inr (1, [.ref (a + 1), .ref (a + 5), .null, .null, .null, .null, .null, .int 0, .int 0, .int 0, .int 0, .int 0, .int 0, .int 0]) :: ((lc_ E (a + 1) ly_S ++ lc_ E (a + 5) ly_A) ++ lc_ E (a + 8) ly_A)) h nwX1_18 rfl (fun H1 h1 => nX0_init hO h1 (Nat.le_trans hf (Nat.le_add_right _ _))) ckX0_init rfl ilX1_20 nkX0_init (by decide) rfl rfl (Nat.le_of_ble_eq_true rfl) rfl rfl (by decide) (by decide) rfl (by decide +kernel) (by decide +kernel) (by decide +kernel) (fun H5 h => ?_)
  refine aw_pf 0 (es' := .inr (1, [.ref (a + 1), .ref (a + 5), .ref (a + 8), .null, .null, .null, .null, .int 0, .int 0, .int 0, .int 0, .int 0, .int 0, .int 0]) :: ((lc_ E (a + 1) ly_S ++ lc_ E (a + 5) ly_A) ++ lc_ E (a + 8) ly_A)) h rfl fFX1_25 rfl hf rfl rfl rfl rfl (by decide +kernel) (fun H6 h => ?_)
  refine aw_b (pc' := 40) (lv' := [(0, .ref a)]) (st' := [.int 6, .ref a]) [(37, .aload_n 0, 1, .null), (38, .bipush 6, 2, .int 6)] (by decide +kernel) rfl ?_
  refine aw_nq (t := 5) (N := 6) (x := a + 11) (es' := .inr (1, [.ref (a + 1), .ref (a + 5), .ref (a + 8), .null, .null, .null, .null, .int 0, .int 0, .int 0, .int 0, .int 0, .int 0, .int 0]) :: (((lc_ E (a + 1) ly_S ++ lc_ E (a + 5) ly_A) ++ lc_ E (a + 8) ly_A) ++ [.inl (E.2.1 5, 6, .inr (.inr (.inr (.inr (gk_ a 0)))))])) h hO.1 rfl clX1_18 (by decide) (by decide) (by decide) rfl (by rw [gk_0 a]; rfl) (by decide) (by decide) (by decide +kernel) (fun H7 h => ?_)
  refine aw_pf 0 (es' := .inr (1, [.ref (a + 1), .ref (a + 5), .ref (a + 8), .ref (a + 11), .null, .null, .null, .int 0, .int 0, .int 0, .int 0, .int 0, .int 0, .int 0]) :: (((lc_ E (a + 1) ly_S ++ lc_ E (a + 5) ly_A) ++ lc_ E (a + 8) ly_A) ++ [.inl (E.2.1 5, 6, .inr (.inr (.inr (.inr (gk_ a 0)))))])) h rfl fFX1_28 rfl hf rfl rfl rfl rfl (by decide +kernel) (fun H8 h => ?_)
  refine aw_b (pc' := 49) (lv' := [(0, .ref a)]) (st' := [.int 6, .ref a]) [(46, .aload_n 0, 1, .null), (47, .bipush 6, 2, .int 6)] (by decide +kernel) rfl ?_
  refine aw_na (atype := .int) (ty := .int) (t := 0) (N := 6) (x := a + 12) (z := .inl (fun _ => 0)) (es' := .inr (1, [.ref (a + 1), .ref (a + 5), .ref (a + 8), .ref (a + 11), .null, .null, .null, .int 0, .int 0, .int 0, .int 0, .int 0, .int 0, .int 0]) :: ((((lc_ E (a + 1) ly_S ++ lc_ E (a + 5) ly_A) ++ lc_ E (a + 8) ly_A) ++ [.inl (E.2.1 5, 6, .inr (.inr (.inr (.inr (gk_ a 0)))))]) ++ [.inl (E.2.1 0, 6, .inl (fun _ => 0))])) h rfl rfl (fun _ _ h => h) acw_int (fun c => rfl) (by decide) (by decide) (by decide) rfl rfl (by decide) (by decide) (by decide +kernel) (fun H9 h => ?_)
  refine aw_pf 0 (es' := .inr (1, [.ref (a + 1), .ref (a + 5), .ref (a + 8), .ref (a + 11), .ref (a + 12), .null, .null, .int 0, .int 0, .int 0, .int 0, .int 0, .int 0, .int 0]) :: ((((lc_ E (a + 1) ly_S ++ lc_ E (a + 5) ly_A) ++ lc_ E (a + 8) ly_A) ++ [.inl (E.2.1 5, 6, .inr (.inr (.inr (.inr (gk_ a 0)))))]) ++ [.inl (E.2.1 0, 6, .inl (fun _ => 0))])) h rfl fFX1_32 rfl hf rfl rfl rfl rfl (by decide +kernel) (fun H10 h => ?_)
  refine aw_b (pc' := 57) (lv' := [(0, .ref a)]) (st' := [.int 100, .ref a]) [(54, .aload_n 0, 1, .null), (55, .bipush 100, 2, .int 100)] (by decide +kernel) rfl ?_
  refine aw_na (atype := .int) (ty := .int) (t := 0) (N := 100) (x := a + 13) (z := .inl (fun _ => 0)) (es' := .inr (1, [.ref (a + 1), .ref (a + 5), .ref (a + 8), .ref (a + 11), .ref (a + 12), .null, .null, .int 0, .int 0, .int 0, .int 0, .int 0, .int 0, .int 0]) :: (((((lc_ E (a + 1) ly_S ++ lc_ E (a + 5) ly_A) ++ lc_ E (a + 8) ly_A) ++ [.inl (E.2.1 5, 6, .inr (.inr (.inr (.inr (gk_ a 0)))))]) ++ [.inl (E.2.1 0, 6, .inl (fun _ => 0))]) ++ [.inl (E.2.1 0, 100, .inl (fun _ => 0))])) h rfl rfl (fun _ _ h => h) acw_int (fun c => rfl) (by decide) (by decide) (by decide) rfl rfl (by decide) (by decide) (by decide +kernel) (fun H11 h => ?_)
  refine aw_pf 0 (es' := .inr (1, [.ref (a + 1), .ref (a + 5), .ref (a + 8), .ref (a + 11), .ref (a + 12), .ref (a + 13), .null, .int 0, .int 0, .int 0, .int 0, .int 0, .int 0, .int 0]) :: (((((lc_ E (a + 1) ly_S ++ lc_ E (a + 5) ly_A) ++ lc_ E (a + 8) ly_A) ++ [.inl (E.2.1 5, 6, .inr (.inr (.inr (.inr (gk_ a 0)))))]) ++ [.inl (E.2.1 0, 6, .inl (fun _ => 0))]) ++ [.inl (E.2.1 0, 100, .inl (fun _ => 0))])) h rfl fFX1_36 rfl hf rfl rfl rfl rfl (by decide +kernel) (fun H12 h => ?_)
  refine aw_b (pc' := 65) (lv' := [(0, .ref a)]) (st' := [.int 100, .ref a]) [(62, .aload_n 0, 1, .null), (63, .bipush 100, 2, .int 100)] (by decide +kernel) rfl ?_
  refine aw_na (atype := .int) (ty := .int) (t := 0) (N := 100) (x := a + 14) (z := .inl (fun _ => 0)) (es' := .inr (1, [.ref (a + 1), .ref (a + 5), .ref (a + 8), .ref (a + 11), .ref (a + 12), .ref (a + 13), .null, .int 0, .int 0, .int 0, .int 0, .int 0, .int 0, .int 0]) :: ((((((lc_ E (a + 1) ly_S ++ lc_ E (a + 5) ly_A) ++ lc_ E (a + 8) ly_A) ++ [.inl (E.2.1 5, 6, .inr (.inr (.inr (.inr (gk_ a 0)))))]) ++ [.inl (E.2.1 0, 6, .inl (fun _ => 0))]) ++ [.inl (E.2.1 0, 100, .inl (fun _ => 0))]) ++ [.inl (E.2.1 0, 100, .inl (fun _ => 0))])) h rfl rfl (fun _ _ h => h) acw_int (fun c => rfl) (by decide) (by decide) (by decide) rfl rfl (by decide) (by decide) (by decide +kernel) (fun H13 h => ?_)
  refine aw_pf 0 (es' := .inr (1, [.ref (a + 1), .ref (a + 5), .ref (a + 8), .ref (a + 11), .ref (a + 12), .ref (a + 13), .ref (a + 14), .int 0, .int 0, .int 0, .int 0, .int 0, .int 0, .int 0]) :: ((((((lc_ E (a + 1) ly_S ++ lc_ E (a + 5) ly_A) ++ lc_ E (a + 8) ly_A) ++ [.inl (E.2.1 5, 6, .inr (.inr (.inr (.inr (gk_ a 0)))))]) ++ [.inl (E.2.1 0, 6, .inl (fun _ => 0))]) ++ [.inl (E.2.1 0, 100, .inl (fun _ => 0))]) ++ [.inl (E.2.1 0, 100, .inl (fun _ => 0))])) h rfl fFX1_39 rfl hf rfl rfl rfl rfl (by decide +kernel) (fun H14 h => ?_)
  refine aw_b (pc' := 72) (lv' := [(1, .int (nI 0)), (0, .ref a)]) (st' := []) [(70, .iconst 0, 1, .int 0), (71, .istore_n 1, 1, .null)] (by decide +kernel) rfl ?_
  refine own_it (es' := .inr (1, [.ref (a + 1), .ref (a + 5), .ref (a + 8), .ref (a + 11), .ref (a + 12), .ref (a + 13), .ref (a + 14), .int 0, .int 0, .int 0, .int 0, .int 0, .int 0, .int 0]) :: (((((((lc_ E (a + 1) ly_S ++ lc_ E (a + 5) ly_A) ++ lc_ E (a + 8) ly_A) ++ [.inl (E.2.1 5, 6, .inr (.inr (.inr (.inr (gk_ a 1)))))]) ++ [.inl (E.2.1 0, 6, .inl (fun _ => 0))]) ++ [.inl (E.2.1 0, 100, .inl (fun _ => 0))]) ++ [.inl (E.2.1 0, 100, .inl (fun _ => 0))]) ++ lc_ E (a + 15) ly_A)) hO hf h rfl rfl rfl rfl (by decide) (by decide) (by decide) rfl (fun H15 h => ?_)
  refine own_it (es' := .inr (1, [.ref (a + 1), .ref (a + 5), .ref (a + 8), .ref (a + 11), .ref (a + 12), .ref (a + 13), .ref (a + 14), .int 0, .int 0, .int 0, .int 0, .int 0, .int 0, .int 0]) :: ((((((((lc_ E (a + 1) ly_S ++ lc_ E (a + 5) ly_A) ++ lc_ E (a + 8) ly_A) ++ [.inl (E.2.1 5, 6, .inr (.inr (.inr (.inr (gk_ a 2)))))]) ++ [.inl (E.2.1 0, 6, .inl (fun _ => 0))]) ++ [.inl (E.2.1 0, 100, .inl (fun _ => 0))]) ++ [.inl (E.2.1 0, 100, .inl (fun _ => 0))]) ++ lc_ E (a + 15) ly_A) ++ lc_ E (a + 18) ly_A)) hO hf h rfl rfl rfl rfl (by decide) (by decide) (by decide) rfl (fun H16 h => ?_)
  refine own_it (es' := .inr (1, [.ref (a + 1), .ref (a + 5), .ref (a + 8), .ref (a + 11), .ref (a + 12), .ref (a + 13), .ref (a + 14), .int 0, .int 0, .int 0, .int 0, .int 0, .int 0, .int 0]) :: (((((((((lc_ E (a + 1) ly_S ++ lc_ E (a + 5) ly_A) ++ lc_ E (a + 8) ly_A) ++ [.inl (E.2.1 5, 6, .inr (.inr (.inr (.inr (gk_ a 3)))))]) ++ [.inl (E.2.1 0, 6, .inl (fun _ => 0))]) ++ [.inl (E.2.1 0, 100, .inl (fun _ => 0))]) ++ [.inl (E.2.1 0, 100, .inl (fun _ => 0))]) ++ lc_ E (a + 15) ly_A) ++ lc_ E (a + 18) ly_A) ++ lc_ E (a + 21) ly_A)) hO hf h rfl rfl rfl rfl (by decide) (by decide) (by decide) rfl (fun H17 h => ?_)
  refine own_it (es' := .inr (1, [.ref (a + 1), .ref (a + 5), .ref (a + 8), .ref (a + 11), .ref (a + 12), .ref (a + 13), .ref (a + 14), .int 0, .int 0, .int 0, .int 0, .int 0, .int 0, .int 0]) :: ((((((((((lc_ E (a + 1) ly_S ++ lc_ E (a + 5) ly_A) ++ lc_ E (a + 8) ly_A) ++ [.inl (E.2.1 5, 6, .inr (.inr (.inr (.inr (gk_ a 4)))))]) ++ [.inl (E.2.1 0, 6, .inl (fun _ => 0))]) ++ [.inl (E.2.1 0, 100, .inl (fun _ => 0))]) ++ [.inl (E.2.1 0, 100, .inl (fun _ => 0))]) ++ lc_ E (a + 15) ly_A) ++ lc_ E (a + 18) ly_A) ++ lc_ E (a + 21) ly_A) ++ lc_ E (a + 24) ly_A)) hO hf h rfl rfl rfl rfl (by decide) (by decide) (by decide) rfl (fun H18 h => ?_)
  refine own_it (es' := .inr (1, [.ref (a + 1), .ref (a + 5), .ref (a + 8), .ref (a + 11), .ref (a + 12), .ref (a + 13), .ref (a + 14), .int 0, .int 0, .int 0, .int 0, .int 0, .int 0, .int 0]) :: (((((((((((lc_ E (a + 1) ly_S ++ lc_ E (a + 5) ly_A) ++ lc_ E (a + 8) ly_A) ++ [.inl (E.2.1 5, 6, .inr (.inr (.inr (.inr (gk_ a 5)))))]) ++ [.inl (E.2.1 0, 6, .inl (fun _ => 0))]) ++ [.inl (E.2.1 0, 100, .inl (fun _ => 0))]) ++ [.inl (E.2.1 0, 100, .inl (fun _ => 0))]) ++ lc_ E (a + 15) ly_A) ++ lc_ E (a + 18) ly_A) ++ lc_ E (a + 21) ly_A) ++ lc_ E (a + 24) ly_A) ++ lc_ E (a + 27) ly_A)) hO hf h rfl rfl rfl rfl (by decide) (by decide) (by decide) rfl (fun H19 h => ?_)
  refine own_it (es' := .inr (1, [.ref (a + 1), .ref (a + 5), .ref (a + 8), .ref (a + 11), .ref (a + 12), .ref (a + 13), .ref (a + 14), .int 0, .int 0, .int 0, .int 0, .int 0, .int 0, .int 0]) :: ((((((((((((lc_ E (a + 1) ly_S ++ lc_ E (a + 5) ly_A) ++ lc_ E (a + 8) ly_A) ++ [.inl (E.2.1 5, 6, .inr (.inr (.inr (.inr (gk_ a 6)))))]) ++ [.inl (E.2.1 0, 6, .inl (fun _ => 0))]) ++ [.inl (E.2.1 0, 100, .inl (fun _ => 0))]) ++ [.inl (E.2.1 0, 100, .inl (fun _ => 0))]) ++ lc_ E (a + 15) ly_A) ++ lc_ E (a + 18) ly_A) ++ lc_ E (a + 21) ly_A) ++ lc_ E (a + 24) ly_A) ++ lc_ E (a + 27) ly_A) ++ lc_ E (a + 30) ly_A)) hO hf h rfl rfl rfl rfl (by decide) (by decide) (by decide) rfl (fun H20 h => ?_)
  refine aw_b (pc' := 74) (lv' := [(1, .int (nI 6)), (0, .ref a)]) (st' := [.ref a, .int (nI 6)]) [(72, .iload_n 1, 1, .null), (73, .aload_n 0, 1, .null)] (by decide +kernel) rfl ?_
  refine aw_gn 0 h rfl gFX1_28 rfl (by decide +kernel) ?_
  refine aw_alen (x := .inl (E.2.1 5, 6, .inr (.inr (.inr (.inr (gk_ a 6)))))) (ty := .object "ArmDuel$Arm") rfl (h.2.2 11 _ rfl) (v := 6) rfl (by decide +kernel) ?_
  refine aw_ic_ge (off := 22) 100 rfl (by decide +kernel) (fun _ => ?_) (fun hlt => absurd (by decide) hlt)
  refine aw_vret rfl (by decide) (by decide) (by decide +kernel) ?_
  rw [← hQ]
  refine ⟨rfl, ?_⟩
  exact h
def mX2_init : mt_ := (yX2_init, cX2_init, 1, none, [], { frames := 3, locals := 53, cells := 74, slots := 8897 })
theorem ckX2_init : cokI_ mX2_init := ⟨⟨(uw_mem 205 (by decide +kernel) (by decide +kernel)), (uw_mem 32 (by decide +kernel) (by decide +kernel)), by decide +kernel, by decide +kernel⟩, (uw_mem 204 (by decide +kernel) (by decide +kernel)), rfl⟩
theorem nkX2_init : nok_ mX2_init 0 := by decide +kernel
theorem oiX2_1 : Cond.methodLink RX2 1 Lib.objectInit ∈ uw_ := (uw_mem 206 (by decide +kernel) (by decide +kernel))
theorem nwX2_7 : nwk_ RX2 7 1 14 dfX1 := ⟨_, _, tyX1, rfl, tyX1_ok, wkX1, (uw_mem 207 (by decide +kernel) (by decide +kernel)), (uw_mem 208 (by decide +kernel) (by decide +kernel)), (uw_mem 33 (by decide +kernel) (by decide +kernel)), by decide +kernel⟩
theorem ilX2_9 : ilk_ RX2 9 yX1_init := Or.inl (uw_mem 209 (by decide +kernel) (by decide +kernel))
theorem fFX2_10 : fpf_ RX2 10 2 0 (.object "ArmDuel$Duel") := ⟨_, _, _, tyX2, rfl, by decide, (uw_mem 397 (by decide +kernel) (by decide +kernel)), wkX2, tyX2_ok, nmX2, rfl, rfl, by decide +kernel⟩
theorem nwX2_16 : nwk_ RX2 16 4 14 dfX4 := ⟨_, _, tyX4, rfl, tyX4_ok, wkX4, (uw_mem 336 (by decide +kernel) (by decide +kernel)), (uw_mem 337 (by decide +kernel) (by decide +kernel)), (uw_mem 35 (by decide +kernel) (by decide +kernel)), by decide +kernel⟩
theorem ilX2_18 : ilk_ RX2 18 yX4_init := Or.inr ⟨"ArmDuel", List.mem_of_getElem? (i := 338) (by decide +kernel)⟩
theorem fFX2_19 : fpf_ RX2 19 2 1 (.object "ArmDuel$Records") := ⟨_, _, _, tyX2, rfl, by decide, (uw_mem 399 (by decide +kernel) (by decide +kernel)), wkX2, tyX2_ok, nmX2, rfl, rfl, by decide +kernel⟩
set_option maxHeartbeats 4000000 in
set_option maxRecDepth 100000 in
theorem nX2_init {E : ev_} {H : Heap} {a : Nat} (hO : exo_ E) (h : nwl_ E H H a [.inr (2, dfX2)]) (hf : ev_fr E a) : sp_ E mX2_init [.ref a] H (po1 (.inl none) (fun Hn => nwl_ E H Hn a (lc_ E a ly_G))) := by
  refine sp_of (by decide +kernel) rfl rfl ?_
  generalize hQ : po1 _ _ = Q
  refine aw_lv (lv' := [(0, .ref a)]) [0] rfl ?_
  have h : nwl_ E H H a (.inr (2, [.null, .null]) :: []) := h
  refine aw_b (pc' := 1) (lv' := [(0, .ref a)]) (st' := [.ref a]) [(0, .aload_n 0, 1, .null)] (by decide +kernel) rfl ?_
  refine aw_oi oiX2_1 (by decide) (by decide) (by decide +kernel) ?_
  refine aw_b (pc' := 5) (lv' := [(0, .ref a)]) (st' := [.ref a]) [(4, .aload_n 0, 1, .null)] (by decide +kernel) rfl ?_
  refine aw_nc (L := ly_D) (x := a + 1) (k1 := _) (n1 := _) (es' := .inr (2, [.null, .null]) :: lc_ E (a + 1) ly_D) h nwX2_7 rfl (fun H1 h1 => nX1_init hO h1 (Nat.le_trans hf (Nat.le_add_right _ _))) ckX1_init rfl ilX2_9 nkX1_init (by decide) rfl rfl (Nat.le_of_ble_eq_true rfl) rfl rfl (by decide) (by decide) rfl (by decide +kernel) (by decide +kernel) (by decide +kernel) (fun H1 h => ?_)
  refine aw_pf 0 (es' := .inr (2, [.ref (a + 1), .null]) :: lc_ E (a + 1) ly_D) h rfl fFX2_10 rfl hf rfl rfl rfl rfl (by decide +kernel) (fun H2 h => ?_)
  refine aw_b (pc' := 16) (lv' := [(0, .ref a)]) (st' := [.ref a]) [(15, .aload_n 0, 1, .null)] (by decide +kernel) rfl ?_
  refine aw_nc (L := ly_R) (x := a + 34) (k1 := _) (n1 := _) (es' := .inr (2, [.ref (a + 1), .null]) :: (lc_ E (a + 1) ly_D ++ lc_ E (a + 34) ly_R)) h nwX2_16 rfl (fun H1 h1 => nX4_init hO h1 (Nat.le_trans hf (Nat.le_add_right _ _))) ckX4_init rfl ilX2_18 nkX4_init (by decide) rfl rfl (Nat.le_of_ble_eq_true rfl) rfl rfl (by decide) (by decide) rfl (by decide +kernel) (by decide +kernel) (by decide +kernel) (fun H3 h => ?_)
  refine aw_pf 0 (es' := .inr (2, [.ref (a + 1), .ref (a + 34)]) :: (lc_ E (a + 1) ly_D ++ lc_ E (a + 34) ly_R)) h rfl fFX2_19 rfl hf rfl rfl rfl rfl (by decide +kernel) (fun H4 h => ?_)
  refine aw_vret rfl (by decide) (by decide) (by decide +kernel) ?_
  rw [← hQ]
  refine ⟨rfl, ?_⟩
  exact h
