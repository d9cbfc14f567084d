/-! the wrappers of the law: printed by wip/whole/gen_86.py -/
def out0_ (E : ev_) (o : Nat) (H : Heap) : Prop := ∃ e z, at_ E H o e ∧ lo_ E z e
def outD_ (E : ev_) (o : Nat) (H : Heap) : Prop := ∃ e z, at_ E H o e ∧ do_ E z e
def hL_setting : hh_ := [(0, 9, 12, 13)]
def mL_setting : mt_ := (yL_setting, cL_setting, 4, some .int, tableOf hL_setting, { frames := 7, locals := 123, cells := 1, slots := 6 })
theorem ckL_setting : Cond.codeWith mL_setting.1 mL_setting.2.1 mL_setting.2.2.1 mL_setting.2.2.2.1 hL_setting ∈ uw_ := (uw_mem 916 (by decide +kernel) (by decide +kernel))
theorem lkL_7 : Cond.methodLink RL 7 yX7_setting ∈ uw_ := (uw_mem 918 (by decide +kernel) (by decide +kernel))
set_option maxHeartbeats 4000000 in
theorem wL_setting {E : ev_} {H : Heap} {x o : Nat} {i0 : Int32} {v : Int32 ⊕ Nat} {P : Heap → Prop} {fs : List Value} (hX : exo_ E) (hs : sp_ E mX7_setting [.ref x, .int i0] H (po1 (thr_ (fun y => some (.int y)) v) P)) (hA : at_ E H x (.inr (7, fs))) (hf : ev_fr E o) (ho : ∀ H1, P H1 → out0_ E o H1) (hv : ∀ c, v = .inr c → g1_ c ≠ 0) : spW_ E mL_setting hL_setting [.ref x, .int i0, .ref o] H (wq_ E o g1_ (fun y => lo_ E y.toInt64) v P) := by
  refine spW_of (by decide +kernel) rfl rfl ?_
  generalize hQ : wq_ E o _ _ _ _ = Q
  refine aw_lv (lv' := [(0, .ref x), (1, .int i0), (2, .ref o)]) [0, 1, 2] rfl ?_
  refine aw_b (pc' := 4) (lv' := [(0, .ref x), (1, .int i0), (2, .ref o)]) (st' := [.int i0, .ref x, .int 0, .ref o]) [(0, .aload_n 2, 1, .null), (1, .iconst 0, 1, .int 0), (2, .aload_n 0, 1, .null), (3, .iload_n 1, 1, .null)] (by decide +kernel) rfl ?_
  refine aw_cc (rest := [.int 0, .ref o]) (L := ly_M) (s := zs_) (u := 1) (u6 := 6) hs rfl ckX7_setting lkL_7 hA ⟨_, _, rfl⟩ nkX7_setting rfl rfl rfl rfl (Nat.le_of_ble_eq_true rfl) (by decide) (by decide) (by decide +kernel) (fun y H1 hv hp => ?_) (fun c H1 hc hp => ?_)
  · obtain ⟨e0, z0, q1, f0, rfl, q2⟩ := ho H1 hp
    show aw E mL_setting Q 7 [(0, .ref x), (1, .int i0), (2, .ref o)] [.int y, .int 0, .ref o] H1 1 6
    refine aw_b (pc' := 8) (lv' := [(0, .ref x), (1, .int i0), (2, .ref o)]) (st' := [.long y.toInt64, .int 0, .ref o]) [(7, .i2l, 1, .null)] (by decide +kernel) rfl ?_
    refine aw_last q1 hf (ib_in (by decide)) (by decide +kernel) (fun H2 w1 w2 => ?_)
    refine aw_b (pc' := 16) (lv' := [(0, .ref x), (1, .int i0), (2, .ref o)]) (st' := [.int 0]) [(9, .goto 6, 3, .null), (15, .iconst 0, 1, .int 0)] (by decide +kernel) rfl ?_
    refine aw_iret rfl (by decide) (by decide) (by decide +kernel) ?_
    subst hv
    rw [← hQ]
    exact ⟨rfl, H1, _, hp, w1, ⟨_, rfl, if_pos rfl⟩, w2⟩
  · have hc0 := hv c hc
    subst hc
    have hz : c ≠ 0 := fun z => by subst z; exact hc0 rfl
    have eg : g1_ c = 1 := if_neg hz
    rw [xn_s hz]
    refine ⟨12, ⟨[], { startPc := 0, endPc := 9, handlerPc := 12, catchType := 13 }, [], "java/lang/IllegalArgumentException", rfl, fun z hz => absurd hz List.not_mem_nil, by decide, by decide, clkL_13, csA, rfl⟩, fun q => ?_⟩
    refine aw_b (pc' := 14) (lv' := (3, .ref q) :: [(0, .ref x), (1, .int i0), (2, .ref o)]) (st' := [.int 1]) [(12, .astore_n 3, 1, .null), (13, .iconst 1, 1, .int 1)] (by decide +kernel) rfl ?_
    refine aw_iret rfl (by decide) (by decide) (by decide +kernel) ?_
    rw [← hQ]
    exact ⟨by rw [eg], hp⟩
def hL_rule : hh_ := [(0, 10, 13, 19), (0, 10, 17, 13)]
def mL_rule : mt_ := (yL_rule, cL_rule, 5, some .int, tableOf hL_rule, { frames := 8, locals := 143, cells := 2, slots := 12 })
theorem ckL_rule : Cond.codeWith mL_rule.1 mL_rule.2.1 mL_rule.2.2.1 mL_rule.2.2.2.1 hL_rule ∈ uw_ := (uw_mem 990 (by decide +kernel) (by decide +kernel))
theorem lkL_15 : Cond.methodLink RL 15 yX7_rule ∈ uw_ := (uw_mem 992 (by decide +kernel) (by decide +kernel))
set_option maxHeartbeats 4000000 in
theorem wL_rule {E : ev_} {H : Heap} {x o : Nat} {i0 : Int32} {i1 : Int32} {v : Int32 ⊕ Nat} {P : Heap → Prop} {fs : List Value} (hX : exo_ E) (hs : sp_ E mX7_rule [.ref x, .int i0, .int i1] H (po1 (thr_ (fun y => some (.int y)) v) P)) (hA : at_ E H x (.inr (7, fs))) (hf : ev_fr E o) (ho : ∀ H1, P H1 → out0_ E o H1) (hv : ∀ c, v = .inr c → g2_ c ≠ 0) : spW_ E mL_rule hL_rule [.ref x, .int i0, .int i1, .ref o] H (wq_ E o g2_ (fun y => lo_ E y.toInt64) v P) := by
  refine spW_of (by decide +kernel) rfl rfl ?_
  generalize hQ : wq_ E o _ _ _ _ = Q
  refine aw_lv (lv' := [(0, .ref x), (1, .int i0), (2, .int i1), (3, .ref o)]) [0, 1, 2, 3] rfl ?_
  refine aw_b (pc' := 5) (lv' := [(0, .ref x), (1, .int i0), (2, .int i1), (3, .ref o)]) (st' := [.int i1, .int i0, .ref x, .int 0, .ref o]) [(0, .aload_n 3, 1, .null), (1, .iconst 0, 1, .int 0), (2, .aload_n 0, 1, .null), (3, .iload_n 1, 1, .null), (4, .iload_n 2, 1, .null)] (by decide +kernel) rfl ?_
  refine aw_cc (rest := [.int 0, .ref o]) (L := ly_M) (s := zs_) (u := 2) (u6 := 12) hs rfl ckX7_rule lkL_15 hA ⟨_, _, rfl⟩ nkX7_rule rfl rfl rfl rfl (Nat.le_of_ble_eq_true rfl) (by decide) (by decide) (by decide +kernel) (fun y H1 hv hp => ?_) (fun c H1 hc hp => ?_)
  · obtain ⟨e0, z0, q1, f0, rfl, q2⟩ := ho H1 hp
    show aw E mL_rule Q 8 [(0, .ref x), (1, .int i0), (2, .int i1), (3, .ref o)] [.int y, .int 0, .ref o] H1 2 12
    refine aw_b (pc' := 9) (lv' := [(0, .ref x), (1, .int i0), (2, .int i1), (3, .ref o)]) (st' := [.long y.toInt64, .int 0, .ref o]) [(8, .i2l, 1, .null)] (by decide +kernel) rfl ?_
    refine aw_last q1 hf (ib_in (by decide)) (by decide +kernel) (fun H2 w1 w2 => ?_)
    refine aw_b (pc' := 22) (lv' := [(0, .ref x), (1, .int i0), (2, .int i1), (3, .ref o)]) (st' := [.int 0]) [(10, .goto 11, 3, .null), (21, .iconst 0, 1, .int 0)] (by decide +kernel) rfl ?_
    refine aw_iret rfl (by decide) (by decide) (by decide +kernel) ?_
    subst hv
    rw [← hQ]
    exact ⟨rfl, H1, _, hp, w1, ⟨_, rfl, if_pos rfl⟩, w2⟩
  · have hc0 := hv c hc
    subst hc
    by_cases hz : c = 0
    · subst hz
      show ∃ hpc, hnd_ E _ _ "java/lang/IndexOutOfBoundsException" hpc ∧ _
      refine ⟨13, ⟨[], { startPc := 0, endPc := 10, handlerPc := 13, catchType := 19 }, [{ startPc := 0, endPc := 10, handlerPc := 17, catchType := 13 }], "java/lang/IndexOutOfBoundsException", rfl, fun z hz => absurd hz List.not_mem_nil, by decide, by decide, clkL_19, csI, rfl⟩, fun q => ?_⟩
      refine aw_b (pc' := 16) (lv' := (4, .ref q) :: [(0, .ref x), (1, .int i0), (2, .int i1), (3, .ref o)]) (st' := [.int 1]) [(13, .astore 4, 2, .null), (15, .iconst 1, 1, .int 1)] (by decide +kernel) rfl ?_
      refine aw_iret rfl (by decide) (by decide) (by decide +kernel) ?_
      rw [← hQ]
      exact ⟨rfl, hp⟩
    · have eg : g2_ c = 2 := if_neg hz
      rw [xn_s hz]
      refine ⟨17, ⟨[{ startPc := 0, endPc := 10, handlerPc := 13, catchType := 19 }], { startPc := 0, endPc := 10, handlerPc := 17, catchType := 13 }, [], "java/lang/IllegalArgumentException", rfl, fun z hz => by
        rw [List.mem_singleton.mp hz]
        exact Or.inr ⟨by decide, _, clkL_19, hX.2.2.2.2⟩, by decide, by decide, clkL_13, csA, rfl⟩, fun q => ?_⟩
      refine aw_b (pc' := 20) (lv' := (4, .ref q) :: [(0, .ref x), (1, .int i0), (2, .int i1), (3, .ref o)]) (st' := [.int 2]) [(17, .astore 4, 2, .null), (19, .iconst 2, 1, .int 2)] (by decide +kernel) rfl ?_
      refine aw_iret rfl (by decide) (by decide) (by decide +kernel) ?_
      rw [← hQ]
      exact ⟨by rw [eg], hp⟩
def hL_request : hh_ := [(0, 9, 12, 13)]
def mL_request : mt_ := (yL_request, cL_request, 4, some .int, tableOf hL_request, { frames := 9, locals := 164, cells := 1, slots := 6 })
theorem ckL_request : Cond.codeWith mL_request.1 mL_request.2.1 mL_request.2.2.1 mL_request.2.2.2.1 hL_request ∈ uw_ := (uw_mem 1022 (by decide +kernel) (by decide +kernel))
theorem lkL_21 : Cond.methodLink RL 21 yX7_request ∈ uw_ := (uw_mem 1023 (by decide +kernel) (by decide +kernel))
set_option maxHeartbeats 4000000 in
theorem wL_request {E : ev_} {H : Heap} {x o : Nat} {i0 : Int32} {v : Int32 ⊕ Nat} {P : Heap → Prop} {fs : List Value} (hX : exo_ E) (hs : sp_ E mX7_request [.ref x, .int i0] H (po1 (thr_ (fun y => some (.int y)) v) P)) (hA : at_ E H x (.inr (7, fs))) (hf : ev_fr E o) (ho : ∀ H1, P H1 → out0_ E o H1) (hv : ∀ c, v = .inr c → g1_ c ≠ 0) : spW_ E mL_request hL_request [.ref x, .int i0, .ref o] H (wq_ E o g1_ (fun y => lo_ E y.toInt64) v P) := by
  refine spW_of (by decide +kernel) rfl rfl ?_
  generalize hQ : wq_ E o _ _ _ _ = Q
  refine aw_lv (lv' := [(0, .ref x), (1, .int i0), (2, .ref o)]) [0, 1, 2] rfl ?_
  refine aw_b (pc' := 4) (lv' := [(0, .ref x), (1, .int i0), (2, .ref o)]) (st' := [.int i0, .ref x, .int 0, .ref o]) [(0, .aload_n 2, 1, .null), (1, .iconst 0, 1, .int 0), (2, .aload_n 0, 1, .null), (3, .iload_n 1, 1, .null)] (by decide +kernel) rfl ?_
  refine aw_cc (rest := [.int 0, .ref o]) (L := ly_M) (s := zs_) (u := 1) (u6 := 6) hs rfl ckX7_request lkL_21 hA ⟨_, _, rfl⟩ nkX7_request rfl rfl rfl rfl (Nat.le_of_ble_eq_true rfl) (by decide) (by decide) (by decide +kernel) (fun y H1 hv hp => ?_) (fun c H1 hc hp => ?_)
  · obtain ⟨e0, z0, q1, f0, rfl, q2⟩ := ho H1 hp
    show aw E mL_request Q 7 [(0, .ref x), (1, .int i0), (2, .ref o)] [.int y, .int 0, .ref o] H1 1 6
    refine aw_b (pc' := 8) (lv' := [(0, .ref x), (1, .int i0), (2, .ref o)]) (st' := [.long y.toInt64, .int 0, .ref o]) [(7, .i2l, 1, .null)] (by decide +kernel) rfl ?_
    refine aw_last q1 hf (ib_in (by decide)) (by decide +kernel) (fun H2 w1 w2 => ?_)
    refine aw_b (pc' := 16) (lv' := [(0, .ref x), (1, .int i0), (2, .ref o)]) (st' := [.int 0]) [(9, .goto 6, 3, .null), (15, .iconst 0, 1, .int 0)] (by decide +kernel) rfl ?_
    refine aw_iret rfl (by decide) (by decide) (by decide +kernel) ?_
    subst hv
    rw [← hQ]
    exact ⟨rfl, H1, _, hp, w1, ⟨_, rfl, if_pos rfl⟩, w2⟩
  · have hc0 := hv c hc
    subst hc
    have hz : c ≠ 0 := fun z => by subst z; exact hc0 rfl
    have eg : g1_ c = 1 := if_neg hz
    rw [xn_s hz]
    refine ⟨12, ⟨[], { startPc := 0, endPc := 9, handlerPc := 12, catchType := 13 }, [], "java/lang/IllegalArgumentException", rfl, fun z hz => absurd hz List.not_mem_nil, by decide, by decide, clkL_13, csA, rfl⟩, fun q => ?_⟩
    refine aw_b (pc' := 14) (lv' := (3, .ref q) :: [(0, .ref x), (1, .int i0), (2, .ref o)]) (st' := [.int 1]) [(12, .astore_n 3, 1, .null), (13, .iconst 1, 1, .int 1)] (by decide +kernel) rfl ?_
    refine aw_iret rfl (by decide) (by decide) (by decide +kernel) ?_
    rw [← hQ]
    exact ⟨by rw [eg], hp⟩
def hL_setFoe : hh_ := [(0, 9, 12, 13)]
def mL_setFoe : mt_ := (yL_setFoe, cL_setFoe, 4, some .int, tableOf hL_setFoe, { frames := 8, locals := 144, cells := 1, slots := 6 })
theorem ckL_setFoe : Cond.codeWith mL_setFoe.1 mL_setFoe.2.1 mL_setFoe.2.2.1 mL_setFoe.2.2.2.1 hL_setFoe ∈ uw_ := (uw_mem 1038 (by decide +kernel) (by decide +kernel))
theorem lkL_24 : Cond.methodLink RL 24 yX7_setFoe ∈ uw_ := (uw_mem 1039 (by decide +kernel) (by decide +kernel))
set_option maxHeartbeats 4000000 in
theorem wL_setFoe {E : ev_} {H : Heap} {x o : Nat} {i0 : Int32} {v : Int32 ⊕ Nat} {P : Heap → Prop} {fs : List Value} (hX : exo_ E) (hs : sp_ E mX7_setFoe [.ref x, .int i0] H (po1 (thr_ (fun y => some (.int y)) v) P)) (hA : at_ E H x (.inr (7, fs))) (hf : ev_fr E o) (ho : ∀ H1, P H1 → out0_ E o H1) (hv : ∀ c, v = .inr c → g1_ c ≠ 0) : spW_ E mL_setFoe hL_setFoe [.ref x, .int i0, .ref o] H (wq_ E o g1_ (fun y => lo_ E y.toInt64) v P) := by
  refine spW_of (by decide +kernel) rfl rfl ?_
  generalize hQ : wq_ E o _ _ _ _ = Q
  refine aw_lv (lv' := [(0, .ref x), (1, .int i0), (2, .ref o)]) [0, 1, 2] rfl ?_
  refine aw_b (pc' := 4) (lv' := [(0, .ref x), (1, .int i0), (2, .ref o)]) (st' := [.int i0, .ref x, .int 0, .ref o]) [(0, .aload_n 2, 1, .null), (1, .iconst 0, 1, .int 0), (2, .aload_n 0, 1, .null), (3, .iload_n 1, 1, .null)] (by decide +kernel) rfl ?_
  refine aw_cc (rest := [.int 0, .ref o]) (L := ly_M) (s := zs_) (u := 1) (u6 := 6) hs rfl ckX7_setFoe lkL_24 hA ⟨_, _, rfl⟩ nkX7_setFoe rfl rfl rfl rfl (Nat.le_of_ble_eq_true rfl) (by decide) (by decide) (by decide +kernel) (fun y H1 hv hp => ?_) (fun c H1 hc hp => ?_)
  · obtain ⟨e0, z0, q1, f0, rfl, q2⟩ := ho H1 hp
    show aw E mL_setFoe Q 7 [(0, .ref x), (1, .int i0), (2, .ref o)] [.int y, .int 0, .ref o] H1 1 6
    refine aw_b (pc' := 8) (lv' := [(0, .ref x), (1, .int i0), (2, .ref o)]) (st' := [.long y.toInt64, .int 0, .ref o]) [(7, .i2l, 1, .null)] (by decide +kernel) rfl ?_
    refine aw_last q1 hf (ib_in (by decide)) (by decide +kernel) (fun H2 w1 w2 => ?_)
    refine aw_b (pc' := 16) (lv' := [(0, .ref x), (1, .int i0), (2, .ref o)]) (st' := [.int 0]) [(9, .goto 6, 3, .null), (15, .iconst 0, 1, .int 0)] (by decide +kernel) rfl ?_
    refine aw_iret rfl (by decide) (by decide) (by decide +kernel) ?_
    subst hv
    rw [← hQ]
    exact ⟨rfl, H1, _, hp, w1, ⟨_, rfl, if_pos rfl⟩, w2⟩
  · have hc0 := hv c hc
    subst hc
    have hz : c ≠ 0 := fun z => by subst z; exact hc0 rfl
    have eg : g1_ c = 1 := if_neg hz
    rw [xn_s hz]
    refine ⟨12, ⟨[], { startPc := 0, endPc := 9, handlerPc := 12, catchType := 13 }, [], "java/lang/IllegalArgumentException", rfl, fun z hz => absurd hz List.not_mem_nil, by decide, by decide, clkL_13, csA, rfl⟩, fun q => ?_⟩
    refine aw_b (pc' := 14) (lv' := (3, .ref q) :: [(0, .ref x), (1, .int i0), (2, .ref o)]) (st' := [.int 1]) [(12, .astore_n 3, 1, .null), (13, .iconst 1, 1, .int 1)] (by decide +kernel) rfl ?_
    refine aw_iret rfl (by decide) (by decide) (by decide +kernel) ?_
    rw [← hQ]
    exact ⟨by rw [eg], hp⟩
def hL_setMaster : hh_ := [(0, 10, 13, 13), (0, 10, 17, 19)]
def mL_setMaster : mt_ := (yL_setMaster, cL_setMaster, 5, some .int, tableOf hL_setMaster, { frames := 8, locals := 145, cells := 2, slots := 12 })
theorem ckL_setMaster : Cond.codeWith mL_setMaster.1 mL_setMaster.2.1 mL_setMaster.2.2.1 mL_setMaster.2.2.2.1 hL_setMaster ∈ uw_ := (uw_mem 1045 (by decide +kernel) (by decide +kernel))
theorem lkL_27 : Cond.methodLink RL 27 yX7_setMaster ∈ uw_ := (uw_mem 1046 (by decide +kernel) (by decide +kernel))
set_option maxHeartbeats 4000000 in
theorem wL_setMaster {E : ev_} {H : Heap} {x o : Nat} {i0 : Int32} {i1 : Int32} {v : Int32 ⊕ Nat} {P : Heap → Prop} {fs : List Value} (hX : exo_ E) (hs : sp_ E mX7_setMaster [.ref x, .int i0, .int i1] H (po1 (thr_ (fun y => some (.int y)) v) P)) (hA : at_ E H x (.inr (7, fs))) (hf : ev_fr E o) (ho : ∀ H1, P H1 → out0_ E o H1) (hv : ∀ c, v = .inr c → g3_ c ≠ 0) : spW_ E mL_setMaster hL_setMaster [.ref x, .int i0, .int i1, .ref o] H (wq_ E o g3_ (fun y => lo_ E y.toInt64) v P) := by
  refine spW_of (by decide +kernel) rfl rfl ?_
  generalize hQ : wq_ E o _ _ _ _ = Q
  refine aw_lv (lv' := [(0, .ref x), (1, .int i0), (2, .int i1), (3, .ref o)]) [0, 1, 2, 3] rfl ?_
  refine aw_b (pc' := 5) (lv' := [(0, .ref x), (1, .int i0), (2, .int i1), (3, .ref o)]) (st' := [.int i1, .int i0, .ref x, .int 0, .ref o]) [(0, .aload_n 3, 1, .null), (1, .iconst 0, 1, .int 0), (2, .aload_n 0, 1, .null), (3, .iload_n 1, 1, .null), (4, .iload_n 2, 1, .null)] (by decide +kernel) rfl ?_
  refine aw_cc (rest := [.int 0, .ref o]) (L := ly_M) (s := zs_) (u := 2) (u6 := 12) hs rfl ckX7_setMaster lkL_27 hA ⟨_, _, rfl⟩ nkX7_setMaster rfl rfl rfl rfl (Nat.le_of_ble_eq_true rfl) (by decide) (by decide) (by decide +kernel) (fun y H1 hv hp => ?_) (fun c H1 hc hp => ?_)
  · obtain ⟨e0, z0, q1, f0, rfl, q2⟩ := ho H1 hp
    show aw E mL_setMaster Q 8 [(0, .ref x), (1, .int i0), (2, .int i1), (3, .ref o)] [.int y, .int 0, .ref o] H1 2 12
    refine aw_b (pc' := 9) (lv' := [(0, .ref x), (1, .int i0), (2, .int i1), (3, .ref o)]) (st' := [.long y.toInt64, .int 0, .ref o]) [(8, .i2l, 1, .null)] (by decide +kernel) rfl ?_
    refine aw_last q1 hf (ib_in (by decide)) (by decide +kernel) (fun H2 w1 w2 => ?_)
    refine aw_b (pc' := 22) (lv' := [(0, .ref x), (1, .int i0), (2, .int i1), (3, .ref o)]) (st' := [.int 0]) [(10, .goto 11, 3, .null), (21, .iconst 0, 1, .int 0)] (by decide +kernel) rfl ?_
    refine aw_iret rfl (by decide) (by decide) (by decide +kernel) ?_
    subst hv
    rw [← hQ]
    exact ⟨rfl, H1, _, hp, w1, ⟨_, rfl, if_pos rfl⟩, w2⟩
  · have hc0 := hv c hc
    subst hc
    by_cases hz : c = 0
    · subst hz
      show ∃ hpc, hnd_ E _ _ "java/lang/IndexOutOfBoundsException" hpc ∧ _
      refine ⟨17, ⟨[{ startPc := 0, endPc := 10, handlerPc := 13, catchType := 13 }], { startPc := 0, endPc := 10, handlerPc := 17, catchType := 19 }, [], "java/lang/IndexOutOfBoundsException", rfl, fun z hz => by
        rw [List.mem_singleton.mp hz]
        exact Or.inr ⟨by decide, _, clkL_13, hX.2.2.2.1⟩, by decide, by decide, clkL_19, csI, rfl⟩, fun q => ?_⟩
      refine aw_b (pc' := 20) (lv' := (4, .ref q) :: [(0, .ref x), (1, .int i0), (2, .int i1), (3, .ref o)]) (st' := [.int 2]) [(17, .astore 4, 2, .null), (19, .iconst 2, 1, .int 2)] (by decide +kernel) rfl ?_
      refine aw_iret rfl (by decide) (by decide) (by decide +kernel) ?_
      rw [← hQ]
      exact ⟨rfl, hp⟩
    · have eg : g3_ c = 1 := if_neg hz
      rw [xn_s hz]
      refine ⟨13, ⟨[], { startPc := 0, endPc := 10, handlerPc := 13, catchType := 13 }, [{ startPc := 0, endPc := 10, handlerPc := 17, catchType := 19 }], "java/lang/IllegalArgumentException", rfl, fun z hz => absurd hz List.not_mem_nil, by decide, by decide, clkL_13, csA, rfl⟩, fun q => ?_⟩
      refine aw_b (pc' := 16) (lv' := (4, .ref q) :: [(0, .ref x), (1, .int i0), (2, .int i1), (3, .ref o)]) (st' := [.int 1]) [(13, .astore 4, 2, .null), (15, .iconst 1, 1, .int 1)] (by decide +kernel) rfl ?_
      refine aw_iret rfl (by decide) (by decide) (by decide +kernel) ?_
      rw [← hQ]
      exact ⟨by rw [eg], hp⟩
def hL_setEta : hh_ := [(0, 9, 12, 13)]
def mL_setEta : mt_ := (yL_setEta, cL_setEta, 4, some .int, tableOf hL_setEta, { frames := 8, locals := 144, cells := 1, slots := 6 })
theorem ckL_setEta : Cond.codeWith mL_setEta.1 mL_setEta.2.1 mL_setEta.2.2.1 mL_setEta.2.2.2.1 hL_setEta ∈ uw_ := (uw_mem 1053 (by decide +kernel) (by decide +kernel))
theorem lkL_30 : Cond.methodLink RL 30 yX7_setEta ∈ uw_ := (uw_mem 1054 (by decide +kernel) (by decide +kernel))
set_option maxHeartbeats 4000000 in
theorem wL_setEta {E : ev_} {H : Heap} {x o : Nat} {i0 : Int32} {v : Int32 ⊕ Nat} {P : Heap → Prop} {fs : List Value} (hX : exo_ E) (hs : sp_ E mX7_setEta [.ref x, .int i0] H (po1 (thr_ (fun y => some (.int y)) v) P)) (hA : at_ E H x (.inr (7, fs))) (hf : ev_fr E o) (ho : ∀ H1, P H1 → out0_ E o H1) (hv : ∀ c, v = .inr c → g1_ c ≠ 0) : spW_ E mL_setEta hL_setEta [.ref x, .int i0, .ref o] H (wq_ E o g1_ (fun y => lo_ E y.toInt64) v P) := by
  refine spW_of (by decide +kernel) rfl rfl ?_
  generalize hQ : wq_ E o _ _ _ _ = Q
  refine aw_lv (lv' := [(0, .ref x), (1, .int i0), (2, .ref o)]) [0, 1, 2] rfl ?_
  refine aw_b (pc' := 4) (lv' := [(0, .ref x), (1, .int i0), (2, .ref o)]) (st' := [.int i0, .ref x, .int 0, .ref o]) [(0, .aload_n 2, 1, .null), (1, .iconst 0, 1, .int 0), (2, .aload_n 0, 1, .null), (3, .iload_n 1, 1, .null)] (by decide +kernel) rfl ?_
  refine aw_cc (rest := [.int 0, .ref o]) (L := ly_M) (s := zs_) (u := 1) (u6 := 6) hs rfl ckX7_setEta lkL_30 hA ⟨_, _, rfl⟩ nkX7_setEta rfl rfl rfl rfl (Nat.le_of_ble_eq_true rfl) (by decide) (by decide) (by decide +kernel) (fun y H1 hv hp => ?_) (fun c H1 hc hp => ?_)
  · obtain ⟨e0, z0, q1, f0, rfl, q2⟩ := ho H1 hp
    show aw E mL_setEta Q 7 [(0, .ref x), (1, .int i0), (2, .ref o)] [.int y, .int 0, .ref o] H1 1 6
    refine aw_b (pc' := 8) (lv' := [(0, .ref x), (1, .int i0), (2, .ref o)]) (st' := [.long y.toInt64, .int 0, .ref o]) [(7, .i2l, 1, .null)] (by decide +kernel) rfl ?_
    refine aw_last q1 hf (ib_in (by decide)) (by decide +kernel) (fun H2 w1 w2 => ?_)
    refine aw_b (pc' := 16) (lv' := [(0, .ref x), (1, .int i0), (2, .ref o)]) (st' := [.int 0]) [(9, .goto 6, 3, .null), (15, .iconst 0, 1, .int 0)] (by decide +kernel) rfl ?_
    refine aw_iret rfl (by decide) (by decide) (by decide +kernel) ?_
    subst hv
    rw [← hQ]
    exact ⟨rfl, H1, _, hp, w1, ⟨_, rfl, if_pos rfl⟩, w2⟩
  · have hc0 := hv c hc
    subst hc
    have hz : c ≠ 0 := fun z => by subst z; exact hc0 rfl
    have eg : g1_ c = 1 := if_neg hz
    rw [xn_s hz]
    refine ⟨12, ⟨[], { startPc := 0, endPc := 9, handlerPc := 12, catchType := 13 }, [], "java/lang/IllegalArgumentException", rfl, fun z hz => absurd hz List.not_mem_nil, by decide, by decide, clkL_13, csA, rfl⟩, fun q => ?_⟩
    refine aw_b (pc' := 14) (lv' := (3, .ref q) :: [(0, .ref x), (1, .int i0), (2, .ref o)]) (st' := [.int 1]) [(12, .astore_n 3, 1, .null), (13, .iconst 1, 1, .int 1)] (by decide +kernel) rfl ?_
    refine aw_iret rfl (by decide) (by decide) (by decide +kernel) ?_
    rw [← hQ]
    exact ⟨by rw [eg], hp⟩
def hL_setBudget : hh_ := [(0, 9, 12, 13)]
def mL_setBudget : mt_ := (yL_setBudget, cL_setBudget, 4, some .int, tableOf hL_setBudget, { frames := 8, locals := 144, cells := 1, slots := 6 })
theorem ckL_setBudget : Cond.codeWith mL_setBudget.1 mL_setBudget.2.1 mL_setBudget.2.2.1 mL_setBudget.2.2.2.1 hL_setBudget ∈ uw_ := (uw_mem 1060 (by decide +kernel) (by decide +kernel))
theorem lkL_33 : Cond.methodLink RL 33 yX7_setBudget ∈ uw_ := (uw_mem 1061 (by decide +kernel) (by decide +kernel))
set_option maxHeartbeats 4000000 in
theorem wL_setBudget {E : ev_} {H : Heap} {x o : Nat} {i0 : Int32} {v : Int32 ⊕ Nat} {P : Heap → Prop} {fs : List Value} (hX : exo_ E) (hs : sp_ E mX7_setBudget [.ref x, .int i0] H (po1 (thr_ (fun y => some (.int y)) v) P)) (hA : at_ E H x (.inr (7, fs))) (hf : ev_fr E o) (ho : ∀ H1, P H1 → out0_ E o H1) (hv : ∀ c, v = .inr c → g1_ c ≠ 0) : spW_ E mL_setBudget hL_setBudget [.ref x, .int i0, .ref o] H (wq_ E o g1_ (fun y => lo_ E y.toInt64) v P) := by
  refine spW_of (by decide +kernel) rfl rfl ?_
  generalize hQ : wq_ E o _ _ _ _ = Q
  refine aw_lv (lv' := [(0, .ref x), (1, .int i0), (2, .ref o)]) [0, 1, 2] rfl ?_
  refine aw_b (pc' := 4) (lv' := [(0, .ref x), (1, .int i0), (2, .ref o)]) (st' := [.int i0, .ref x, .int 0, .ref o]) [(0, .aload_n 2, 1, .null), (1, .iconst 0, 1, .int 0), (2, .aload_n 0, 1, .null), (3, .iload_n 1, 1, .null)] (by decide +kernel) rfl ?_
  refine aw_cc (rest := [.int 0, .ref o]) (L := ly_M) (s := zs_) (u := 1) (u6 := 6) hs rfl ckX7_setBudget lkL_33 hA ⟨_, _, rfl⟩ nkX7_setBudget rfl rfl rfl rfl (Nat.le_of_ble_eq_true rfl) (by decide) (by decide) (by decide +kernel) (fun y H1 hv hp => ?_) (fun c H1 hc hp => ?_)
  · obtain ⟨e0, z0, q1, f0, rfl, q2⟩ := ho H1 hp
    show aw E mL_setBudget Q 7 [(0, .ref x), (1, .int i0), (2, .ref o)] [.int y, .int 0, .ref o] H1 1 6
    refine aw_b (pc' := 8) (lv' := [(0, .ref x), (1, .int i0), (2, .ref o)]) (st' := [.long y.toInt64, .int 0, .ref o]) [(7, .i2l, 1, .null)] (by decide +kernel) rfl ?_
    refine aw_last q1 hf (ib_in (by decide)) (by decide +kernel) (fun H2 w1 w2 => ?_)
    refine aw_b (pc' := 16) (lv' := [(0, .ref x), (1, .int i0), (2, .ref o)]) (st' := [.int 0]) [(9, .goto 6, 3, .null), (15, .iconst 0, 1, .int 0)] (by decide +kernel) rfl ?_
    refine aw_iret rfl (by decide) (by decide) (by decide +kernel) ?_
    subst hv
    rw [← hQ]
    exact ⟨rfl, H1, _, hp, w1, ⟨_, rfl, if_pos rfl⟩, w2⟩
  · have hc0 := hv c hc
    subst hc
    have hz : c ≠ 0 := fun z => by subst z; exact hc0 rfl
    have eg : g1_ c = 1 := if_neg hz
    rw [xn_s hz]
    refine ⟨12, ⟨[], { startPc := 0, endPc := 9, handlerPc := 12, catchType := 13 }, [], "java/lang/IllegalArgumentException", rfl, fun z hz => absurd hz List.not_mem_nil, by decide, by decide, clkL_13, csA, rfl⟩, fun q => ?_⟩
    refine aw_b (pc' := 14) (lv' := (3, .ref q) :: [(0, .ref x), (1, .int i0), (2, .ref o)]) (st' := [.int 1]) [(12, .astore_n 3, 1, .null), (13, .iconst 1, 1, .int 1)] (by decide +kernel) rfl ?_
    refine aw_iret rfl (by decide) (by decide) (by decide +kernel) ?_
    rw [← hQ]
    exact ⟨by rw [eg], hp⟩
def hL_setBound : hh_ := [(0, 10, 13, 13)]
def mL_setBound : mt_ := (yL_setBound, cL_setBound, 5, some .int, tableOf hL_setBound, { frames := 8, locals := 145, cells := 2, slots := 12 })
theorem ckL_setBound : Cond.codeWith mL_setBound.1 mL_setBound.2.1 mL_setBound.2.2.1 mL_setBound.2.2.2.1 hL_setBound ∈ uw_ := (uw_mem 1067 (by decide +kernel) (by decide +kernel))
theorem lkL_36 : Cond.methodLink RL 36 yX7_setBound ∈ uw_ := (uw_mem 1068 (by decide +kernel) (by decide +kernel))
set_option maxHeartbeats 4000000 in
theorem wL_setBound {E : ev_} {H : Heap} {x o : Nat} {i0 : Int32} {i1 : Int32} {v : Int32 ⊕ Nat} {P : Heap → Prop} {fs : List Value} (hX : exo_ E) (hs : sp_ E mX7_setBound [.ref x, .int i0, .int i1] H (po1 (thr_ (fun y => some (.int y)) v) P)) (hA : at_ E H x (.inr (7, fs))) (hf : ev_fr E o) (ho : ∀ H1, P H1 → out0_ E o H1) (hv : ∀ c, v = .inr c → g1_ c ≠ 0) : spW_ E mL_setBound hL_setBound [.ref x, .int i0, .int i1, .ref o] H (wq_ E o g1_ (fun y => lo_ E y.toInt64) v P) := by
  refine spW_of (by decide +kernel) rfl rfl ?_
  generalize hQ : wq_ E o _ _ _ _ = Q
  refine aw_lv (lv' := [(0, .ref x), (1, .int i0), (2, .int i1), (3, .ref o)]) [0, 1, 2, 3] rfl ?_
  refine aw_b (pc' := 5) (lv' := [(0, .ref x), (1, .int i0), (2, .int i1), (3, .ref o)]) (st' := [.int i1, .int i0, .ref x, .int 0, .ref o]) [(0, .aload_n 3, 1, .null), (1, .iconst 0, 1, .int 0), (2, .aload_n 0, 1, .null), (3, .iload_n 1, 1, .null), (4, .iload_n 2, 1, .null)] (by decide +kernel) rfl ?_
  refine aw_cc (rest := [.int 0, .ref o]) (L := ly_M) (s := zs_) (u := 2) (u6 := 12) hs rfl ckX7_setBound lkL_36 hA ⟨_, _, rfl⟩ nkX7_setBound rfl rfl rfl rfl (Nat.le_of_ble_eq_true rfl) (by decide) (by decide) (by decide +kernel) (fun y H1 hv hp => ?_) (fun c H1 hc hp => ?_)
  · obtain ⟨e0, z0, q1, f0, rfl, q2⟩ := ho H1 hp
    show aw E mL_setBound Q 8 [(0, .ref x), (1, .int i0), (2, .int i1), (3, .ref o)] [.int y, .int 0, .ref o] H1 2 12
    refine aw_b (pc' := 9) (lv' := [(0, .ref x), (1, .int i0), (2, .int i1), (3, .ref o)]) (st' := [.long y.toInt64, .int 0, .ref o]) [(8, .i2l, 1, .null)] (by decide +kernel) rfl ?_
    refine aw_last q1 hf (ib_in (by decide)) (by decide +kernel) (fun H2 w1 w2 => ?_)
    refine aw_b (pc' := 18) (lv' := [(0, .ref x), (1, .int i0), (2, .int i1), (3, .ref o)]) (st' := [.int 0]) [(10, .goto 7, 3, .null), (17, .iconst 0, 1, .int 0)] (by decide +kernel) rfl ?_
    refine aw_iret rfl (by decide) (by decide) (by decide +kernel) ?_
    subst hv
    rw [← hQ]
    exact ⟨rfl, H1, _, hp, w1, ⟨_, rfl, if_pos rfl⟩, w2⟩
  · have hc0 := hv c hc
    subst hc
    have hz : c ≠ 0 := fun z => by subst z; exact hc0 rfl
    have eg : g1_ c = 1 := if_neg hz
    rw [xn_s hz]
    refine ⟨13, ⟨[], { startPc := 0, endPc := 10, handlerPc := 13, catchType := 13 }, [], "java/lang/IllegalArgumentException", rfl, fun z hz => absurd hz List.not_mem_nil, by decide, by decide, clkL_13, csA, rfl⟩, fun q => ?_⟩
    refine aw_b (pc' := 16) (lv' := (4, .ref q) :: [(0, .ref x), (1, .int i0), (2, .int i1), (3, .ref o)]) (st' := [.int 1]) [(13, .astore 4, 2, .null), (15, .iconst 1, 1, .int 1)] (by decide +kernel) rfl ?_
    refine aw_iret rfl (by decide) (by decide) (by decide +kernel) ?_
    rw [← hQ]
    exact ⟨by rw [eg], hp⟩
def hL_addAsk : hh_ := [(0, 9, 12, 13)]
def mL_addAsk : mt_ := (yL_addAsk, cL_addAsk, 4, some .int, tableOf hL_addAsk, { frames := 9, locals := 165, cells := 1, slots := 6 })
theorem ckL_addAsk : Cond.codeWith mL_addAsk.1 mL_addAsk.2.1 mL_addAsk.2.2.1 mL_addAsk.2.2.2.1 hL_addAsk ∈ uw_ := (uw_mem 1075 (by decide +kernel) (by decide +kernel))
theorem lkL_39 : Cond.methodLink RL 39 yX7_addAsk ∈ uw_ := (uw_mem 1076 (by decide +kernel) (by decide +kernel))
set_option maxHeartbeats 4000000 in
theorem wL_addAsk {E : ev_} {H : Heap} {x o : Nat} {i0 : Int32} {v : Int32 ⊕ Nat} {P : Heap → Prop} {fs : List Value} (hX : exo_ E) (hs : sp_ E mX7_addAsk [.ref x, .int i0] H (po1 (thr_ (fun y => some (.int y)) v) P)) (hA : at_ E H x (.inr (7, fs))) (hf : ev_fr E o) (ho : ∀ H1, P H1 → out0_ E o H1) (hv : ∀ c, v = .inr c → g1_ c ≠ 0) : spW_ E mL_addAsk hL_addAsk [.ref x, .int i0, .ref o] H (wq_ E o g1_ (fun y => lo_ E y.toInt64) v P) := by
  refine spW_of (by decide +kernel) rfl rfl ?_
  generalize hQ : wq_ E o _ _ _ _ = Q
  refine aw_lv (lv' := [(0, .ref x), (1, .int i0), (2, .ref o)]) [0, 1, 2] rfl ?_
  refine aw_b (pc' := 4) (lv' := [(0, .ref x), (1, .int i0), (2, .ref o)]) (st' := [.int i0, .ref x, .int 0, .ref o]) [(0, .aload_n 2, 1, .null), (1, .iconst 0, 1, .int 0), (2, .aload_n 0, 1, .null), (3, .iload_n 1, 1, .null)] (by decide +kernel) rfl ?_
  refine aw_cc (rest := [.int 0, .ref o]) (L := ly_M) (s := zs_) (u := 1) (u6 := 6) hs rfl ckX7_addAsk lkL_39 hA ⟨_, _, rfl⟩ nkX7_addAsk rfl rfl rfl rfl (Nat.le_of_ble_eq_true rfl) (by decide) (by decide) (by decide +kernel) (fun y H1 hv hp => ?_) (fun c H1 hc hp => ?_)
  · obtain ⟨e0, z0, q1, f0, rfl, q2⟩ := ho H1 hp
    show aw E mL_addAsk Q 7 [(0, .ref x), (1, .int i0), (2, .ref o)] [.int y, .int 0, .ref o] H1 1 6
    refine aw_b (pc' := 8) (lv' := [(0, .ref x), (1, .int i0), (2, .ref o)]) (st' := [.long y.toInt64, .int 0, .ref o]) [(7, .i2l, 1, .null)] (by decide +kernel) rfl ?_
    refine aw_last q1 hf (ib_in (by decide)) (by decide +kernel) (fun H2 w1 w2 => ?_)
    refine aw_b (pc' := 16) (lv' := [(0, .ref x), (1, .int i0), (2, .ref o)]) (st' := [.int 0]) [(9, .goto 6, 3, .null), (15, .iconst 0, 1, .int 0)] (by decide +kernel) rfl ?_
    refine aw_iret rfl (by decide) (by decide) (by decide +kernel) ?_
    subst hv
    rw [← hQ]
    exact ⟨rfl, H1, _, hp, w1, ⟨_, rfl, if_pos rfl⟩, w2⟩
  · have hc0 := hv c hc
    subst hc
    have hz : c ≠ 0 := fun z => by subst z; exact hc0 rfl
    have eg : g1_ c = 1 := if_neg hz
    rw [xn_s hz]
    refine ⟨12, ⟨[], { startPc := 0, endPc := 9, handlerPc := 12, catchType := 13 }, [], "java/lang/IllegalArgumentException", rfl, fun z hz => absurd hz List.not_mem_nil, by decide, by decide, clkL_13, csA, rfl⟩, fun q => ?_⟩
    refine aw_b (pc' := 14) (lv' := (3, .ref q) :: [(0, .ref x), (1, .int i0), (2, .ref o)]) (st' := [.int 1]) [(12, .astore_n 3, 1, .null), (13, .iconst 1, 1, .int 1)] (by decide +kernel) rfl ?_
    refine aw_iret rfl (by decide) (by decide) (by decide +kernel) ?_
    rw [← hQ]
    exact ⟨by rw [eg], hp⟩
def hL_arm : hh_ := [(0, 10, 13, 19), (0, 10, 17, 13)]
def mL_arm : mt_ := (yL_arm, cL_arm, 5, some .int, tableOf hL_arm, { frames := 8, locals := 144, cells := 2, slots := 12 })
theorem ckL_arm : Cond.codeWith mL_arm.1 mL_arm.2.1 mL_arm.2.2.1 mL_arm.2.2.2.1 hL_arm ∈ uw_ := (uw_mem 1083 (by decide +kernel) (by decide +kernel))
theorem lkL_42 : Cond.methodLink RL 42 yX7_arm ∈ uw_ := (uw_mem 1084 (by decide +kernel) (by decide +kernel))
set_option maxHeartbeats 4000000 in
theorem wL_arm {E : ev_} {H : Heap} {x o : Nat} {i0 : Int32} {i1 : Int32} {v : Int32 ⊕ Nat} {P : Heap → Prop} {fs : List Value} (hX : exo_ E) (hs : sp_ E mX7_arm [.ref x, .int i0, .int i1] H (po1 (thr_ (fun y => some (.int y)) v) P)) (hA : at_ E H x (.inr (7, fs))) (hf : ev_fr E o) (ho : ∀ H1, P H1 → out0_ E o H1) (hv : ∀ c, v = .inr c → g2_ c ≠ 0) : spW_ E mL_arm hL_arm [.ref x, .int i0, .int i1, .ref o] H (wq_ E o g2_ (fun y => lo_ E y.toInt64) v P) := by
  refine spW_of (by decide +kernel) rfl rfl ?_
  generalize hQ : wq_ E o _ _ _ _ = Q
  refine aw_lv (lv' := [(0, .ref x), (1, .int i0), (2, .int i1), (3, .ref o)]) [0, 1, 2, 3] rfl ?_
  refine aw_b (pc' := 5) (lv' := [(0, .ref x), (1, .int i0), (2, .int i1), (3, .ref o)]) (st' := [.int i1, .int i0, .ref x, .int 0, .ref o]) [(0, .aload_n 3, 1, .null), (1, .iconst 0, 1, .int 0), (2, .aload_n 0, 1, .null), (3, .iload_n 1, 1, .null), (4, .iload_n 2, 1, .null)] (by decide +kernel) rfl ?_
  refine aw_cc (rest := [.int 0, .ref o]) (L := ly_M) (s := zs_) (u := 2) (u6 := 12) hs rfl ckX7_arm lkL_42 hA ⟨_, _, rfl⟩ nkX7_arm rfl rfl rfl rfl (Nat.le_of_ble_eq_true rfl) (by decide) (by decide) (by decide +kernel) (fun y H1 hv hp => ?_) (fun c H1 hc hp => ?_)
  · obtain ⟨e0, z0, q1, f0, rfl, q2⟩ := ho H1 hp
    show aw E mL_arm Q 8 [(0, .ref x), (1, .int i0), (2, .int i1), (3, .ref o)] [.int y, .int 0, .ref o] H1 2 12
    refine aw_b (pc' := 9) (lv' := [(0, .ref x), (1, .int i0), (2, .int i1), (3, .ref o)]) (st' := [.long y.toInt64, .int 0, .ref o]) [(8, .i2l, 1, .null)] (by decide +kernel) rfl ?_
    refine aw_last q1 hf (ib_in (by decide)) (by decide +kernel) (fun H2 w1 w2 => ?_)
    refine aw_b (pc' := 22) (lv' := [(0, .ref x), (1, .int i0), (2, .int i1), (3, .ref o)]) (st' := [.int 0]) [(10, .goto 11, 3, .null), (21, .iconst 0, 1, .int 0)] (by decide +kernel) rfl ?_
    refine aw_iret rfl (by decide) (by decide) (by decide +kernel) ?_
    subst hv
    rw [← hQ]
    exact ⟨rfl, H1, _, hp, w1, ⟨_, rfl, if_pos rfl⟩, w2⟩
  · have hc0 := hv c hc
    subst hc
    by_cases hz : c = 0
    · subst hz
      show ∃ hpc, hnd_ E _ _ "java/lang/IndexOutOfBoundsException" hpc ∧ _
      refine ⟨13, ⟨[], { startPc := 0, endPc := 10, handlerPc := 13, catchType := 19 }, [{ startPc := 0, endPc := 10, handlerPc := 17, catchType := 13 }], "java/lang/IndexOutOfBoundsException", rfl, fun z hz => absurd hz List.not_mem_nil, by decide, by decide, clkL_19, csI, rfl⟩, fun q => ?_⟩
      refine aw_b (pc' := 16) (lv' := (4, .ref q) :: [(0, .ref x), (1, .int i0), (2, .int i1), (3, .ref o)]) (st' := [.int 1]) [(13, .astore 4, 2, .null), (15, .iconst 1, 1, .int 1)] (by decide +kernel) rfl ?_
      refine aw_iret rfl (by decide) (by decide) (by decide +kernel) ?_
      rw [← hQ]
      exact ⟨rfl, hp⟩
    · have eg : g2_ c = 2 := if_neg hz
      rw [xn_s hz]
      refine ⟨17, ⟨[{ startPc := 0, endPc := 10, handlerPc := 13, catchType := 19 }], { startPc := 0, endPc := 10, handlerPc := 17, catchType := 13 }, [], "java/lang/IllegalArgumentException", rfl, fun z hz => by
        rw [List.mem_singleton.mp hz]
        exact Or.inr ⟨by decide, _, clkL_19, hX.2.2.2.2⟩, by decide, by decide, clkL_13, csA, rfl⟩, fun q => ?_⟩
      refine aw_b (pc' := 20) (lv' := (4, .ref q) :: [(0, .ref x), (1, .int i0), (2, .int i1), (3, .ref o)]) (st' := [.int 2]) [(17, .astore 4, 2, .null), (19, .iconst 2, 1, .int 2)] (by decide +kernel) rfl ?_
      refine aw_iret rfl (by decide) (by decide) (by decide +kernel) ?_
      rw [← hQ]
      exact ⟨by rw [eg], hp⟩
def hL_waiting : hh_ := [(0, 12, 15, 19), (0, 12, 19, 13)]
def mL_waiting : mt_ := (yL_waiting, cL_waiting, 6, some .int, tableOf hL_waiting, { frames := 8, locals := 146, cells := 2, slots := 12 })
theorem ckL_waiting : Cond.codeWith mL_waiting.1 mL_waiting.2.1 mL_waiting.2.2.1 mL_waiting.2.2.2.1 hL_waiting ∈ uw_ := (uw_mem 1100 (by decide +kernel) (by decide +kernel))
theorem lkL_45 : Cond.methodLink RL 45 yX7_waiting ∈ uw_ := (uw_mem 1101 (by decide +kernel) (by decide +kernel))
set_option maxHeartbeats 4000000 in
theorem wL_waiting {E : ev_} {H : Heap} {x o : Nat} {i0 : Int32} {i1 : Int32} {i2 : Int32} {v : Int32 ⊕ Nat} {P : Heap → Prop} {fs : List Value} (hX : exo_ E) (hs : sp_ E mX7_waiting [.ref x, .int i0, .int i1, .int i2] H (po1 (thr_ (fun y => some (.int y)) v) P)) (hA : at_ E H x (.inr (7, fs))) (hf : ev_fr E o) (ho : ∀ H1, P H1 → out0_ E o H1) (hv : ∀ c, v = .inr c → g2_ c ≠ 0) : spW_ E mL_waiting hL_waiting [.ref x, .int i0, .int i1, .int i2, .ref o] H (wq_ E o g2_ (fun y => lo_ E y.toInt64) v P) := by
  refine spW_of (by decide +kernel) rfl rfl ?_
  generalize hQ : wq_ E o _ _ _ _ = Q
  refine aw_lv (lv' := [(0, .ref x), (1, .int i0), (2, .int i1), (3, .int i2), (4, .ref o)]) [0, 1, 2, 3, 4] rfl ?_
  refine aw_b (pc' := 7) (lv' := [(0, .ref x), (1, .int i0), (2, .int i1), (3, .int i2), (4, .ref o)]) (st' := [.int i2, .int i1, .int i0, .ref x, .int 0, .ref o]) [(0, .aload 4, 2, .null), (2, .iconst 0, 1, .int 0), (3, .aload_n 0, 1, .null), (4, .iload_n 1, 1, .null), (5, .iload_n 2, 1, .null), (6, .iload_n 3, 1, .null)] (by decide +kernel) rfl ?_
  refine aw_cc (rest := [.int 0, .ref o]) (L := ly_M) (s := zs_) (u := 2) (u6 := 12) hs rfl ckX7_waiting lkL_45 hA ⟨_, _, rfl⟩ nkX7_waiting rfl rfl rfl rfl (Nat.le_of_ble_eq_true rfl) (by decide) (by decide) (by decide +kernel) (fun y H1 hv hp => ?_) (fun c H1 hc hp => ?_)
  · obtain ⟨e0, z0, q1, f0, rfl, q2⟩ := ho H1 hp
    show aw E mL_waiting Q 10 [(0, .ref x), (1, .int i0), (2, .int i1), (3, .int i2), (4, .ref o)] [.int y, .int 0, .ref o] H1 2 12
    refine aw_b (pc' := 11) (lv' := [(0, .ref x), (1, .int i0), (2, .int i1), (3, .int i2), (4, .ref o)]) (st' := [.long y.toInt64, .int 0, .ref o]) [(10, .i2l, 1, .null)] (by decide +kernel) rfl ?_
    refine aw_last q1 hf (ib_in (by decide)) (by decide +kernel) (fun H2 w1 w2 => ?_)
    refine aw_b (pc' := 24) (lv' := [(0, .ref x), (1, .int i0), (2, .int i1), (3, .int i2), (4, .ref o)]) (st' := [.int 0]) [(12, .goto 11, 3, .null), (23, .iconst 0, 1, .int 0)] (by decide +kernel) rfl ?_
    refine aw_iret rfl (by decide) (by decide) (by decide +kernel) ?_
    subst hv
    rw [← hQ]
    exact ⟨rfl, H1, _, hp, w1, ⟨_, rfl, if_pos rfl⟩, w2⟩
  · have hc0 := hv c hc
    subst hc
    by_cases hz : c = 0
    · subst hz
      show ∃ hpc, hnd_ E _ _ "java/lang/IndexOutOfBoundsException" hpc ∧ _
      refine ⟨15, ⟨[], { startPc := 0, endPc := 12, handlerPc := 15, catchType := 19 }, [{ startPc := 0, endPc := 12, handlerPc := 19, catchType := 13 }], "java/lang/IndexOutOfBoundsException", rfl, fun z hz => absurd hz List.not_mem_nil, by decide, by decide, clkL_19, csI, rfl⟩, fun q => ?_⟩
      refine aw_b (pc' := 18) (lv' := (5, .ref q) :: [(0, .ref x), (1, .int i0), (2, .int i1), (3, .int i2), (4, .ref o)]) (st' := [.int 1]) [(15, .astore 5, 2, .null), (17, .iconst 1, 1, .int 1)] (by decide +kernel) rfl ?_
      refine aw_iret rfl (by decide) (by decide) (by decide +kernel) ?_
      rw [← hQ]
      exact ⟨rfl, hp⟩
    · have eg : g2_ c = 2 := if_neg hz
      rw [xn_s hz]
      refine ⟨19, ⟨[{ startPc := 0, endPc := 12, handlerPc := 15, catchType := 19 }], { startPc := 0, endPc := 12, handlerPc := 19, catchType := 13 }, [], "java/lang/IllegalArgumentException", rfl, fun z hz => by
        rw [List.mem_singleton.mp hz]
        exact Or.inr ⟨by decide, _, clkL_19, hX.2.2.2.2⟩, by decide, by decide, clkL_13, csA, rfl⟩, fun q => ?_⟩
      refine aw_b (pc' := 22) (lv' := (5, .ref q) :: [(0, .ref x), (1, .int i0), (2, .int i1), (3, .int i2), (4, .ref o)]) (st' := [.int 2]) [(19, .astore 5, 2, .null), (21, .iconst 2, 1, .int 2)] (by decide +kernel) rfl ?_
      refine aw_iret rfl (by decide) (by decide) (by decide +kernel) ?_
      rw [← hQ]
      exact ⟨by rw [eg], hp⟩
def hL_wouldServe : hh_ := [(0, 10, 13, 19)]
def mL_wouldServe : mt_ := (yL_wouldServe, cL_wouldServe, 5, some .int, tableOf hL_wouldServe, { frames := 8, locals := 146, cells := 2, slots := 12 })
theorem ckL_wouldServe : Cond.codeWith mL_wouldServe.1 mL_wouldServe.2.1 mL_wouldServe.2.2.1 mL_wouldServe.2.2.2.1 hL_wouldServe ∈ uw_ := (uw_mem 1107 (by decide +kernel) (by decide +kernel))
theorem lkL_49 : Cond.methodLink RL 49 yX7_wouldServe ∈ uw_ := (uw_mem 1108 (by decide +kernel) (by decide +kernel))
set_option maxHeartbeats 4000000 in
theorem wL_wouldServe {E : ev_} {H : Heap} {x o : Nat} {i0 : Int32} {i1 : Int32} {v : Int32 ⊕ Nat} {P : Heap → Prop} {fs : List Value} (hX : exo_ E) (hs : sp_ E mX7_wouldServe [.ref x, .int i0, .int i1] H (po1 (thr_ (fun y => some (.int y)) v) P)) (hA : at_ E H x (.inr (7, fs))) (hf : ev_fr E o) (ho : ∀ H1, P H1 → out0_ E o H1) (hv : ∀ c, v = .inr c → g1i_ c ≠ 0) : spW_ E mL_wouldServe hL_wouldServe [.ref x, .int i0, .int i1, .ref o] H (wq_ E o g1i_ (fun y => lo_ E y.toInt64) v P) := by
  refine spW_of (by decide +kernel) rfl rfl ?_
  generalize hQ : wq_ E o _ _ _ _ = Q
  refine aw_lv (lv' := [(0, .ref x), (1, .int i0), (2, .int i1), (3, .ref o)]) [0, 1, 2, 3] rfl ?_
  refine aw_b (pc' := 5) (lv' := [(0, .ref x), (1, .int i0), (2, .int i1), (3, .ref o)]) (st' := [.int i1, .int i0, .ref x, .int 0, .ref o]) [(0, .aload_n 3, 1, .null), (1, .iconst 0, 1, .int 0), (2, .aload_n 0, 1, .null), (3, .iload_n 1, 1, .null), (4, .iload_n 2, 1, .null)] (by decide +kernel) rfl ?_
  refine aw_cc (rest := [.int 0, .ref o]) (L := ly_M) (s := zs_) (u := 2) (u6 := 12) hs rfl ckX7_wouldServe lkL_49 hA ⟨_, _, rfl⟩ nkX7_wouldServe rfl rfl rfl rfl (Nat.le_of_ble_eq_true rfl) (by decide) (by decide) (by decide +kernel) (fun y H1 hv hp => ?_) (fun c H1 hc hp => ?_)
  · obtain ⟨e0, z0, q1, f0, rfl, q2⟩ := ho H1 hp
    show aw E mL_wouldServe Q 8 [(0, .ref x), (1, .int i0), (2, .int i1), (3, .ref o)] [.int y, .int 0, .ref o] H1 2 12
    refine aw_b (pc' := 9) (lv' := [(0, .ref x), (1, .int i0), (2, .int i1), (3, .ref o)]) (st' := [.long y.toInt64, .int 0, .ref o]) [(8, .i2l, 1, .null)] (by decide +kernel) rfl ?_
    refine aw_last q1 hf (ib_in (by decide)) (by decide +kernel) (fun H2 w1 w2 => ?_)
    refine aw_b (pc' := 18) (lv' := [(0, .ref x), (1, .int i0), (2, .int i1), (3, .ref o)]) (st' := [.int 0]) [(10, .goto 7, 3, .null), (17, .iconst 0, 1, .int 0)] (by decide +kernel) rfl ?_
    refine aw_iret rfl (by decide) (by decide) (by decide +kernel) ?_
    subst hv
    rw [← hQ]
    exact ⟨rfl, H1, _, hp, w1, ⟨_, rfl, if_pos rfl⟩, w2⟩
  · have hc0 := hv c hc
    subst hc
    have hz : c = 0 := Decidable.byContradiction (fun z => hc0 (if_neg z))
    subst hz
    show ∃ hpc, hnd_ E _ _ "java/lang/IndexOutOfBoundsException" hpc ∧ _
    refine ⟨13, ⟨[], { startPc := 0, endPc := 10, handlerPc := 13, catchType := 19 }, [], "java/lang/IndexOutOfBoundsException", rfl, fun z hz => absurd hz List.not_mem_nil, by decide, by decide, clkL_19, csI, rfl⟩, fun q => ?_⟩
    refine aw_b (pc' := 16) (lv' := (4, .ref q) :: [(0, .ref x), (1, .int i0), (2, .int i1), (3, .ref o)]) (st' := [.int 1]) [(13, .astore 4, 2, .null), (15, .iconst 1, 1, .int 1)] (by decide +kernel) rfl ?_
    refine aw_iret rfl (by decide) (by decide) (by decide +kernel) ?_
    rw [← hQ]
    exact ⟨rfl, hp⟩
def hL_optimum : hh_ := [(0, 9, 12, 13)]
def mL_optimum : mt_ := (yL_optimum, cL_optimum, 4, some .int, tableOf hL_optimum, { frames := 8, locals := 143, cells := 1, slots := 6 })
theorem ckL_optimum : Cond.codeWith mL_optimum.1 mL_optimum.2.1 mL_optimum.2.2.1 mL_optimum.2.2.2.1 hL_optimum ∈ uw_ := (uw_mem 1115 (by decide +kernel) (by decide +kernel))
theorem lkL_52 : Cond.methodLink RL 52 yX7_optimum ∈ uw_ := (uw_mem 1116 (by decide +kernel) (by decide +kernel))
set_option maxHeartbeats 4000000 in
theorem wL_optimum {E : ev_} {H : Heap} {x o : Nat} {i0 : Int32} {v : Int32 ⊕ Nat} {P : Heap → Prop} {fs : List Value} (hX : exo_ E) (hs : sp_ E mX7_optimum [.ref x, .int i0] H (po1 (thr_ (fun y => some (.int y)) v) P)) (hA : at_ E H x (.inr (7, fs))) (hf : ev_fr E o) (ho : ∀ H1, P H1 → out0_ E o H1) (hv : ∀ c, v = .inr c → g1_ c ≠ 0) : spW_ E mL_optimum hL_optimum [.ref x, .int i0, .ref o] H (wq_ E o g1_ (fun y => lo_ E y.toInt64) v P) := by
  refine spW_of (by decide +kernel) rfl rfl ?_
  generalize hQ : wq_ E o _ _ _ _ = Q
  refine aw_lv (lv' := [(0, .ref x), (1, .int i0), (2, .ref o)]) [0, 1, 2] rfl ?_
  refine aw_b (pc' := 4) (lv' := [(0, .ref x), (1, .int i0), (2, .ref o)]) (st' := [.int i0, .ref x, .int 0, .ref o]) [(0, .aload_n 2, 1, .null), (1, .iconst 0, 1, .int 0), (2, .aload_n 0, 1, .null), (3, .iload_n 1, 1, .null)] (by decide +kernel) rfl ?_
  refine aw_cc (rest := [.int 0, .ref o]) (L := ly_M) (s := zs_) (u := 1) (u6 := 6) hs rfl ckX7_optimum lkL_52 hA ⟨_, _, rfl⟩ nkX7_optimum rfl rfl rfl rfl (Nat.le_of_ble_eq_true rfl) (by decide) (by decide) (by decide +kernel) (fun y H1 hv hp => ?_) (fun c H1 hc hp => ?_)
  · obtain ⟨e0, z0, q1, f0, rfl, q2⟩ := ho H1 hp
    show aw E mL_optimum Q 7 [(0, .ref x), (1, .int i0), (2, .ref o)] [.int y, .int 0, .ref o] H1 1 6
    refine aw_b (pc' := 8) (lv' := [(0, .ref x), (1, .int i0), (2, .ref o)]) (st' := [.long y.toInt64, .int 0, .ref o]) [(7, .i2l, 1, .null)] (by decide +kernel) rfl ?_
    refine aw_last q1 hf (ib_in (by decide)) (by decide +kernel) (fun H2 w1 w2 => ?_)
    refine aw_b (pc' := 16) (lv' := [(0, .ref x), (1, .int i0), (2, .ref o)]) (st' := [.int 0]) [(9, .goto 6, 3, .null), (15, .iconst 0, 1, .int 0)] (by decide +kernel) rfl ?_
    refine aw_iret rfl (by decide) (by decide) (by decide +kernel) ?_
    subst hv
    rw [← hQ]
    exact ⟨rfl, H1, _, hp, w1, ⟨_, rfl, if_pos rfl⟩, w2⟩
  · have hc0 := hv c hc
    subst hc
    have hz : c ≠ 0 := fun z => by subst z; exact hc0 rfl
    have eg : g1_ c = 1 := if_neg hz
    rw [xn_s hz]
    refine ⟨12, ⟨[], { startPc := 0, endPc := 9, handlerPc := 12, catchType := 13 }, [], "java/lang/IllegalArgumentException", rfl, fun z hz => absurd hz List.not_mem_nil, by decide, by decide, clkL_13, csA, rfl⟩, fun q => ?_⟩
    refine aw_b (pc' := 14) (lv' := (3, .ref q) :: [(0, .ref x), (1, .int i0), (2, .ref o)]) (st' := [.int 1]) [(12, .astore_n 3, 1, .null), (13, .iconst 1, 1, .int 1)] (by decide +kernel) rfl ?_
    refine aw_iret rfl (by decide) (by decide) (by decide +kernel) ?_
    rw [← hQ]
    exact ⟨by rw [eg], hp⟩
def hL_optimumAt : hh_ := [(0, 10, 13, 13)]
def mL_optimumAt : mt_ := (yL_optimumAt, cL_optimumAt, 5, some .int, tableOf hL_optimumAt, { frames := 8, locals := 144, cells := 1, slots := 6 })
theorem ckL_optimumAt : Cond.codeWith mL_optimumAt.1 mL_optimumAt.2.1 mL_optimumAt.2.2.1 mL_optimumAt.2.2.2.1 hL_optimumAt ∈ uw_ := (uw_mem 1141 (by decide +kernel) (by decide +kernel))
theorem lkL_55 : Cond.methodLink RL 55 yX7_optimumAt ∈ uw_ := (uw_mem 1142 (by decide +kernel) (by decide +kernel))
set_option maxHeartbeats 4000000 in
theorem wL_optimumAt {E : ev_} {H : Heap} {x o : Nat} {i0 : Int32} {i1 : Int32} {v : Int32 ⊕ Nat} {P : Heap → Prop} {fs : List Value} (hX : exo_ E) (hs : sp_ E mX7_optimumAt [.ref x, .int i0, .int i1] H (po1 (thr_ (fun y => some (.int y)) v) P)) (hA : at_ E H x (.inr (7, fs))) (hf : ev_fr E o) (ho : ∀ H1, P H1 → out0_ E o H1) (hv : ∀ c, v = .inr c → g1_ c ≠ 0) : spW_ E mL_optimumAt hL_optimumAt [.ref x, .int i0, .int i1, .ref o] H (wq_ E o g1_ (fun y => lo_ E y.toInt64) v P) := by
  refine spW_of (by decide +kernel) rfl rfl ?_
  generalize hQ : wq_ E o _ _ _ _ = Q
  refine aw_lv (lv' := [(0, .ref x), (1, .int i0), (2, .int i1), (3, .ref o)]) [0, 1, 2, 3] rfl ?_
  refine aw_b (pc' := 5) (lv' := [(0, .ref x), (1, .int i0), (2, .int i1), (3, .ref o)]) (st' := [.int i1, .int i0, .ref x, .int 0, .ref o]) [(0, .aload_n 3, 1, .null), (1, .iconst 0, 1, .int 0), (2, .aload_n 0, 1, .null), (3, .iload_n 1, 1, .null), (4, .iload_n 2, 1, .null)] (by decide +kernel) rfl ?_
  refine aw_cc (rest := [.int 0, .ref o]) (L := ly_M) (s := zs_) (u := 1) (u6 := 6) hs rfl ckX7_optimumAt lkL_55 hA ⟨_, _, rfl⟩ nkX7_optimumAt rfl rfl rfl rfl (Nat.le_of_ble_eq_true rfl) (by decide) (by decide) (by decide +kernel) (fun y H1 hv hp => ?_) (fun c H1 hc hp => ?_)
  · obtain ⟨e0, z0, q1, f0, rfl, q2⟩ := ho H1 hp
    show aw E mL_optimumAt Q 8 [(0, .ref x), (1, .int i0), (2, .int i1), (3, .ref o)] [.int y, .int 0, .ref o] H1 1 6
    refine aw_b (pc' := 9) (lv' := [(0, .ref x), (1, .int i0), (2, .int i1), (3, .ref o)]) (st' := [.long y.toInt64, .int 0, .ref o]) [(8, .i2l, 1, .null)] (by decide +kernel) rfl ?_
    refine aw_last q1 hf (ib_in (by decide)) (by decide +kernel) (fun H2 w1 w2 => ?_)
    refine aw_b (pc' := 18) (lv' := [(0, .ref x), (1, .int i0), (2, .int i1), (3, .ref o)]) (st' := [.int 0]) [(10, .goto 7, 3, .null), (17, .iconst 0, 1, .int 0)] (by decide +kernel) rfl ?_
    refine aw_iret rfl (by decide) (by decide) (by decide +kernel) ?_
    subst hv
    rw [← hQ]
    exact ⟨rfl, H1, _, hp, w1, ⟨_, rfl, if_pos rfl⟩, w2⟩
  · have hc0 := hv c hc
    subst hc
    have hz : c ≠ 0 := fun z => by subst z; exact hc0 rfl
    have eg : g1_ c = 1 := if_neg hz
    rw [xn_s hz]
    refine ⟨13, ⟨[], { startPc := 0, endPc := 10, handlerPc := 13, catchType := 13 }, [], "java/lang/IllegalArgumentException", rfl, fun z hz => absurd hz List.not_mem_nil, by decide, by decide, clkL_13, csA, rfl⟩, fun q => ?_⟩
    refine aw_b (pc' := 16) (lv' := (4, .ref q) :: [(0, .ref x), (1, .int i0), (2, .int i1), (3, .ref o)]) (st' := [.int 1]) [(13, .astore 4, 2, .null), (15, .iconst 1, 1, .int 1)] (by decide +kernel) rfl ?_
    refine aw_iret rfl (by decide) (by decide) (by decide +kernel) ?_
    rw [← hQ]
    exact ⟨by rw [eg], hp⟩
def hL_served : hh_ := [(0, 10, 13, 13)]
def mL_served : mt_ := (yL_served, cL_served, 5, some .int, tableOf hL_served, { frames := 8, locals := 144, cells := 2, slots := 12 })
theorem ckL_served : Cond.codeWith mL_served.1 mL_served.2.1 mL_served.2.2.1 mL_served.2.2.2.1 hL_served ∈ uw_ := (uw_mem 1152 (by decide +kernel) (by decide +kernel))
theorem lkL_58 : Cond.methodLink RL 58 yX7_served ∈ uw_ := (uw_mem 1153 (by decide +kernel) (by decide +kernel))
set_option maxHeartbeats 4000000 in
theorem wL_served {E : ev_} {H : Heap} {x o : Nat} {i0 : Int32} {i1 : Int32} {v : Int32 ⊕ Nat} {P : Heap → Prop} {fs : List Value} (hX : exo_ E) (hs : sp_ E mX7_served [.ref x, .int i0, .int i1] H (po1 (thr_ (fun y => some (.int y)) v) P)) (hA : at_ E H x (.inr (7, fs))) (hf : ev_fr E o) (ho : ∀ H1, P H1 → out0_ E o H1) (hv : ∀ c, v = .inr c → g1_ c ≠ 0) : spW_ E mL_served hL_served [.ref x, .int i0, .int i1, .ref o] H (wq_ E o g1_ (fun y => lo_ E y.toInt64) v P) := by
  refine spW_of (by decide +kernel) rfl rfl ?_
  generalize hQ : wq_ E o _ _ _ _ = Q
  refine aw_lv (lv' := [(0, .ref x), (1, .int i0), (2, .int i1), (3, .ref o)]) [0, 1, 2, 3] rfl ?_
  refine aw_b (pc' := 5) (lv' := [(0, .ref x), (1, .int i0), (2, .int i1), (3, .ref o)]) (st' := [.int i1, .int i0, .ref x, .int 0, .ref o]) [(0, .aload_n 3, 1, .null), (1, .iconst 0, 1, .int 0), (2, .aload_n 0, 1, .null), (3, .iload_n 1, 1, .null), (4, .iload_n 2, 1, .null)] (by decide +kernel) rfl ?_
  refine aw_cc (rest := [.int 0, .ref o]) (L := ly_M) (s := zs_) (u := 2) (u6 := 12) hs rfl ckX7_served lkL_58 hA ⟨_, _, rfl⟩ nkX7_served rfl rfl rfl rfl (Nat.le_of_ble_eq_true rfl) (by decide) (by decide) (by decide +kernel) (fun y H1 hv hp => ?_) (fun c H1 hc hp => ?_)
  · obtain ⟨e0, z0, q1, f0, rfl, q2⟩ := ho H1 hp
    show aw E mL_served Q 8 [(0, .ref x), (1, .int i0), (2, .int i1), (3, .ref o)] [.int y, .int 0, .ref o] H1 2 12
    refine aw_b (pc' := 9) (lv' := [(0, .ref x), (1, .int i0), (2, .int i1), (3, .ref o)]) (st' := [.long y.toInt64, .int 0, .ref o]) [(8, .i2l, 1, .null)] (by decide +kernel) rfl ?_
    refine aw_last q1 hf (ib_in (by decide)) (by decide +kernel) (fun H2 w1 w2 => ?_)
    refine aw_b (pc' := 18) (lv' := [(0, .ref x), (1, .int i0), (2, .int i1), (3, .ref o)]) (st' := [.int 0]) [(10, .goto 7, 3, .null), (17, .iconst 0, 1, .int 0)] (by decide +kernel) rfl ?_
    refine aw_iret rfl (by decide) (by decide) (by decide +kernel) ?_
    subst hv
    rw [← hQ]
    exact ⟨rfl, H1, _, hp, w1, ⟨_, rfl, if_pos rfl⟩, w2⟩
  · have hc0 := hv c hc
    subst hc
    have hz : c ≠ 0 := fun z => by subst z; exact hc0 rfl
    have eg : g1_ c = 1 := if_neg hz
    rw [xn_s hz]
    refine ⟨13, ⟨[], { startPc := 0, endPc := 10, handlerPc := 13, catchType := 13 }, [], "java/lang/IllegalArgumentException", rfl, fun z hz => absurd hz List.not_mem_nil, by decide, by decide, clkL_13, csA, rfl⟩, fun q => ?_⟩
    refine aw_b (pc' := 16) (lv' := (4, .ref q) :: [(0, .ref x), (1, .int i0), (2, .int i1), (3, .ref o)]) (st' := [.int 1]) [(13, .astore 4, 2, .null), (15, .iconst 1, 1, .int 1)] (by decide +kernel) rfl ?_
    refine aw_iret rfl (by decide) (by decide) (by decide +kernel) ?_
    rw [← hQ]
    exact ⟨by rw [eg], hp⟩
def hL_regret : hh_ := [(0, 9, 12, 13)]
def mL_regret : mt_ := (yL_regret, cL_regret, 4, some .int, tableOf hL_regret, { frames := 7, locals := 122, cells := 1, slots := 6 })
theorem ckL_regret : Cond.codeWith mL_regret.1 mL_regret.2.1 mL_regret.2.2.1 mL_regret.2.2.2.1 hL_regret ∈ uw_ := (uw_mem 1164 (by decide +kernel) (by decide +kernel))
theorem lkL_61 : Cond.methodLink RL 61 yX7_regret ∈ uw_ := (uw_mem 1165 (by decide +kernel) (by decide +kernel))
set_option maxHeartbeats 4000000 in
theorem wL_regret {E : ev_} {H : Heap} {x o : Nat} {i0 : Int32} {v : Int32 ⊕ Nat} {P : Heap → Prop} {fs : List Value} (hX : exo_ E) (hs : sp_ E mX7_regret [.ref x, .int i0] H (po1 (thr_ (fun y => some (.int y)) v) P)) (hA : at_ E H x (.inr (7, fs))) (hf : ev_fr E o) (ho : ∀ H1, P H1 → out0_ E o H1) (hv : ∀ c, v = .inr c → g1_ c ≠ 0) : spW_ E mL_regret hL_regret [.ref x, .int i0, .ref o] H (wq_ E o g1_ (fun y => lo_ E y.toInt64) v P) := by
  refine spW_of (by decide +kernel) rfl rfl ?_
  generalize hQ : wq_ E o _ _ _ _ = Q
  refine aw_lv (lv' := [(0, .ref x), (1, .int i0), (2, .ref o)]) [0, 1, 2] rfl ?_
  refine aw_b (pc' := 4) (lv' := [(0, .ref x), (1, .int i0), (2, .ref o)]) (st' := [.int i0, .ref x, .int 0, .ref o]) [(0, .aload_n 2, 1, .null), (1, .iconst 0, 1, .int 0), (2, .aload_n 0, 1, .null), (3, .iload_n 1, 1, .null)] (by decide +kernel) rfl ?_
  refine aw_cc (rest := [.int 0, .ref o]) (L := ly_M) (s := zs_) (u := 1) (u6 := 6) hs rfl ckX7_regret lkL_61 hA ⟨_, _, rfl⟩ nkX7_regret rfl rfl rfl rfl (Nat.le_of_ble_eq_true rfl) (by decide) (by decide) (by decide +kernel) (fun y H1 hv hp => ?_) (fun c H1 hc hp => ?_)
  · obtain ⟨e0, z0, q1, f0, rfl, q2⟩ := ho H1 hp
    show aw E mL_regret Q 7 [(0, .ref x), (1, .int i0), (2, .ref o)] [.int y, .int 0, .ref o] H1 1 6
    refine aw_b (pc' := 8) (lv' := [(0, .ref x), (1, .int i0), (2, .ref o)]) (st' := [.long y.toInt64, .int 0, .ref o]) [(7, .i2l, 1, .null)] (by decide +kernel) rfl ?_
    refine aw_last q1 hf (ib_in (by decide)) (by decide +kernel) (fun H2 w1 w2 => ?_)
    refine aw_b (pc' := 16) (lv' := [(0, .ref x), (1, .int i0), (2, .ref o)]) (st' := [.int 0]) [(9, .goto 6, 3, .null), (15, .iconst 0, 1, .int 0)] (by decide +kernel) rfl ?_
    refine aw_iret rfl (by decide) (by decide) (by decide +kernel) ?_
    subst hv
    rw [← hQ]
    exact ⟨rfl, H1, _, hp, w1, ⟨_, rfl, if_pos rfl⟩, w2⟩
  · have hc0 := hv c hc
    subst hc
    have hz : c ≠ 0 := fun z => by subst z; exact hc0 rfl
    have eg : g1_ c = 1 := if_neg hz
    rw [xn_s hz]
    refine ⟨12, ⟨[], { startPc := 0, endPc := 9, handlerPc := 12, catchType := 13 }, [], "java/lang/IllegalArgumentException", rfl, fun z hz => absurd hz List.not_mem_nil, by decide, by decide, clkL_13, csA, rfl⟩, fun q => ?_⟩
    refine aw_b (pc' := 14) (lv' := (3, .ref q) :: [(0, .ref x), (1, .int i0), (2, .ref o)]) (st' := [.int 1]) [(12, .astore_n 3, 1, .null), (13, .iconst 1, 1, .int 1)] (by decide +kernel) rfl ?_
    refine aw_iret rfl (by decide) (by decide) (by decide +kernel) ?_
    rw [← hQ]
    exact ⟨by rw [eg], hp⟩
def hL_regretTo : hh_ := [(0, 9, 12, 19)]
def mL_regretTo : mt_ := (yL_regretTo, cL_regretTo, 4, some .int, tableOf hL_regretTo, { frames := 8, locals := 142, cells := 1, slots := 6 })
theorem ckL_regretTo : Cond.codeWith mL_regretTo.1 mL_regretTo.2.1 mL_regretTo.2.2.1 mL_regretTo.2.2.2.1 hL_regretTo ∈ uw_ := (uw_mem 1173 (by decide +kernel) (by decide +kernel))
theorem lkL_64 : Cond.methodLink RL 64 yX7_regretTo ∈ uw_ := (uw_mem 1174 (by decide +kernel) (by decide +kernel))
set_option maxHeartbeats 4000000 in
theorem wL_regretTo {E : ev_} {H : Heap} {x o : Nat} {i0 : Int32} {v : Int32 ⊕ Nat} {P : Heap → Prop} {fs : List Value} (hX : exo_ E) (hs : sp_ E mX7_regretTo [.ref x, .int i0] H (po1 (thr_ (fun y => some (.int y)) v) P)) (hA : at_ E H x (.inr (7, fs))) (hf : ev_fr E o) (ho : ∀ H1, P H1 → out0_ E o H1) (hv : ∀ c, v = .inr c → g1i_ c ≠ 0) : spW_ E mL_regretTo hL_regretTo [.ref x, .int i0, .ref o] H (wq_ E o g1i_ (fun y => lo_ E y.toInt64) v P) := by
  refine spW_of (by decide +kernel) rfl rfl ?_
  generalize hQ : wq_ E o _ _ _ _ = Q
  refine aw_lv (lv' := [(0, .ref x), (1, .int i0), (2, .ref o)]) [0, 1, 2] rfl ?_
  refine aw_b (pc' := 4) (lv' := [(0, .ref x), (1, .int i0), (2, .ref o)]) (st' := [.int i0, .ref x, .int 0, .ref o]) [(0, .aload_n 2, 1, .null), (1, .iconst 0, 1, .int 0), (2, .aload_n 0, 1, .null), (3, .iload_n 1, 1, .null)] (by decide +kernel) rfl ?_
  refine aw_cc (rest := [.int 0, .ref o]) (L := ly_M) (s := zs_) (u := 1) (u6 := 6) hs rfl ckX7_regretTo lkL_64 hA ⟨_, _, rfl⟩ nkX7_regretTo rfl rfl rfl rfl (Nat.le_of_ble_eq_true rfl) (by decide) (by decide) (by decide +kernel) (fun y H1 hv hp => ?_) (fun c H1 hc hp => ?_)
  · obtain ⟨e0, z0, q1, f0, rfl, q2⟩ := ho H1 hp
    show aw E mL_regretTo Q 7 [(0, .ref x), (1, .int i0), (2, .ref o)] [.int y, .int 0, .ref o] H1 1 6
    refine aw_b (pc' := 8) (lv' := [(0, .ref x), (1, .int i0), (2, .ref o)]) (st' := [.long y.toInt64, .int 0, .ref o]) [(7, .i2l, 1, .null)] (by decide +kernel) rfl ?_
    refine aw_last q1 hf (ib_in (by decide)) (by decide +kernel) (fun H2 w1 w2 => ?_)
    refine aw_b (pc' := 16) (lv' := [(0, .ref x), (1, .int i0), (2, .ref o)]) (st' := [.int 0]) [(9, .goto 6, 3, .null), (15, .iconst 0, 1, .int 0)] (by decide +kernel) rfl ?_
    refine aw_iret rfl (by decide) (by decide) (by decide +kernel) ?_
    subst hv
    rw [← hQ]
    exact ⟨rfl, H1, _, hp, w1, ⟨_, rfl, if_pos rfl⟩, w2⟩
  · have hc0 := hv c hc
    subst hc
    have hz : c = 0 := Decidable.byContradiction (fun z => hc0 (if_neg z))
    subst hz
    show ∃ hpc, hnd_ E _ _ "java/lang/IndexOutOfBoundsException" hpc ∧ _
    refine ⟨12, ⟨[], { startPc := 0, endPc := 9, handlerPc := 12, catchType := 19 }, [], "java/lang/IndexOutOfBoundsException", rfl, fun z hz => absurd hz List.not_mem_nil, by decide, by decide, clkL_19, csI, rfl⟩, fun q => ?_⟩
    refine aw_b (pc' := 14) (lv' := (3, .ref q) :: [(0, .ref x), (1, .int i0), (2, .ref o)]) (st' := [.int 1]) [(12, .astore_n 3, 1, .null), (13, .iconst 1, 1, .int 1)] (by decide +kernel) rfl ?_
    refine aw_iret rfl (by decide) (by decide) (by decide +kernel) ?_
    rw [← hQ]
    exact ⟨rfl, hp⟩
def hL_swapCost : hh_ := [(0, 10, 13, 19)]
def mL_swapCost : mt_ := (yL_swapCost, cL_swapCost, 5, some .int, tableOf hL_swapCost, { frames := 8, locals := 143, cells := 2, slots := 12 })
theorem ckL_swapCost : Cond.codeWith mL_swapCost.1 mL_swapCost.2.1 mL_swapCost.2.2.1 mL_swapCost.2.2.2.1 hL_swapCost ∈ uw_ := (uw_mem 1180 (by decide +kernel) (by decide +kernel))
theorem lkL_67 : Cond.methodLink RL 67 yX7_swapCost ∈ uw_ := (uw_mem 1181 (by decide +kernel) (by decide +kernel))
set_option maxHeartbeats 4000000 in
theorem wL_swapCost {E : ev_} {H : Heap} {x o : Nat} {i0 : Int32} {i1 : Int32} {v : Int32 ⊕ Nat} {P : Heap → Prop} {fs : List Value} (hX : exo_ E) (hs : sp_ E mX7_swapCost [.ref x, .int i0, .int i1] H (po1 (thr_ (fun y => some (.int y)) v) P)) (hA : at_ E H x (.inr (7, fs))) (hf : ev_fr E o) (ho : ∀ H1, P H1 → out0_ E o H1) (hv : ∀ c, v = .inr c → g1i_ c ≠ 0) : spW_ E mL_swapCost hL_swapCost [.ref x, .int i0, .int i1, .ref o] H (wq_ E o g1i_ (fun y => lo_ E y.toInt64) v P) := by
  refine spW_of (by decide +kernel) rfl rfl ?_
  generalize hQ : wq_ E o _ _ _ _ = Q
  refine aw_lv (lv' := [(0, .ref x), (1, .int i0), (2, .int i1), (3, .ref o)]) [0, 1, 2, 3] rfl ?_
  refine aw_b (pc' := 5) (lv' := [(0, .ref x), (1, .int i0), (2, .int i1), (3, .ref o)]) (st' := [.int i1, .int i0, .ref x, .int 0, .ref o]) [(0, .aload_n 3, 1, .null), (1, .iconst 0, 1, .int 0), (2, .aload_n 0, 1, .null), (3, .iload_n 1, 1, .null), (4, .iload_n 2, 1, .null)] (by decide +kernel) rfl ?_
  refine aw_cc (rest := [.int 0, .ref o]) (L := ly_M) (s := zs_) (u := 2) (u6 := 12) hs rfl ckX7_swapCost lkL_67 hA ⟨_, _, rfl⟩ nkX7_swapCost rfl rfl rfl rfl (Nat.le_of_ble_eq_true rfl) (by decide) (by decide) (by decide +kernel) (fun y H1 hv hp => ?_) (fun c H1 hc hp => ?_)
  · obtain ⟨e0, z0, q1, f0, rfl, q2⟩ := ho H1 hp
    show aw E mL_swapCost Q 8 [(0, .ref x), (1, .int i0), (2, .int i1), (3, .ref o)] [.int y, .int 0, .ref o] H1 2 12
    refine aw_b (pc' := 9) (lv' := [(0, .ref x), (1, .int i0), (2, .int i1), (3, .ref o)]) (st' := [.long y.toInt64, .int 0, .ref o]) [(8, .i2l, 1, .null)] (by decide +kernel) rfl ?_
    refine aw_last q1 hf (ib_in (by decide)) (by decide +kernel) (fun H2 w1 w2 => ?_)
    refine aw_b (pc' := 18) (lv' := [(0, .ref x), (1, .int i0), (2, .int i1), (3, .ref o)]) (st' := [.int 0]) [(10, .goto 7, 3, .null), (17, .iconst 0, 1, .int 0)] (by decide +kernel) rfl ?_
    refine aw_iret rfl (by decide) (by decide) (by decide +kernel) ?_
    subst hv
    rw [← hQ]
    exact ⟨rfl, H1, _, hp, w1, ⟨_, rfl, if_pos rfl⟩, w2⟩
  · have hc0 := hv c hc
    subst hc
    have hz : c = 0 := Decidable.byContradiction (fun z => hc0 (if_neg z))
    subst hz
    show ∃ hpc, hnd_ E _ _ "java/lang/IndexOutOfBoundsException" hpc ∧ _
    refine ⟨13, ⟨[], { startPc := 0, endPc := 10, handlerPc := 13, catchType := 19 }, [], "java/lang/IndexOutOfBoundsException", rfl, fun z hz => absurd hz List.not_mem_nil, by decide, by decide, clkL_19, csI, rfl⟩, fun q => ?_⟩
    refine aw_b (pc' := 16) (lv' := (4, .ref q) :: [(0, .ref x), (1, .int i0), (2, .int i1), (3, .ref o)]) (st' := [.int 1]) [(13, .astore 4, 2, .null), (15, .iconst 1, 1, .int 1)] (by decide +kernel) rfl ?_
    refine aw_iret rfl (by decide) (by decide) (by decide +kernel) ?_
    rw [← hQ]
    exact ⟨rfl, hp⟩
def hL_bestSwap : hh_ := [(0, 9, 12, 19)]
def mL_bestSwap : mt_ := (yL_bestSwap, cL_bestSwap, 4, some .int, tableOf hL_bestSwap, { frames := 8, locals := 142, cells := 1, slots := 6 })
theorem ckL_bestSwap : Cond.codeWith mL_bestSwap.1 mL_bestSwap.2.1 mL_bestSwap.2.2.1 mL_bestSwap.2.2.2.1 hL_bestSwap ∈ uw_ := (uw_mem 1187 (by decide +kernel) (by decide +kernel))
theorem lkL_70 : Cond.methodLink RL 70 yX7_bestSwap ∈ uw_ := (uw_mem 1188 (by decide +kernel) (by decide +kernel))
set_option maxHeartbeats 4000000 in
theorem wL_bestSwap {E : ev_} {H : Heap} {x o : Nat} {i0 : Int32} {v : Int32 ⊕ Nat} {P : Heap → Prop} {fs : List Value} (hX : exo_ E) (hs : sp_ E mX7_bestSwap [.ref x, .int i0] H (po1 (thr_ (fun y => some (.int y)) v) P)) (hA : at_ E H x (.inr (7, fs))) (hf : ev_fr E o) (ho : ∀ H1, P H1 → out0_ E o H1) (hv : ∀ c, v = .inr c → g1i_ c ≠ 0) : spW_ E mL_bestSwap hL_bestSwap [.ref x, .int i0, .ref o] H (wq_ E o g1i_ (fun y => lo_ E y.toInt64) v P) := by
  refine spW_of (by decide +kernel) rfl rfl ?_
  generalize hQ : wq_ E o _ _ _ _ = Q
  refine aw_lv (lv' := [(0, .ref x), (1, .int i0), (2, .ref o)]) [0, 1, 2] rfl ?_
  refine aw_b (pc' := 4) (lv' := [(0, .ref x), (1, .int i0), (2, .ref o)]) (st' := [.int i0, .ref x, .int 0, .ref o]) [(0, .aload_n 2, 1, .null), (1, .iconst 0, 1, .int 0), (2, .aload_n 0, 1, .null), (3, .iload_n 1, 1, .null)] (by decide +kernel) rfl ?_
  refine aw_cc (rest := [.int 0, .ref o]) (L := ly_M) (s := zs_) (u := 1) (u6 := 6) hs rfl ckX7_bestSwap lkL_70 hA ⟨_, _, rfl⟩ nkX7_bestSwap rfl rfl rfl rfl (Nat.le_of_ble_eq_true rfl) (by decide) (by decide) (by decide +kernel) (fun y H1 hv hp => ?_) (fun c H1 hc hp => ?_)
  · obtain ⟨e0, z0, q1, f0, rfl, q2⟩ := ho H1 hp
    show aw E mL_bestSwap Q 7 [(0, .ref x), (1, .int i0), (2, .ref o)] [.int y, .int 0, .ref o] H1 1 6
    refine aw_b (pc' := 8) (lv' := [(0, .ref x), (1, .int i0), (2, .ref o)]) (st' := [.long y.toInt64, .int 0, .ref o]) [(7, .i2l, 1, .null)] (by decide +kernel) rfl ?_
    refine aw_last q1 hf (ib_in (by decide)) (by decide +kernel) (fun H2 w1 w2 => ?_)
    refine aw_b (pc' := 16) (lv' := [(0, .ref x), (1, .int i0), (2, .ref o)]) (st' := [.int 0]) [(9, .goto 6, 3, .null), (15, .iconst 0, 1, .int 0)] (by decide +kernel) rfl ?_
    refine aw_iret rfl (by decide) (by decide) (by decide +kernel) ?_
    subst hv
    rw [← hQ]
    exact ⟨rfl, H1, _, hp, w1, ⟨_, rfl, if_pos rfl⟩, w2⟩
  · have hc0 := hv c hc
    subst hc
    have hz : c = 0 := Decidable.byContradiction (fun z => hc0 (if_neg z))
    subst hz
    show ∃ hpc, hnd_ E _ _ "java/lang/IndexOutOfBoundsException" hpc ∧ _
    refine ⟨12, ⟨[], { startPc := 0, endPc := 9, handlerPc := 12, catchType := 19 }, [], "java/lang/IndexOutOfBoundsException", rfl, fun z hz => absurd hz List.not_mem_nil, by decide, by decide, clkL_19, csI, rfl⟩, fun q => ?_⟩
    refine aw_b (pc' := 14) (lv' := (3, .ref q) :: [(0, .ref x), (1, .int i0), (2, .ref o)]) (st' := [.int 1]) [(12, .astore_n 3, 1, .null), (13, .iconst 1, 1, .int 1)] (by decide +kernel) rfl ?_
    refine aw_iret rfl (by decide) (by decide) (by decide +kernel) ?_
    rw [← hQ]
    exact ⟨rfl, hp⟩
def hL_rival : hh_ := [(0, 9, 12, 13)]
def mL_rival : mt_ := (yL_rival, cL_rival, 4, some .int, tableOf hL_rival, { frames := 8, locals := 144, cells := 1, slots := 6 })
theorem ckL_rival : Cond.codeWith mL_rival.1 mL_rival.2.1 mL_rival.2.2.1 mL_rival.2.2.2.1 hL_rival ∈ uw_ := (uw_mem 1194 (by decide +kernel) (by decide +kernel))
theorem lkL_73 : Cond.methodLink RL 73 yX7_rival ∈ uw_ := (uw_mem 1195 (by decide +kernel) (by decide +kernel))
set_option maxHeartbeats 4000000 in
theorem wL_rival {E : ev_} {H : Heap} {x o : Nat} {i0 : Int32} {v : Int32 ⊕ Nat} {P : Heap → Prop} {fs : List Value} (hX : exo_ E) (hs : sp_ E mX7_rival [.ref x, .int i0] H (po1 (thr_ (fun y => some (.int y)) v) P)) (hA : at_ E H x (.inr (7, fs))) (hf : ev_fr E o) (ho : ∀ H1, P H1 → out0_ E o H1) (hv : ∀ c, v = .inr c → g1_ c ≠ 0) : spW_ E mL_rival hL_rival [.ref x, .int i0, .ref o] H (wq_ E o g1_ (fun y => lo_ E y.toInt64) v P) := by
  refine spW_of (by decide +kernel) rfl rfl ?_
  generalize hQ : wq_ E o _ _ _ _ = Q
  refine aw_lv (lv' := [(0, .ref x), (1, .int i0), (2, .ref o)]) [0, 1, 2] rfl ?_
  refine aw_b (pc' := 4) (lv' := [(0, .ref x), (1, .int i0), (2, .ref o)]) (st' := [.int i0, .ref x, .int 0, .ref o]) [(0, .aload_n 2, 1, .null), (1, .iconst 0, 1, .int 0), (2, .aload_n 0, 1, .null), (3, .iload_n 1, 1, .null)] (by decide +kernel) rfl ?_
  refine aw_cc (rest := [.int 0, .ref o]) (L := ly_M) (s := zs_) (u := 1) (u6 := 6) hs rfl ckX7_rival lkL_73 hA ⟨_, _, rfl⟩ nkX7_rival rfl rfl rfl rfl (Nat.le_of_ble_eq_true rfl) (by decide) (by decide) (by decide +kernel) (fun y H1 hv hp => ?_) (fun c H1 hc hp => ?_)
  · obtain ⟨e0, z0, q1, f0, rfl, q2⟩ := ho H1 hp
    show aw E mL_rival Q 7 [(0, .ref x), (1, .int i0), (2, .ref o)] [.int y, .int 0, .ref o] H1 1 6
    refine aw_b (pc' := 8) (lv' := [(0, .ref x), (1, .int i0), (2, .ref o)]) (st' := [.long y.toInt64, .int 0, .ref o]) [(7, .i2l, 1, .null)] (by decide +kernel) rfl ?_
    refine aw_last q1 hf (ib_in (by decide)) (by decide +kernel) (fun H2 w1 w2 => ?_)
    refine aw_b (pc' := 16) (lv' := [(0, .ref x), (1, .int i0), (2, .ref o)]) (st' := [.int 0]) [(9, .goto 6, 3, .null), (15, .iconst 0, 1, .int 0)] (by decide +kernel) rfl ?_
    refine aw_iret rfl (by decide) (by decide) (by decide +kernel) ?_
    subst hv
    rw [← hQ]
    exact ⟨rfl, H1, _, hp, w1, ⟨_, rfl, if_pos rfl⟩, w2⟩
  · have hc0 := hv c hc
    subst hc
    have hz : c ≠ 0 := fun z => by subst z; exact hc0 rfl
    have eg : g1_ c = 1 := if_neg hz
    rw [xn_s hz]
    refine ⟨12, ⟨[], { startPc := 0, endPc := 9, handlerPc := 12, catchType := 13 }, [], "java/lang/IllegalArgumentException", rfl, fun z hz => absurd hz List.not_mem_nil, by decide, by decide, clkL_13, csA, rfl⟩, fun q => ?_⟩
    refine aw_b (pc' := 14) (lv' := (3, .ref q) :: [(0, .ref x), (1, .int i0), (2, .ref o)]) (st' := [.int 1]) [(12, .astore_n 3, 1, .null), (13, .iconst 1, 1, .int 1)] (by decide +kernel) rfl ?_
    refine aw_iret rfl (by decide) (by decide) (by decide +kernel) ?_
    rw [← hQ]
    exact ⟨by rw [eg], hp⟩
def hL_cost : hh_ := [(0, 10, 13, 19)]
def mL_cost : mt_ := (yL_cost, cL_cost, 5, some .int, tableOf hL_cost, { frames := 8, locals := 143, cells := 1, slots := 6 })
theorem ckL_cost : Cond.codeWith mL_cost.1 mL_cost.2.1 mL_cost.2.2.1 mL_cost.2.2.2.1 hL_cost ∈ uw_ := (uw_mem 1203 (by decide +kernel) (by decide +kernel))
theorem lkL_76 : Cond.methodLink RL 76 yX7_cost ∈ uw_ := (uw_mem 1204 (by decide +kernel) (by decide +kernel))
set_option maxHeartbeats 4000000 in
theorem wL_cost {E : ev_} {H : Heap} {x o : Nat} {i0 : Int32} {i1 : Int32} {v : Int32 ⊕ Nat} {P : Heap → Prop} {fs : List Value} (hX : exo_ E) (hs : sp_ E mX7_cost [.ref x, .int i0, .int i1] H (po1 (thr_ (fun y => some (.int y)) v) P)) (hA : at_ E H x (.inr (7, fs))) (hf : ev_fr E o) (ho : ∀ H1, P H1 → out0_ E o H1) (hv : ∀ c, v = .inr c → g1i_ c ≠ 0) : spW_ E mL_cost hL_cost [.ref x, .int i0, .int i1, .ref o] H (wq_ E o g1i_ (fun y => lo_ E y.toInt64) v P) := by
  refine spW_of (by decide +kernel) rfl rfl ?_
  generalize hQ : wq_ E o _ _ _ _ = Q
  refine aw_lv (lv' := [(0, .ref x), (1, .int i0), (2, .int i1), (3, .ref o)]) [0, 1, 2, 3] rfl ?_
  refine aw_b (pc' := 5) (lv' := [(0, .ref x), (1, .int i0), (2, .int i1), (3, .ref o)]) (st' := [.int i1, .int i0, .ref x, .int 0, .ref o]) [(0, .aload_n 3, 1, .null), (1, .iconst 0, 1, .int 0), (2, .aload_n 0, 1, .null), (3, .iload_n 1, 1, .null), (4, .iload_n 2, 1, .null)] (by decide +kernel) rfl ?_
  refine aw_cc (rest := [.int 0, .ref o]) (L := ly_M) (s := zs_) (u := 1) (u6 := 6) hs rfl ckX7_cost lkL_76 hA ⟨_, _, rfl⟩ nkX7_cost rfl rfl rfl rfl (Nat.le_of_ble_eq_true rfl) (by decide) (by decide) (by decide +kernel) (fun y H1 hv hp => ?_) (fun c H1 hc hp => ?_)
  · obtain ⟨e0, z0, q1, f0, rfl, q2⟩ := ho H1 hp
    show aw E mL_cost Q 8 [(0, .ref x), (1, .int i0), (2, .int i1), (3, .ref o)] [.int y, .int 0, .ref o] H1 1 6
    refine aw_b (pc' := 9) (lv' := [(0, .ref x), (1, .int i0), (2, .int i1), (3, .ref o)]) (st' := [.long y.toInt64, .int 0, .ref o]) [(8, .i2l, 1, .null)] (by decide +kernel) rfl ?_
    refine aw_last q1 hf (ib_in (by decide)) (by decide +kernel) (fun H2 w1 w2 => ?_)
    refine aw_b (pc' := 18) (lv' := [(0, .ref x), (1, .int i0), (2, .int i1), (3, .ref o)]) (st' := [.int 0]) [(10, .goto 7, 3, .null), (17, .iconst 0, 1, .int 0)] (by decide +kernel) rfl ?_
    refine aw_iret rfl (by decide) (by decide) (by decide +kernel) ?_
    subst hv
    rw [← hQ]
    exact ⟨rfl, H1, _, hp, w1, ⟨_, rfl, if_pos rfl⟩, w2⟩
  · have hc0 := hv c hc
    subst hc
    have hz : c = 0 := Decidable.byContradiction (fun z => hc0 (if_neg z))
    subst hz
    show ∃ hpc, hnd_ E _ _ "java/lang/IndexOutOfBoundsException" hpc ∧ _
    refine ⟨13, ⟨[], { startPc := 0, endPc := 10, handlerPc := 13, catchType := 19 }, [], "java/lang/IndexOutOfBoundsException", rfl, fun z hz => absurd hz List.not_mem_nil, by decide, by decide, clkL_19, csI, rfl⟩, fun q => ?_⟩
    refine aw_b (pc' := 16) (lv' := (4, .ref q) :: [(0, .ref x), (1, .int i0), (2, .int i1), (3, .ref o)]) (st' := [.int 1]) [(13, .astore 4, 2, .null), (15, .iconst 1, 1, .int 1)] (by decide +kernel) rfl ?_
    refine aw_iret rfl (by decide) (by decide) (by decide +kernel) ?_
    rw [← hQ]
    exact ⟨rfl, hp⟩
def hL_bestPair : hh_ := [(0, 9, 12, 13)]
def mL_bestPair : mt_ := (yL_bestPair, cL_bestPair, 4, some .int, tableOf hL_bestPair, { frames := 8, locals := 145, cells := 1, slots := 6 })
theorem ckL_bestPair : Cond.codeWith mL_bestPair.1 mL_bestPair.2.1 mL_bestPair.2.2.1 mL_bestPair.2.2.2.1 hL_bestPair ∈ uw_ := (uw_mem 1214 (by decide +kernel) (by decide +kernel))
theorem lkL_79 : Cond.methodLink RL 79 yX7_bestPair ∈ uw_ := (uw_mem 1215 (by decide +kernel) (by decide +kernel))
set_option maxHeartbeats 4000000 in
theorem wL_bestPair {E : ev_} {H : Heap} {x o : Nat} {i0 : Int32} {v : Int32 ⊕ Nat} {P : Heap → Prop} {fs : List Value} (hX : exo_ E) (hs : sp_ E mX7_bestPair [.ref x, .int i0] H (po1 (thr_ (fun y => some (.int y)) v) P)) (hA : at_ E H x (.inr (7, fs))) (hf : ev_fr E o) (ho : ∀ H1, P H1 → out0_ E o H1) (hv : ∀ c, v = .inr c → g1_ c ≠ 0) : spW_ E mL_bestPair hL_bestPair [.ref x, .int i0, .ref o] H (wq_ E o g1_ (fun y => lo_ E y.toInt64) v P) := by
  refine spW_of (by decide +kernel) rfl rfl ?_
  generalize hQ : wq_ E o _ _ _ _ = Q
  refine aw_lv (lv' := [(0, .ref x), (1, .int i0), (2, .ref o)]) [0, 1, 2] rfl ?_
  refine aw_b (pc' := 4) (lv' := [(0, .ref x), (1, .int i0), (2, .ref o)]) (st' := [.int i0, .ref x, .int 0, .ref o]) [(0, .aload_n 2, 1, .null), (1, .iconst 0, 1, .int 0), (2, .aload_n 0, 1, .null), (3, .iload_n 1, 1, .null)] (by decide +kernel) rfl ?_
  refine aw_cc (rest := [.int 0, .ref o]) (L := ly_M) (s := zs_) (u := 1) (u6 := 6) hs rfl ckX7_bestPair lkL_79 hA ⟨_, _, rfl⟩ nkX7_bestPair rfl rfl rfl rfl (Nat.le_of_ble_eq_true rfl) (by decide) (by decide) (by decide +kernel) (fun y H1 hv hp => ?_) (fun c H1 hc hp => ?_)
  · obtain ⟨e0, z0, q1, f0, rfl, q2⟩ := ho H1 hp
    show aw E mL_bestPair Q 7 [(0, .ref x), (1, .int i0), (2, .ref o)] [.int y, .int 0, .ref o] H1 1 6
    refine aw_b (pc' := 8) (lv' := [(0, .ref x), (1, .int i0), (2, .ref o)]) (st' := [.long y.toInt64, .int 0, .ref o]) [(7, .i2l, 1, .null)] (by decide +kernel) rfl ?_
    refine aw_last q1 hf (ib_in (by decide)) (by decide +kernel) (fun H2 w1 w2 => ?_)
    refine aw_b (pc' := 16) (lv' := [(0, .ref x), (1, .int i0), (2, .ref o)]) (st' := [.int 0]) [(9, .goto 6, 3, .null), (15, .iconst 0, 1, .int 0)] (by decide +kernel) rfl ?_
    refine aw_iret rfl (by decide) (by decide) (by decide +kernel) ?_
    subst hv
    rw [← hQ]
    exact ⟨rfl, H1, _, hp, w1, ⟨_, rfl, if_pos rfl⟩, w2⟩
  · have hc0 := hv c hc
    subst hc
    have hz : c ≠ 0 := fun z => by subst z; exact hc0 rfl
    have eg : g1_ c = 1 := if_neg hz
    rw [xn_s hz]
    refine ⟨12, ⟨[], { startPc := 0, endPc := 9, handlerPc := 12, catchType := 13 }, [], "java/lang/IllegalArgumentException", rfl, fun z hz => absurd hz List.not_mem_nil, by decide, by decide, clkL_13, csA, rfl⟩, fun q => ?_⟩
    refine aw_b (pc' := 14) (lv' := (3, .ref q) :: [(0, .ref x), (1, .int i0), (2, .ref o)]) (st' := [.int 1]) [(12, .astore_n 3, 1, .null), (13, .iconst 1, 1, .int 1)] (by decide +kernel) rfl ?_
    refine aw_iret rfl (by decide) (by decide) (by decide +kernel) ?_
    rw [← hQ]
    exact ⟨by rw [eg], hp⟩
def hL_cheaper : hh_ := [(0, 10, 13, 19)]
def mL_cheaper : mt_ := (yL_cheaper, cL_cheaper, 5, some .int, tableOf hL_cheaper, { frames := 8, locals := 146, cells := 2, slots := 12 })
theorem ckL_cheaper : Cond.codeWith mL_cheaper.1 mL_cheaper.2.1 mL_cheaper.2.2.1 mL_cheaper.2.2.2.1 hL_cheaper ∈ uw_ := (uw_mem 1236 (by decide +kernel) (by decide +kernel))
theorem lkL_82 : Cond.methodLink RL 82 yX7_cheaper ∈ uw_ := (uw_mem 1237 (by decide +kernel) (by decide +kernel))
set_option maxHeartbeats 4000000 in
theorem wL_cheaper {E : ev_} {H : Heap} {x o : Nat} {i0 : Int32} {i1 : Int32} {v : Int32 ⊕ Nat} {P : Heap → Prop} {fs : List Value} (hX : exo_ E) (hs : sp_ E mX7_cheaper [.ref x, .int i0, .int i1] H (po1 (thr_ (fun y => some (.int y)) v) P)) (hA : at_ E H x (.inr (7, fs))) (hf : ev_fr E o) (ho : ∀ H1, P H1 → out0_ E o H1) (hv : ∀ c, v = .inr c → g1i_ c ≠ 0) : spW_ E mL_cheaper hL_cheaper [.ref x, .int i0, .int i1, .ref o] H (wq_ E o g1i_ (fun y => lo_ E y.toInt64) v P) := by
  refine spW_of (by decide +kernel) rfl rfl ?_
  generalize hQ : wq_ E o _ _ _ _ = Q
  refine aw_lv (lv' := [(0, .ref x), (1, .int i0), (2, .int i1), (3, .ref o)]) [0, 1, 2, 3] rfl ?_
  refine aw_b (pc' := 5) (lv' := [(0, .ref x), (1, .int i0), (2, .int i1), (3, .ref o)]) (st' := [.int i1, .int i0, .ref x, .int 0, .ref o]) [(0, .aload_n 3, 1, .null), (1, .iconst 0, 1, .int 0), (2, .aload_n 0, 1, .null), (3, .iload_n 1, 1, .null), (4, .iload_n 2, 1, .null)] (by decide +kernel) rfl ?_
  refine aw_cc (rest := [.int 0, .ref o]) (L := ly_M) (s := zs_) (u := 2) (u6 := 12) hs rfl ckX7_cheaper lkL_82 hA ⟨_, _, rfl⟩ nkX7_cheaper rfl rfl rfl rfl (Nat.le_of_ble_eq_true rfl) (by decide) (by decide) (by decide +kernel) (fun y H1 hv hp => ?_) (fun c H1 hc hp => ?_)
  · obtain ⟨e0, z0, q1, f0, rfl, q2⟩ := ho H1 hp
    show aw E mL_cheaper Q 8 [(0, .ref x), (1, .int i0), (2, .int i1), (3, .ref o)] [.int y, .int 0, .ref o] H1 2 12
    refine aw_b (pc' := 9) (lv' := [(0, .ref x), (1, .int i0), (2, .int i1), (3, .ref o)]) (st' := [.long y.toInt64, .int 0, .ref o]) [(8, .i2l, 1, .null)] (by decide +kernel) rfl ?_
    refine aw_last q1 hf (ib_in (by decide)) (by decide +kernel) (fun H2 w1 w2 => ?_)
    refine aw_b (pc' := 18) (lv' := [(0, .ref x), (1, .int i0), (2, .int i1), (3, .ref o)]) (st' := [.int 0]) [(10, .goto 7, 3, .null), (17, .iconst 0, 1, .int 0)] (by decide +kernel) rfl ?_
    refine aw_iret rfl (by decide) (by decide) (by decide +kernel) ?_
    subst hv
    rw [← hQ]
    exact ⟨rfl, H1, _, hp, w1, ⟨_, rfl, if_pos rfl⟩, w2⟩
  · have hc0 := hv c hc
    subst hc
    have hz : c = 0 := Decidable.byContradiction (fun z => hc0 (if_neg z))
    subst hz
    show ∃ hpc, hnd_ E _ _ "java/lang/IndexOutOfBoundsException" hpc ∧ _
    refine ⟨13, ⟨[], { startPc := 0, endPc := 10, handlerPc := 13, catchType := 19 }, [], "java/lang/IndexOutOfBoundsException", rfl, fun z hz => absurd hz List.not_mem_nil, by decide, by decide, clkL_19, csI, rfl⟩, fun q => ?_⟩
    refine aw_b (pc' := 16) (lv' := (4, .ref q) :: [(0, .ref x), (1, .int i0), (2, .int i1), (3, .ref o)]) (st' := [.int 1]) [(13, .astore 4, 2, .null), (15, .iconst 1, 1, .int 1)] (by decide +kernel) rfl ?_
    refine aw_iret rfl (by decide) (by decide) (by decide +kernel) ?_
    rw [← hQ]
    exact ⟨rfl, hp⟩
def hL_leads : hh_ := [(0, 9, 12, 19)]
def mL_leads : mt_ := (yL_leads, cL_leads, 4, some .int, tableOf hL_leads, { frames := 8, locals := 142, cells := 1, slots := 6 })
theorem ckL_leads : Cond.codeWith mL_leads.1 mL_leads.2.1 mL_leads.2.2.1 mL_leads.2.2.2.1 hL_leads ∈ uw_ := (uw_mem 1243 (by decide +kernel) (by decide +kernel))
theorem lkL_85 : Cond.methodLink RL 85 yX7_leads ∈ uw_ := (uw_mem 1244 (by decide +kernel) (by decide +kernel))
set_option maxHeartbeats 4000000 in
theorem wL_leads {E : ev_} {H : Heap} {x o : Nat} {i0 : Int32} {v : Int32 ⊕ Nat} {P : Heap → Prop} {fs : List Value} (hX : exo_ E) (hs : sp_ E mX7_leads [.ref x, .int i0] H (po1 (thr_ (fun y => some (.int y)) v) P)) (hA : at_ E H x (.inr (7, fs))) (hf : ev_fr E o) (ho : ∀ H1, P H1 → out0_ E o H1) (hv : ∀ c, v = .inr c → g1i_ c ≠ 0) : spW_ E mL_leads hL_leads [.ref x, .int i0, .ref o] H (wq_ E o g1i_ (fun y => lo_ E y.toInt64) v P) := by
  refine spW_of (by decide +kernel) rfl rfl ?_
  generalize hQ : wq_ E o _ _ _ _ = Q
  refine aw_lv (lv' := [(0, .ref x), (1, .int i0), (2, .ref o)]) [0, 1, 2] rfl ?_
  refine aw_b (pc' := 4) (lv' := [(0, .ref x), (1, .int i0), (2, .ref o)]) (st' := [.int i0, .ref x, .int 0, .ref o]) [(0, .aload_n 2, 1, .null), (1, .iconst 0, 1, .int 0), (2, .aload_n 0, 1, .null), (3, .iload_n 1, 1, .null)] (by decide +kernel) rfl ?_
  refine aw_cc (rest := [.int 0, .ref o]) (L := ly_M) (s := zs_) (u := 1) (u6 := 6) hs rfl ckX7_leads lkL_85 hA ⟨_, _, rfl⟩ nkX7_leads rfl rfl rfl rfl (Nat.le_of_ble_eq_true rfl) (by decide) (by decide) (by decide +kernel) (fun y H1 hv hp => ?_) (fun c H1 hc hp => ?_)
  · obtain ⟨e0, z0, q1, f0, rfl, q2⟩ := ho H1 hp
    show aw E mL_leads Q 7 [(0, .ref x), (1, .int i0), (2, .ref o)] [.int y, .int 0, .ref o] H1 1 6
    refine aw_b (pc' := 8) (lv' := [(0, .ref x), (1, .int i0), (2, .ref o)]) (st' := [.long y.toInt64, .int 0, .ref o]) [(7, .i2l, 1, .null)] (by decide +kernel) rfl ?_
    refine aw_last q1 hf (ib_in (by decide)) (by decide +kernel) (fun H2 w1 w2 => ?_)
    refine aw_b (pc' := 16) (lv' := [(0, .ref x), (1, .int i0), (2, .ref o)]) (st' := [.int 0]) [(9, .goto 6, 3, .null), (15, .iconst 0, 1, .int 0)] (by decide +kernel) rfl ?_
    refine aw_iret rfl (by decide) (by decide) (by decide +kernel) ?_
    subst hv
    rw [← hQ]
    exact ⟨rfl, H1, _, hp, w1, ⟨_, rfl, if_pos rfl⟩, w2⟩
  · have hc0 := hv c hc
    subst hc
    have hz : c = 0 := Decidable.byContradiction (fun z => hc0 (if_neg z))
    subst hz
    show ∃ hpc, hnd_ E _ _ "java/lang/IndexOutOfBoundsException" hpc ∧ _
    refine ⟨12, ⟨[], { startPc := 0, endPc := 9, handlerPc := 12, catchType := 19 }, [], "java/lang/IndexOutOfBoundsException", rfl, fun z hz => absurd hz List.not_mem_nil, by decide, by decide, clkL_19, csI, rfl⟩, fun q => ?_⟩
    refine aw_b (pc' := 14) (lv' := (3, .ref q) :: [(0, .ref x), (1, .int i0), (2, .ref o)]) (st' := [.int 1]) [(12, .astore_n 3, 1, .null), (13, .iconst 1, 1, .int 1)] (by decide +kernel) rfl ?_
    refine aw_iret rfl (by decide) (by decide) (by decide +kernel) ?_
    rw [← hQ]
    exact ⟨rfl, hp⟩
def hL_streak : hh_ := [(0, 9, 12, 19)]
def mL_streak : mt_ := (yL_streak, cL_streak, 4, some .int, tableOf hL_streak, { frames := 8, locals := 146, cells := 1, slots := 6 })
theorem ckL_streak : Cond.codeWith mL_streak.1 mL_streak.2.1 mL_streak.2.2.1 mL_streak.2.2.2.1 hL_streak ∈ uw_ := (uw_mem 1250 (by decide +kernel) (by decide +kernel))
theorem lkL_88 : Cond.methodLink RL 88 yX7_streak ∈ uw_ := (uw_mem 1251 (by decide +kernel) (by decide +kernel))
set_option maxHeartbeats 4000000 in
theorem wL_streak {E : ev_} {H : Heap} {x o : Nat} {i0 : Int32} {v : Int32 ⊕ Nat} {P : Heap → Prop} {fs : List Value} (hX : exo_ E) (hs : sp_ E mX7_streak [.ref x, .int i0] H (po1 (thr_ (fun y => some (.int y)) v) P)) (hA : at_ E H x (.inr (7, fs))) (hf : ev_fr E o) (ho : ∀ H1, P H1 → out0_ E o H1) (hv : ∀ c, v = .inr c → g1i_ c ≠ 0) : spW_ E mL_streak hL_streak [.ref x, .int i0, .ref o] H (wq_ E o g1i_ (fun y => lo_ E y.toInt64) v P) := by
  refine spW_of (by decide +kernel) rfl rfl ?_
  generalize hQ : wq_ E o _ _ _ _ = Q
  refine aw_lv (lv' := [(0, .ref x), (1, .int i0), (2, .ref o)]) [0, 1, 2] rfl ?_
  refine aw_b (pc' := 4) (lv' := [(0, .ref x), (1, .int i0), (2, .ref o)]) (st' := [.int i0, .ref x, .int 0, .ref o]) [(0, .aload_n 2, 1, .null), (1, .iconst 0, 1, .int 0), (2, .aload_n 0, 1, .null), (3, .iload_n 1, 1, .null)] (by decide +kernel) rfl ?_
  refine aw_cc (rest := [.int 0, .ref o]) (L := ly_M) (s := zs_) (u := 1) (u6 := 6) hs rfl ckX7_streak lkL_88 hA ⟨_, _, rfl⟩ nkX7_streak rfl rfl rfl rfl (Nat.le_of_ble_eq_true rfl) (by decide) (by decide) (by decide +kernel) (fun y H1 hv hp => ?_) (fun c H1 hc hp => ?_)
  · obtain ⟨e0, z0, q1, f0, rfl, q2⟩ := ho H1 hp
    show aw E mL_streak Q 7 [(0, .ref x), (1, .int i0), (2, .ref o)] [.int y, .int 0, .ref o] H1 1 6
    refine aw_b (pc' := 8) (lv' := [(0, .ref x), (1, .int i0), (2, .ref o)]) (st' := [.long y.toInt64, .int 0, .ref o]) [(7, .i2l, 1, .null)] (by decide +kernel) rfl ?_
    refine aw_last q1 hf (ib_in (by decide)) (by decide +kernel) (fun H2 w1 w2 => ?_)
    refine aw_b (pc' := 16) (lv' := [(0, .ref x), (1, .int i0), (2, .ref o)]) (st' := [.int 0]) [(9, .goto 6, 3, .null), (15, .iconst 0, 1, .int 0)] (by decide +kernel) rfl ?_
    refine aw_iret rfl (by decide) (by decide) (by decide +kernel) ?_
    subst hv
    rw [← hQ]
    exact ⟨rfl, H1, _, hp, w1, ⟨_, rfl, if_pos rfl⟩, w2⟩
  · have hc0 := hv c hc
    subst hc
    have hz : c = 0 := Decidable.byContradiction (fun z => hc0 (if_neg z))
    subst hz
    show ∃ hpc, hnd_ E _ _ "java/lang/IndexOutOfBoundsException" hpc ∧ _
    refine ⟨12, ⟨[], { startPc := 0, endPc := 9, handlerPc := 12, catchType := 19 }, [], "java/lang/IndexOutOfBoundsException", rfl, fun z hz => absurd hz List.not_mem_nil, by decide, by decide, clkL_19, csI, rfl⟩, fun q => ?_⟩
    refine aw_b (pc' := 14) (lv' := (3, .ref q) :: [(0, .ref x), (1, .int i0), (2, .ref o)]) (st' := [.int 1]) [(12, .astore_n 3, 1, .null), (13, .iconst 1, 1, .int 1)] (by decide +kernel) rfl ?_
    refine aw_iret rfl (by decide) (by decide) (by decide +kernel) ?_
    rw [← hQ]
    exact ⟨rfl, hp⟩
def hL_dearest : hh_ := [(0, 10, 13, 19), (0, 10, 17, 13)]
def mL_dearest : mt_ := (yL_dearest, cL_dearest, 5, some .int, tableOf hL_dearest, { frames := 8, locals := 149, cells := 2, slots := 12 })
theorem ckL_dearest : Cond.codeWith mL_dearest.1 mL_dearest.2.1 mL_dearest.2.2.1 mL_dearest.2.2.2.1 hL_dearest ∈ uw_ := (uw_mem 1258 (by decide +kernel) (by decide +kernel))
theorem lkL_91 : Cond.methodLink RL 91 yX7_dearest ∈ uw_ := (uw_mem 1259 (by decide +kernel) (by decide +kernel))
set_option maxHeartbeats 4000000 in
theorem wL_dearest {E : ev_} {H : Heap} {x o : Nat} {i0 : Int32} {i1 : Int32} {v : Int32 ⊕ Nat} {P : Heap → Prop} {fs : List Value} (hX : exo_ E) (hs : sp_ E mX7_dearest [.ref x, .int i0, .int i1] H (po1 (thr_ (fun y => some (.int y)) v) P)) (hA : at_ E H x (.inr (7, fs))) (hf : ev_fr E o) (ho : ∀ H1, P H1 → out0_ E o H1) (hv : ∀ c, v = .inr c → g2_ c ≠ 0) : spW_ E mL_dearest hL_dearest [.ref x, .int i0, .int i1, .ref o] H (wq_ E o g2_ (fun y => lo_ E y.toInt64) v P) := by
  refine spW_of (by decide +kernel) rfl rfl ?_
  generalize hQ : wq_ E o _ _ _ _ = Q
  refine aw_lv (lv' := [(0, .ref x), (1, .int i0), (2, .int i1), (3, .ref o)]) [0, 1, 2, 3] rfl ?_
  refine aw_b (pc' := 5) (lv' := [(0, .ref x), (1, .int i0), (2, .int i1), (3, .ref o)]) (st' := [.int i1, .int i0, .ref x, .int 0, .ref o]) [(0, .aload_n 3, 1, .null), (1, .iconst 0, 1, .int 0), (2, .aload_n 0, 1, .null), (3, .iload_n 1, 1, .null), (4, .iload_n 2, 1, .null)] (by decide +kernel) rfl ?_
  refine aw_cc (rest := [.int 0, .ref o]) (L := ly_M) (s := zs_) (u := 2) (u6 := 12) hs rfl ckX7_dearest lkL_91 hA ⟨_, _, rfl⟩ nkX7_dearest rfl rfl rfl rfl (Nat.le_of_ble_eq_true rfl) (by decide) (by decide) (by decide +kernel) (fun y H1 hv hp => ?_) (fun c H1 hc hp => ?_)
  · obtain ⟨e0, z0, q1, f0, rfl, q2⟩ := ho H1 hp
    show aw E mL_dearest Q 8 [(0, .ref x), (1, .int i0), (2, .int i1), (3, .ref o)] [.int y, .int 0, .ref o] H1 2 12
    refine aw_b (pc' := 9) (lv' := [(0, .ref x), (1, .int i0), (2, .int i1), (3, .ref o)]) (st' := [.long y.toInt64, .int 0, .ref o]) [(8, .i2l, 1, .null)] (by decide +kernel) rfl ?_
    refine aw_last q1 hf (ib_in (by decide)) (by decide +kernel) (fun H2 w1 w2 => ?_)
    refine aw_b (pc' := 22) (lv' := [(0, .ref x), (1, .int i0), (2, .int i1), (3, .ref o)]) (st' := [.int 0]) [(10, .goto 11, 3, .null), (21, .iconst 0, 1, .int 0)] (by decide +kernel) rfl ?_
    refine aw_iret rfl (by decide) (by decide) (by decide +kernel) ?_
    subst hv
    rw [← hQ]
    exact ⟨rfl, H1, _, hp, w1, ⟨_, rfl, if_pos rfl⟩, w2⟩
  · have hc0 := hv c hc
    subst hc
    by_cases hz : c = 0
    · subst hz
      show ∃ hpc, hnd_ E _ _ "java/lang/IndexOutOfBoundsException" hpc ∧ _
      refine ⟨13, ⟨[], { startPc := 0, endPc := 10, handlerPc := 13, catchType := 19 }, [{ startPc := 0, endPc := 10, handlerPc := 17, catchType := 13 }], "java/lang/IndexOutOfBoundsException", rfl, fun z hz => absurd hz List.not_mem_nil, by decide, by decide, clkL_19, csI, rfl⟩, fun q => ?_⟩
      refine aw_b (pc' := 16) (lv' := (4, .ref q) :: [(0, .ref x), (1, .int i0), (2, .int i1), (3, .ref o)]) (st' := [.int 1]) [(13, .astore 4, 2, .null), (15, .iconst 1, 1, .int 1)] (by decide +kernel) rfl ?_
      refine aw_iret rfl (by decide) (by decide) (by decide +kernel) ?_
      rw [← hQ]
      exact ⟨rfl, hp⟩
    · have eg : g2_ c = 2 := if_neg hz
      rw [xn_s hz]
      refine ⟨17, ⟨[{ startPc := 0, endPc := 10, handlerPc := 13, catchType := 19 }], { startPc := 0, endPc := 10, handlerPc := 17, catchType := 13 }, [], "java/lang/IllegalArgumentException", rfl, fun z hz => by
        rw [List.mem_singleton.mp hz]
        exact Or.inr ⟨by decide, _, clkL_19, hX.2.2.2.2⟩, by decide, by decide, clkL_13, csA, rfl⟩, fun q => ?_⟩
      refine aw_b (pc' := 20) (lv' := (4, .ref q) :: [(0, .ref x), (1, .int i0), (2, .int i1), (3, .ref o)]) (st' := [.int 2]) [(17, .astore 4, 2, .null), (19, .iconst 2, 1, .int 2)] (by decide +kernel) rfl ?_
      refine aw_iret rfl (by decide) (by decide) (by decide +kernel) ?_
      rw [← hQ]
      exact ⟨by rw [eg], hp⟩
def hL_windowRegret : hh_ := [(0, 10, 13, 13)]
def mL_windowRegret : mt_ := (yL_windowRegret, cL_windowRegret, 5, some .int, tableOf hL_windowRegret, { frames := 9, locals := 166, cells := 2, slots := 12 })
theorem ckL_windowRegret : Cond.codeWith mL_windowRegret.1 mL_windowRegret.2.1 mL_windowRegret.2.2.1 mL_windowRegret.2.2.2.1 hL_windowRegret ∈ uw_ := (uw_mem 1265 (by decide +kernel) (by decide +kernel))
theorem lkL_94 : Cond.methodLink RL 94 yX7_windowRegret ∈ uw_ := (uw_mem 1266 (by decide +kernel) (by decide +kernel))
set_option maxHeartbeats 4000000 in
theorem wL_windowRegret {E : ev_} {H : Heap} {x o : Nat} {i0 : Int32} {i1 : Int32} {v : Int32 ⊕ Nat} {P : Heap → Prop} {fs : List Value} (hX : exo_ E) (hs : sp_ E mX7_windowRegret [.ref x, .int i0, .int i1] H (po1 (thr_ (fun y => some (.int y)) v) P)) (hA : at_ E H x (.inr (7, fs))) (hf : ev_fr E o) (ho : ∀ H1, P H1 → out0_ E o H1) (hv : ∀ c, v = .inr c → g1_ c ≠ 0) : spW_ E mL_windowRegret hL_windowRegret [.ref x, .int i0, .int i1, .ref o] H (wq_ E o g1_ (fun y => lo_ E y.toInt64) v P) := by
  refine spW_of (by decide +kernel) rfl rfl ?_
  generalize hQ : wq_ E o _ _ _ _ = Q
  refine aw_lv (lv' := [(0, .ref x), (1, .int i0), (2, .int i1), (3, .ref o)]) [0, 1, 2, 3] rfl ?_
  refine aw_b (pc' := 5) (lv' := [(0, .ref x), (1, .int i0), (2, .int i1), (3, .ref o)]) (st' := [.int i1, .int i0, .ref x, .int 0, .ref o]) [(0, .aload_n 3, 1, .null), (1, .iconst 0, 1, .int 0), (2, .aload_n 0, 1, .null), (3, .iload_n 1, 1, .null), (4, .iload_n 2, 1, .null)] (by decide +kernel) rfl ?_
  refine aw_cc (rest := [.int 0, .ref o]) (L := ly_M) (s := zs_) (u := 2) (u6 := 12) hs rfl ckX7_windowRegret lkL_94 hA ⟨_, _, rfl⟩ nkX7_windowRegret rfl rfl rfl rfl (Nat.le_of_ble_eq_true rfl) (by decide) (by decide) (by decide +kernel) (fun y H1 hv hp => ?_) (fun c H1 hc hp => ?_)
  · obtain ⟨e0, z0, q1, f0, rfl, q2⟩ := ho H1 hp
    show aw E mL_windowRegret Q 8 [(0, .ref x), (1, .int i0), (2, .int i1), (3, .ref o)] [.int y, .int 0, .ref o] H1 2 12
    refine aw_b (pc' := 9) (lv' := [(0, .ref x), (1, .int i0), (2, .int i1), (3, .ref o)]) (st' := [.long y.toInt64, .int 0, .ref o]) [(8, .i2l, 1, .null)] (by decide +kernel) rfl ?_
    refine aw_last q1 hf (ib_in (by decide)) (by decide +kernel) (fun H2 w1 w2 => ?_)
    refine aw_b (pc' := 18) (lv' := [(0, .ref x), (1, .int i0), (2, .int i1), (3, .ref o)]) (st' := [.int 0]) [(10, .goto 7, 3, .null), (17, .iconst 0, 1, .int 0)] (by decide +kernel) rfl ?_
    refine aw_iret rfl (by decide) (by decide) (by decide +kernel) ?_
    subst hv
    rw [← hQ]
    exact ⟨rfl, H1, _, hp, w1, ⟨_, rfl, if_pos rfl⟩, w2⟩
  · have hc0 := hv c hc
    subst hc
    have hz : c ≠ 0 := fun z => by subst z; exact hc0 rfl
    have eg : g1_ c = 1 := if_neg hz
    rw [xn_s hz]
    refine ⟨13, ⟨[], { startPc := 0, endPc := 10, handlerPc := 13, catchType := 13 }, [], "java/lang/IllegalArgumentException", rfl, fun z hz => absurd hz List.not_mem_nil, by decide, by decide, clkL_13, csA, rfl⟩, fun q => ?_⟩
    refine aw_b (pc' := 16) (lv' := (4, .ref q) :: [(0, .ref x), (1, .int i0), (2, .int i1), (3, .ref o)]) (st' := [.int 1]) [(13, .astore 4, 2, .null), (15, .iconst 1, 1, .int 1)] (by decide +kernel) rfl ?_
    refine aw_iret rfl (by decide) (by decide) (by decide +kernel) ?_
    rw [← hQ]
    exact ⟨by rw [eg], hp⟩
def hL_windowBest : hh_ := [(0, 10, 13, 13)]
def mL_windowBest : mt_ := (yL_windowBest, cL_windowBest, 5, some .int, tableOf hL_windowBest, { frames := 9, locals := 166, cells := 2, slots := 12 })
theorem ckL_windowBest : Cond.codeWith mL_windowBest.1 mL_windowBest.2.1 mL_windowBest.2.2.1 mL_windowBest.2.2.2.1 hL_windowBest ∈ uw_ := (uw_mem 1281 (by decide +kernel) (by decide +kernel))
theorem lkL_97 : Cond.methodLink RL 97 yX7_windowBest ∈ uw_ := (uw_mem 1282 (by decide +kernel) (by decide +kernel))
set_option maxHeartbeats 4000000 in
theorem wL_windowBest {E : ev_} {H : Heap} {x o : Nat} {i0 : Int32} {i1 : Int32} {v : Int32 ⊕ Nat} {P : Heap → Prop} {fs : List Value} (hX : exo_ E) (hs : sp_ E mX7_windowBest [.ref x, .int i0, .int i1] H (po1 (thr_ (fun y => some (.int y)) v) P)) (hA : at_ E H x (.inr (7, fs))) (hf : ev_fr E o) (ho : ∀ H1, P H1 → out0_ E o H1) (hv : ∀ c, v = .inr c → g1_ c ≠ 0) : spW_ E mL_windowBest hL_windowBest [.ref x, .int i0, .int i1, .ref o] H (wq_ E o g1_ (fun y => lo_ E y.toInt64) v P) := by
  refine spW_of (by decide +kernel) rfl rfl ?_
  generalize hQ : wq_ E o _ _ _ _ = Q
  refine aw_lv (lv' := [(0, .ref x), (1, .int i0), (2, .int i1), (3, .ref o)]) [0, 1, 2, 3] rfl ?_
  refine aw_b (pc' := 5) (lv' := [(0, .ref x), (1, .int i0), (2, .int i1), (3, .ref o)]) (st' := [.int i1, .int i0, .ref x, .int 0, .ref o]) [(0, .aload_n 3, 1, .null), (1, .iconst 0, 1, .int 0), (2, .aload_n 0, 1, .null), (3, .iload_n 1, 1, .null), (4, .iload_n 2, 1, .null)] (by decide +kernel) rfl ?_
  refine aw_cc (rest := [.int 0, .ref o]) (L := ly_M) (s := zs_) (u := 2) (u6 := 12) hs rfl ckX7_windowBest lkL_97 hA ⟨_, _, rfl⟩ nkX7_windowBest rfl rfl rfl rfl (Nat.le_of_ble_eq_true rfl) (by decide) (by decide) (by decide +kernel) (fun y H1 hv hp => ?_) (fun c H1 hc hp => ?_)
  · obtain ⟨e0, z0, q1, f0, rfl, q2⟩ := ho H1 hp
    show aw E mL_windowBest Q 8 [(0, .ref x), (1, .int i0), (2, .int i1), (3, .ref o)] [.int y, .int 0, .ref o] H1 2 12
    refine aw_b (pc' := 9) (lv' := [(0, .ref x), (1, .int i0), (2, .int i1), (3, .ref o)]) (st' := [.long y.toInt64, .int 0, .ref o]) [(8, .i2l, 1, .null)] (by decide +kernel) rfl ?_
    refine aw_last q1 hf (ib_in (by decide)) (by decide +kernel) (fun H2 w1 w2 => ?_)
    refine aw_b (pc' := 18) (lv' := [(0, .ref x), (1, .int i0), (2, .int i1), (3, .ref o)]) (st' := [.int 0]) [(10, .goto 7, 3, .null), (17, .iconst 0, 1, .int 0)] (by decide +kernel) rfl ?_
    refine aw_iret rfl (by decide) (by decide) (by decide +kernel) ?_
    subst hv
    rw [← hQ]
    exact ⟨rfl, H1, _, hp, w1, ⟨_, rfl, if_pos rfl⟩, w2⟩
  · have hc0 := hv c hc
    subst hc
    have hz : c ≠ 0 := fun z => by subst z; exact hc0 rfl
    have eg : g1_ c = 1 := if_neg hz
    rw [xn_s hz]
    refine ⟨13, ⟨[], { startPc := 0, endPc := 10, handlerPc := 13, catchType := 13 }, [], "java/lang/IllegalArgumentException", rfl, fun z hz => absurd hz List.not_mem_nil, by decide, by decide, clkL_13, csA, rfl⟩, fun q => ?_⟩
    refine aw_b (pc' := 16) (lv' := (4, .ref q) :: [(0, .ref x), (1, .int i0), (2, .int i1), (3, .ref o)]) (st' := [.int 1]) [(13, .astore 4, 2, .null), (15, .iconst 1, 1, .int 1)] (by decide +kernel) rfl ?_
    refine aw_iret rfl (by decide) (by decide) (by decide +kernel) ?_
    rw [← hQ]
    exact ⟨by rw [eg], hp⟩
def hL_worstWindow : hh_ := [(0, 9, 12, 13)]
def mL_worstWindow : mt_ := (yL_worstWindow, cL_worstWindow, 4, some .int, tableOf hL_worstWindow, { frames := 8, locals := 148, cells := 1, slots := 6 })
theorem ckL_worstWindow : Cond.codeWith mL_worstWindow.1 mL_worstWindow.2.1 mL_worstWindow.2.2.1 mL_worstWindow.2.2.2.1 hL_worstWindow ∈ uw_ := (uw_mem 1288 (by decide +kernel) (by decide +kernel))
theorem lkL_100 : Cond.methodLink RL 100 yX7_worstWindow ∈ uw_ := (uw_mem 1289 (by decide +kernel) (by decide +kernel))
set_option maxHeartbeats 4000000 in
theorem wL_worstWindow {E : ev_} {H : Heap} {x o : Nat} {i0 : Int32} {v : Int32 ⊕ Nat} {P : Heap → Prop} {fs : List Value} (hX : exo_ E) (hs : sp_ E mX7_worstWindow [.ref x, .int i0] H (po1 (thr_ (fun y => some (.int y)) v) P)) (hA : at_ E H x (.inr (7, fs))) (hf : ev_fr E o) (ho : ∀ H1, P H1 → out0_ E o H1) (hv : ∀ c, v = .inr c → g1_ c ≠ 0) : spW_ E mL_worstWindow hL_worstWindow [.ref x, .int i0, .ref o] H (wq_ E o g1_ (fun y => lo_ E y.toInt64) v P) := by
  refine spW_of (by decide +kernel) rfl rfl ?_
  generalize hQ : wq_ E o _ _ _ _ = Q
  refine aw_lv (lv' := [(0, .ref x), (1, .int i0), (2, .ref o)]) [0, 1, 2] rfl ?_
  refine aw_b (pc' := 4) (lv' := [(0, .ref x), (1, .int i0), (2, .ref o)]) (st' := [.int i0, .ref x, .int 0, .ref o]) [(0, .aload_n 2, 1, .null), (1, .iconst 0, 1, .int 0), (2, .aload_n 0, 1, .null), (3, .iload_n 1, 1, .null)] (by decide +kernel) rfl ?_
  refine aw_cc (rest := [.int 0, .ref o]) (L := ly_M) (s := zs_) (u := 1) (u6 := 6) hs rfl ckX7_worstWindow lkL_100 hA ⟨_, _, rfl⟩ nkX7_worstWindow rfl rfl rfl rfl (Nat.le_of_ble_eq_true rfl) (by decide) (by decide) (by decide +kernel) (fun y H1 hv hp => ?_) (fun c H1 hc hp => ?_)
  · obtain ⟨e0, z0, q1, f0, rfl, q2⟩ := ho H1 hp
    show aw E mL_worstWindow Q 7 [(0, .ref x), (1, .int i0), (2, .ref o)] [.int y, .int 0, .ref o] H1 1 6
    refine aw_b (pc' := 8) (lv' := [(0, .ref x), (1, .int i0), (2, .ref o)]) (st' := [.long y.toInt64, .int 0, .ref o]) [(7, .i2l, 1, .null)] (by decide +kernel) rfl ?_
    refine aw_last q1 hf (ib_in (by decide)) (by decide +kernel) (fun H2 w1 w2 => ?_)
    refine aw_b (pc' := 16) (lv' := [(0, .ref x), (1, .int i0), (2, .ref o)]) (st' := [.int 0]) [(9, .goto 6, 3, .null), (15, .iconst 0, 1, .int 0)] (by decide +kernel) rfl ?_
    refine aw_iret rfl (by decide) (by decide) (by decide +kernel) ?_
    subst hv
    rw [← hQ]
    exact ⟨rfl, H1, _, hp, w1, ⟨_, rfl, if_pos rfl⟩, w2⟩
  · have hc0 := hv c hc
    subst hc
    have hz : c ≠ 0 := fun z => by subst z; exact hc0 rfl
    have eg : g1_ c = 1 := if_neg hz
    rw [xn_s hz]
    refine ⟨12, ⟨[], { startPc := 0, endPc := 9, handlerPc := 12, catchType := 13 }, [], "java/lang/IllegalArgumentException", rfl, fun z hz => absurd hz List.not_mem_nil, by decide, by decide, clkL_13, csA, rfl⟩, fun q => ?_⟩
    refine aw_b (pc' := 14) (lv' := (3, .ref q) :: [(0, .ref x), (1, .int i0), (2, .ref o)]) (st' := [.int 1]) [(12, .astore_n 3, 1, .null), (13, .iconst 1, 1, .int 1)] (by decide +kernel) rfl ?_
    refine aw_iret rfl (by decide) (by decide) (by decide +kernel) ?_
    rw [← hQ]
    exact ⟨by rw [eg], hp⟩
def hL_meanCost : hh_ := [(0, 8, 11, 19)]
def mL_meanCost : mt_ := (yL_meanCost, cL_meanCost, 4, some .int, tableOf hL_meanCost, { frames := 8, locals := 143, cells := 1, slots := 6 })
theorem ckL_meanCost : Cond.codeWith mL_meanCost.1 mL_meanCost.2.1 mL_meanCost.2.2.1 mL_meanCost.2.2.2.1 hL_meanCost ∈ uw_ := (uw_mem 1295 (by decide +kernel) (by decide +kernel))
theorem lkL_103 : Cond.methodLink RL 103 yX7_meanCost ∈ uw_ := (uw_mem 1296 (by decide +kernel) (by decide +kernel))
set_option maxHeartbeats 4000000 in
theorem wL_meanCost {E : ev_} {H : Heap} {x o : Nat} {i0 : Int32} {v : UInt64 ⊕ Nat} {P : Heap → Prop} {fs : List Value} (hX : exo_ E) (hs : sp_ E mX7_meanCost [.ref x, .int i0] H (po1 (thr_ (fun y => some (.double y)) v) P)) (hA : at_ E H x (.inr (7, fs))) (hf : ev_fr E o) (ho : ∀ H1, P H1 → outD_ E o H1) (hv : ∀ c, v = .inr c → g1i_ c ≠ 0) : spW_ E mL_meanCost hL_meanCost [.ref x, .int i0, .ref o] H (wq_ E o g1i_ (fun y => do_ E y) v P) := by
  refine spW_of (by decide +kernel) rfl rfl ?_
  generalize hQ : wq_ E o _ _ _ _ = Q
  refine aw_lv (lv' := [(0, .ref x), (1, .int i0), (2, .ref o)]) [0, 1, 2] rfl ?_
  refine aw_b (pc' := 4) (lv' := [(0, .ref x), (1, .int i0), (2, .ref o)]) (st' := [.int i0, .ref x, .int 0, .ref o]) [(0, .aload_n 2, 1, .null), (1, .iconst 0, 1, .int 0), (2, .aload_n 0, 1, .null), (3, .iload_n 1, 1, .null)] (by decide +kernel) rfl ?_
  refine aw_cc (rest := [.int 0, .ref o]) (L := ly_M) (s := zs_) (u := 1) (u6 := 6) hs rfl ckX7_meanCost lkL_103 hA ⟨_, _, rfl⟩ nkX7_meanCost rfl rfl rfl rfl (Nat.le_of_ble_eq_true rfl) (by decide) (by decide) (by decide +kernel) (fun y H1 hv hp => ?_) (fun c H1 hc hp => ?_)
  · obtain ⟨e0, z0, q1, f0, rfl, q2⟩ := ho H1 hp
    show aw E mL_meanCost Q 7 [(0, .ref x), (1, .int i0), (2, .ref o)] [.double y, .int 0, .ref o] H1 1 6
    refine aw_dast q1 hf (ib_in (by decide)) (by decide +kernel) (fun H2 w1 w2 => ?_)
    refine aw_b (pc' := 15) (lv' := [(0, .ref x), (1, .int i0), (2, .ref o)]) (st' := [.int 0]) [(8, .goto 6, 3, .null), (14, .iconst 0, 1, .int 0)] (by decide +kernel) rfl ?_
    refine aw_iret rfl (by decide) (by decide) (by decide +kernel) ?_
    subst hv
    rw [← hQ]
    exact ⟨rfl, H1, _, hp, w1, ⟨_, rfl, if_pos rfl⟩, w2⟩
  · have hc0 := hv c hc
    subst hc
    have hz : c = 0 := Decidable.byContradiction (fun z => hc0 (if_neg z))
    subst hz
    show ∃ hpc, hnd_ E _ _ "java/lang/IndexOutOfBoundsException" hpc ∧ _
    refine ⟨11, ⟨[], { startPc := 0, endPc := 8, handlerPc := 11, catchType := 19 }, [], "java/lang/IndexOutOfBoundsException", rfl, fun z hz => absurd hz List.not_mem_nil, by decide, by decide, clkL_19, csI, rfl⟩, fun q => ?_⟩
    refine aw_b (pc' := 13) (lv' := (3, .ref q) :: [(0, .ref x), (1, .int i0), (2, .ref o)]) (st' := [.int 1]) [(11, .astore_n 3, 1, .null), (12, .iconst 1, 1, .int 1)] (by decide +kernel) rfl ?_
    refine aw_iret rfl (by decide) (by decide) (by decide +kernel) ?_
    rw [← hQ]
    exact ⟨rfl, hp⟩
def hL_share : hh_ := [(0, 9, 12, 19)]
def mL_share : mt_ := (yL_share, cL_share, 4, some .int, tableOf hL_share, { frames := 8, locals := 143, cells := 1, slots := 6 })
theorem ckL_share : Cond.codeWith mL_share.1 mL_share.2.1 mL_share.2.2.1 mL_share.2.2.2.1 hL_share ∈ uw_ := (uw_mem 1302 (by decide +kernel) (by decide +kernel))
theorem lkL_107 : Cond.methodLink RL 107 yX7_share ∈ uw_ := (uw_mem 1303 (by decide +kernel) (by decide +kernel))
set_option maxHeartbeats 4000000 in
theorem wL_share {E : ev_} {H : Heap} {x o : Nat} {i0 : Int32} {v : UInt32 ⊕ Nat} {P : Heap → Prop} {fs : List Value} (hX : exo_ E) (hs : sp_ E mX7_share [.ref x, .int i0] H (po1 (thr_ (fun y => some (.float y)) v) P)) (hA : at_ E H x (.inr (7, fs))) (hf : ev_fr E o) (ho : ∀ H1, P H1 → outD_ E o H1) (hv : ∀ c, v = .inr c → g1i_ c ≠ 0) (hne : ∀ y, v = .inl y → vf_n64 (FP.f2d y)) : spW_ E mL_share hL_share [.ref x, .int i0, .ref o] H (wq_ E o g1i_ (fun y => do_ E (FP.f2d y)) v P) := by
  refine spW_of (by decide +kernel) rfl rfl ?_
  generalize hQ : wq_ E o _ _ _ _ = Q
  refine aw_lv (lv' := [(0, .ref x), (1, .int i0), (2, .ref o)]) [0, 1, 2] rfl ?_
  refine aw_b (pc' := 4) (lv' := [(0, .ref x), (1, .int i0), (2, .ref o)]) (st' := [.int i0, .ref x, .int 0, .ref o]) [(0, .aload_n 2, 1, .null), (1, .iconst 0, 1, .int 0), (2, .aload_n 0, 1, .null), (3, .iload_n 1, 1, .null)] (by decide +kernel) rfl ?_
  refine aw_cc (rest := [.int 0, .ref o]) (L := ly_M) (s := zs_) (u := 1) (u6 := 6) hs rfl ckX7_share lkL_107 hA ⟨_, _, rfl⟩ nkX7_share rfl rfl rfl rfl (Nat.le_of_ble_eq_true rfl) (by decide) (by decide) (by decide +kernel) (fun y H1 hv hp => ?_) (fun c H1 hc hp => ?_)
  · obtain ⟨e0, z0, q1, f0, rfl, q2⟩ := ho H1 hp
    show aw E mL_share Q 7 [(0, .ref x), (1, .int i0), (2, .ref o)] [.float y, .int 0, .ref o] H1 1 6
    refine aw_f2d (hne y hv) (by decide +kernel) ?_
    refine aw_dast q1 hf (ib_in (by decide)) (by decide +kernel) (fun H2 w1 w2 => ?_)
    refine aw_b (pc' := 16) (lv' := [(0, .ref x), (1, .int i0), (2, .ref o)]) (st' := [.int 0]) [(9, .goto 6, 3, .null), (15, .iconst 0, 1, .int 0)] (by decide +kernel) rfl ?_
    refine aw_iret rfl (by decide) (by decide) (by decide +kernel) ?_
    subst hv
    rw [← hQ]
    exact ⟨rfl, H1, _, hp, w1, ⟨_, rfl, if_pos rfl⟩, w2⟩
  · have hc0 := hv c hc
    subst hc
    have hz : c = 0 := Decidable.byContradiction (fun z => hc0 (if_neg z))
    subst hz
    show ∃ hpc, hnd_ E _ _ "java/lang/IndexOutOfBoundsException" hpc ∧ _
    refine ⟨12, ⟨[], { startPc := 0, endPc := 9, handlerPc := 12, catchType := 19 }, [], "java/lang/IndexOutOfBoundsException", rfl, fun z hz => absurd hz List.not_mem_nil, by decide, by decide, clkL_19, csI, rfl⟩, fun q => ?_⟩
    refine aw_b (pc' := 14) (lv' := (3, .ref q) :: [(0, .ref x), (1, .int i0), (2, .ref o)]) (st' := [.int 1]) [(12, .astore_n 3, 1, .null), (13, .iconst 1, 1, .int 1)] (by decide +kernel) rfl ?_
    refine aw_iret rfl (by decide) (by decide) (by decide +kernel) ?_
    rw [← hQ]
    exact ⟨rfl, hp⟩
def hL_run : hh_ := [(0, 9, 12, 13)]
def mL_run : mt_ := (yL_run, cL_run, 4, some .int, tableOf hL_run, { frames := 8, locals := 167, cells := 1, slots := 6 })
theorem ckL_run : Cond.codeWith mL_run.1 mL_run.2.1 mL_run.2.2.1 mL_run.2.2.2.1 hL_run ∈ uw_ := (uw_mem 1310 (by decide +kernel) (by decide +kernel))
theorem lkL_111 : Cond.methodLink RL 111 yX7_run ∈ uw_ := (uw_mem 1311 (by decide +kernel) (by decide +kernel))
set_option maxHeartbeats 4000000 in
theorem wL_run {E : ev_} {H : Heap} {x o : Nat} {i0 : Int32} {v : Int32 ⊕ Nat} {P : Heap → Prop} {fs : List Value} (hX : exo_ E) (hs : sp_ E mX7_run [.ref x, .int i0] H (po1 (thr_ (fun y => some (.int y)) v) P)) (hA : at_ E H x (.inr (7, fs))) (hf : ev_fr E o) (ho : ∀ H1, P H1 → out0_ E o H1) (hv : ∀ c, v = .inr c → g1_ c ≠ 0) : spW_ E mL_run hL_run [.ref x, .int i0, .ref o] H (wq_ E o g1_ (fun y => lo_ E y.toInt64) v P) := by
  refine spW_of (by decide +kernel) rfl rfl ?_
  generalize hQ : wq_ E o _ _ _ _ = Q
  refine aw_lv (lv' := [(0, .ref x), (1, .int i0), (2, .ref o)]) [0, 1, 2] rfl ?_
  refine aw_b (pc' := 4) (lv' := [(0, .ref x), (1, .int i0), (2, .ref o)]) (st' := [.int i0, .ref x, .int 0, .ref o]) [(0, .aload_n 2, 1, .null), (1, .iconst 0, 1, .int 0), (2, .aload_n 0, 1, .null), (3, .iload_n 1, 1, .null)] (by decide +kernel) rfl ?_
  refine aw_cc (rest := [.int 0, .ref o]) (L := ly_M) (s := zs_) (u := 1) (u6 := 6) hs rfl ckX7_run lkL_111 hA ⟨_, _, rfl⟩ nkX7_run rfl rfl rfl rfl (Nat.le_of_ble_eq_true rfl) (by decide) (by decide) (by decide +kernel) (fun y H1 hv hp => ?_) (fun c H1 hc hp => ?_)
  · obtain ⟨e0, z0, q1, f0, rfl, q2⟩ := ho H1 hp
    show aw E mL_run Q 7 [(0, .ref x), (1, .int i0), (2, .ref o)] [.int y, .int 0, .ref o] H1 1 6
    refine aw_b (pc' := 8) (lv' := [(0, .ref x), (1, .int i0), (2, .ref o)]) (st' := [.long y.toInt64, .int 0, .ref o]) [(7, .i2l, 1, .null)] (by decide +kernel) rfl ?_
    refine aw_last q1 hf (ib_in (by decide)) (by decide +kernel) (fun H2 w1 w2 => ?_)
    refine aw_b (pc' := 16) (lv' := [(0, .ref x), (1, .int i0), (2, .ref o)]) (st' := [.int 0]) [(9, .goto 6, 3, .null), (15, .iconst 0, 1, .int 0)] (by decide +kernel) rfl ?_
    refine aw_iret rfl (by decide) (by decide) (by decide +kernel) ?_
    subst hv
    rw [← hQ]
    exact ⟨rfl, H1, _, hp, w1, ⟨_, rfl, if_pos rfl⟩, w2⟩
  · have hc0 := hv c hc
    subst hc
    have hz : c ≠ 0 := fun z => by subst z; exact hc0 rfl
    have eg : g1_ c = 1 := if_neg hz
    rw [xn_s hz]
    refine ⟨12, ⟨[], { startPc := 0, endPc := 9, handlerPc := 12, catchType := 13 }, [], "java/lang/IllegalArgumentException", rfl, fun z hz => absurd hz List.not_mem_nil, by decide, by decide, clkL_13, csA, rfl⟩, fun q => ?_⟩
    refine aw_b (pc' := 14) (lv' := (3, .ref q) :: [(0, .ref x), (1, .int i0), (2, .ref o)]) (st' := [.int 1]) [(12, .astore_n 3, 1, .null), (13, .iconst 1, 1, .int 1)] (by decide +kernel) rfl ?_
    refine aw_iret rfl (by decide) (by decide) (by decide +kernel) ?_
    rw [← hQ]
    exact ⟨by rw [eg], hp⟩
def hL_runToBreach : hh_ := [(0, 9, 12, 13)]
def mL_runToBreach : mt_ := (yL_runToBreach, cL_runToBreach, 4, some .int, tableOf hL_runToBreach, { frames := 8, locals := 168, cells := 1, slots := 6 })
theorem ckL_runToBreach : Cond.codeWith mL_runToBreach.1 mL_runToBreach.2.1 mL_runToBreach.2.2.1 mL_runToBreach.2.2.2.1 hL_runToBreach ∈ uw_ := (uw_mem 1351 (by decide +kernel) (by decide +kernel))
theorem lkL_114 : Cond.methodLink RL 114 yX7_runToBreach ∈ uw_ := (uw_mem 1352 (by decide +kernel) (by decide +kernel))
set_option maxHeartbeats 4000000 in
theorem wL_runToBreach {E : ev_} {H : Heap} {x o : Nat} {i0 : Int32} {v : Int32 ⊕ Nat} {P : Heap → Prop} {fs : List Value} (hX : exo_ E) (hs : sp_ E mX7_runToBreach [.ref x, .int i0] H (po1 (thr_ (fun y => some (.int y)) v) P)) (hA : at_ E H x (.inr (7, fs))) (hf : ev_fr E o) (ho : ∀ H1, P H1 → out0_ E o H1) (hv : ∀ c, v = .inr c → g1_ c ≠ 0) : spW_ E mL_runToBreach hL_runToBreach [.ref x, .int i0, .ref o] H (wq_ E o g1_ (fun y => lo_ E y.toInt64) v P) := by
  refine spW_of (by decide +kernel) rfl rfl ?_
  generalize hQ : wq_ E o _ _ _ _ = Q
  refine aw_lv (lv' := [(0, .ref x), (1, .int i0), (2, .ref o)]) [0, 1, 2] rfl ?_
  refine aw_b (pc' := 4) (lv' := [(0, .ref x), (1, .int i0), (2, .ref o)]) (st' := [.int i0, .ref x, .int 0, .ref o]) [(0, .aload_n 2, 1, .null), (1, .iconst 0, 1, .int 0), (2, .aload_n 0, 1, .null), (3, .iload_n 1, 1, .null)] (by decide +kernel) rfl ?_
  refine aw_cc (rest := [.int 0, .ref o]) (L := ly_M) (s := zs_) (u := 1) (u6 := 6) hs rfl ckX7_runToBreach lkL_114 hA ⟨_, _, rfl⟩ nkX7_runToBreach rfl rfl rfl rfl (Nat.le_of_ble_eq_true rfl) (by decide) (by decide) (by decide +kernel) (fun y H1 hv hp => ?_) (fun c H1 hc hp => ?_)
  · obtain ⟨e0, z0, q1, f0, rfl, q2⟩ := ho H1 hp
    show aw E mL_runToBreach Q 7 [(0, .ref x), (1, .int i0), (2, .ref o)] [.int y, .int 0, .ref o] H1 1 6
    refine aw_b (pc' := 8) (lv' := [(0, .ref x), (1, .int i0), (2, .ref o)]) (st' := [.long y.toInt64, .int 0, .ref o]) [(7, .i2l, 1, .null)] (by decide +kernel) rfl ?_
    refine aw_last q1 hf (ib_in (by decide)) (by decide +kernel) (fun H2 w1 w2 => ?_)
    refine aw_b (pc' := 16) (lv' := [(0, .ref x), (1, .int i0), (2, .ref o)]) (st' := [.int 0]) [(9, .goto 6, 3, .null), (15, .iconst 0, 1, .int 0)] (by decide +kernel) rfl ?_
    refine aw_iret rfl (by decide) (by decide) (by decide +kernel) ?_
    subst hv
    rw [← hQ]
    exact ⟨rfl, H1, _, hp, w1, ⟨_, rfl, if_pos rfl⟩, w2⟩
  · have hc0 := hv c hc
    subst hc
    have hz : c ≠ 0 := fun z => by subst z; exact hc0 rfl
    have eg : g1_ c = 1 := if_neg hz
    rw [xn_s hz]
    refine ⟨12, ⟨[], { startPc := 0, endPc := 9, handlerPc := 12, catchType := 13 }, [], "java/lang/IllegalArgumentException", rfl, fun z hz => absurd hz List.not_mem_nil, by decide, by decide, clkL_13, csA, rfl⟩, fun q => ?_⟩
    refine aw_b (pc' := 14) (lv' := (3, .ref q) :: [(0, .ref x), (1, .int i0), (2, .ref o)]) (st' := [.int 1]) [(12, .astore_n 3, 1, .null), (13, .iconst 1, 1, .int 1)] (by decide +kernel) rfl ?_
    refine aw_iret rfl (by decide) (by decide) (by decide +kernel) ?_
    rw [← hQ]
    exact ⟨by rw [eg], hp⟩
def hL_hurtOf : hh_ := [(0, 9, 12, 13)]
def mL_hurtOf : mt_ := (yL_hurtOf, cL_hurtOf, 4, some .int, tableOf hL_hurtOf, { frames := 9, locals := 164, cells := 1, slots := 6 })
theorem ckL_hurtOf : Cond.codeWith mL_hurtOf.1 mL_hurtOf.2.1 mL_hurtOf.2.2.1 mL_hurtOf.2.2.2.1 hL_hurtOf ∈ uw_ := (uw_mem 1358 (by decide +kernel) (by decide +kernel))
theorem lkL_117 : Cond.methodLink RL 117 yX7_hurtOf ∈ uw_ := (uw_mem 1359 (by decide +kernel) (by decide +kernel))
set_option maxHeartbeats 4000000 in
theorem wL_hurtOf {E : ev_} {H : Heap} {x o : Nat} {i0 : Int32} {v : Int32 ⊕ Nat} {P : Heap → Prop} {fs : List Value} (hX : exo_ E) (hs : sp_ E mX7_hurtOf [.ref x, .int i0] H (po1 (thr_ (fun y => some (.int y)) v) P)) (hA : at_ E H x (.inr (7, fs))) (hf : ev_fr E o) (ho : ∀ H1, P H1 → out0_ E o H1) (hv : ∀ c, v = .inr c → g1_ c ≠ 0) : spW_ E mL_hurtOf hL_hurtOf [.ref x, .int i0, .ref o] H (wq_ E o g1_ (fun y => lo_ E y.toInt64) v P) := by
  refine spW_of (by decide +kernel) rfl rfl ?_
  generalize hQ : wq_ E o _ _ _ _ = Q
  refine aw_lv (lv' := [(0, .ref x), (1, .int i0), (2, .ref o)]) [0, 1, 2] rfl ?_
  refine aw_b (pc' := 4) (lv' := [(0, .ref x), (1, .int i0), (2, .ref o)]) (st' := [.int i0, .ref x, .int 0, .ref o]) [(0, .aload_n 2, 1, .null), (1, .iconst 0, 1, .int 0), (2, .aload_n 0, 1, .null), (3, .iload_n 1, 1, .null)] (by decide +kernel) rfl ?_
  refine aw_cc (rest := [.int 0, .ref o]) (L := ly_M) (s := zs_) (u := 1) (u6 := 6) hs rfl ckX7_hurtOf lkL_117 hA ⟨_, _, rfl⟩ nkX7_hurtOf rfl rfl rfl rfl (Nat.le_of_ble_eq_true rfl) (by decide) (by decide) (by decide +kernel) (fun y H1 hv hp => ?_) (fun c H1 hc hp => ?_)
  · obtain ⟨e0, z0, q1, f0, rfl, q2⟩ := ho H1 hp
    show aw E mL_hurtOf Q 7 [(0, .ref x), (1, .int i0), (2, .ref o)] [.int y, .int 0, .ref o] H1 1 6
    refine aw_b (pc' := 8) (lv' := [(0, .ref x), (1, .int i0), (2, .ref o)]) (st' := [.long y.toInt64, .int 0, .ref o]) [(7, .i2l, 1, .null)] (by decide +kernel) rfl ?_
    refine aw_last q1 hf (ib_in (by decide)) (by decide +kernel) (fun H2 w1 w2 => ?_)
    refine aw_b (pc' := 16) (lv' := [(0, .ref x), (1, .int i0), (2, .ref o)]) (st' := [.int 0]) [(9, .goto 6, 3, .null), (15, .iconst 0, 1, .int 0)] (by decide +kernel) rfl ?_
    refine aw_iret rfl (by decide) (by decide) (by decide +kernel) ?_
    subst hv
    rw [← hQ]
    exact ⟨rfl, H1, _, hp, w1, ⟨_, rfl, if_pos rfl⟩, w2⟩
  · have hc0 := hv c hc
    subst hc
    have hz : c ≠ 0 := fun z => by subst z; exact hc0 rfl
    have eg : g1_ c = 1 := if_neg hz
    rw [xn_s hz]
    refine ⟨12, ⟨[], { startPc := 0, endPc := 9, handlerPc := 12, catchType := 13 }, [], "java/lang/IllegalArgumentException", rfl, fun z hz => absurd hz List.not_mem_nil, by decide, by decide, clkL_13, csA, rfl⟩, fun q => ?_⟩
    refine aw_b (pc' := 14) (lv' := (3, .ref q) :: [(0, .ref x), (1, .int i0), (2, .ref o)]) (st' := [.int 1]) [(12, .astore_n 3, 1, .null), (13, .iconst 1, 1, .int 1)] (by decide +kernel) rfl ?_
    refine aw_iret rfl (by decide) (by decide) (by decide +kernel) ?_
    rw [← hQ]
    exact ⟨by rw [eg], hp⟩
def hL_regretIn : hh_ := [(0, 9, 12, 13)]
def mL_regretIn : mt_ := (yL_regretIn, cL_regretIn, 4, some .int, tableOf hL_regretIn, { frames := 8, locals := 168, cells := 1, slots := 6 })
theorem ckL_regretIn : Cond.codeWith mL_regretIn.1 mL_regretIn.2.1 mL_regretIn.2.2.1 mL_regretIn.2.2.2.1 hL_regretIn ∈ uw_ := (uw_mem 1365 (by decide +kernel) (by decide +kernel))
theorem lkL_120 : Cond.methodLink RL 120 yX7_regretIn ∈ uw_ := (uw_mem 1366 (by decide +kernel) (by decide +kernel))
set_option maxHeartbeats 4000000 in
theorem wL_regretIn {E : ev_} {H : Heap} {x o : Nat} {i0 : Int32} {v : Int32 ⊕ Nat} {P : Heap → Prop} {fs : List Value} (hX : exo_ E) (hs : sp_ E mX7_regretIn [.ref x, .int i0] H (po1 (thr_ (fun y => some (.int y)) v) P)) (hA : at_ E H x (.inr (7, fs))) (hf : ev_fr E o) (ho : ∀ H1, P H1 → out0_ E o H1) (hv : ∀ c, v = .inr c → g1_ c ≠ 0) : spW_ E mL_regretIn hL_regretIn [.ref x, .int i0, .ref o] H (wq_ E o g1_ (fun y => lo_ E y.toInt64) v P) := by
  refine spW_of (by decide +kernel) rfl rfl ?_
  generalize hQ : wq_ E o _ _ _ _ = Q
  refine aw_lv (lv' := [(0, .ref x), (1, .int i0), (2, .ref o)]) [0, 1, 2] rfl ?_
  refine aw_b (pc' := 4) (lv' := [(0, .ref x), (1, .int i0), (2, .ref o)]) (st' := [.int i0, .ref x, .int 0, .ref o]) [(0, .aload_n 2, 1, .null), (1, .iconst 0, 1, .int 0), (2, .aload_n 0, 1, .null), (3, .iload_n 1, 1, .null)] (by decide +kernel) rfl ?_
  refine aw_cc (rest := [.int 0, .ref o]) (L := ly_M) (s := zs_) (u := 1) (u6 := 6) hs rfl ckX7_regretIn lkL_120 hA ⟨_, _, rfl⟩ nkX7_regretIn rfl rfl rfl rfl (Nat.le_of_ble_eq_true rfl) (by decide) (by decide) (by decide +kernel) (fun y H1 hv hp => ?_) (fun c H1 hc hp => ?_)
  · obtain ⟨e0, z0, q1, f0, rfl, q2⟩ := ho H1 hp
    show aw E mL_regretIn Q 7 [(0, .ref x), (1, .int i0), (2, .ref o)] [.int y, .int 0, .ref o] H1 1 6
    refine aw_b (pc' := 8) (lv' := [(0, .ref x), (1, .int i0), (2, .ref o)]) (st' := [.long y.toInt64, .int 0, .ref o]) [(7, .i2l, 1, .null)] (by decide +kernel) rfl ?_
    refine aw_last q1 hf (ib_in (by decide)) (by decide +kernel) (fun H2 w1 w2 => ?_)
    refine aw_b (pc' := 16) (lv' := [(0, .ref x), (1, .int i0), (2, .ref o)]) (st' := [.int 0]) [(9, .goto 6, 3, .null), (15, .iconst 0, 1, .int 0)] (by decide +kernel) rfl ?_
    refine aw_iret rfl (by decide) (by decide) (by decide +kernel) ?_
    subst hv
    rw [← hQ]
    exact ⟨rfl, H1, _, hp, w1, ⟨_, rfl, if_pos rfl⟩, w2⟩
  · have hc0 := hv c hc
    subst hc
    have hz : c ≠ 0 := fun z => by subst z; exact hc0 rfl
    have eg : g1_ c = 1 := if_neg hz
    rw [xn_s hz]
    refine ⟨12, ⟨[], { startPc := 0, endPc := 9, handlerPc := 12, catchType := 13 }, [], "java/lang/IllegalArgumentException", rfl, fun z hz => absurd hz List.not_mem_nil, by decide, by decide, clkL_13, csA, rfl⟩, fun q => ?_⟩
    refine aw_b (pc' := 14) (lv' := (3, .ref q) :: [(0, .ref x), (1, .int i0), (2, .ref o)]) (st' := [.int 1]) [(12, .astore_n 3, 1, .null), (13, .iconst 1, 1, .int 1)] (by decide +kernel) rfl ?_
    refine aw_iret rfl (by decide) (by decide) (by decide +kernel) ?_
    rw [← hQ]
    exact ⟨by rw [eg], hp⟩
def hL_costIn : hh_ := [(0, 10, 13, 19), (0, 10, 17, 13)]
def mL_costIn : mt_ := (yL_costIn, cL_costIn, 5, some .int, tableOf hL_costIn, { frames := 8, locals := 169, cells := 2, slots := 12 })
theorem ckL_costIn : Cond.codeWith mL_costIn.1 mL_costIn.2.1 mL_costIn.2.2.1 mL_costIn.2.2.2.1 hL_costIn ∈ uw_ := (uw_mem 1372 (by decide +kernel) (by decide +kernel))
theorem lkL_123 : Cond.methodLink RL 123 yX7_costIn ∈ uw_ := (uw_mem 1373 (by decide +kernel) (by decide +kernel))
set_option maxHeartbeats 4000000 in
theorem wL_costIn {E : ev_} {H : Heap} {x o : Nat} {i0 : Int32} {i1 : Int32} {v : Int32 ⊕ Nat} {P : Heap → Prop} {fs : List Value} (hX : exo_ E) (hs : sp_ E mX7_costIn [.ref x, .int i0, .int i1] H (po1 (thr_ (fun y => some (.int y)) v) P)) (hA : at_ E H x (.inr (7, fs))) (hf : ev_fr E o) (ho : ∀ H1, P H1 → out0_ E o H1) (hv : ∀ c, v = .inr c → g2_ c ≠ 0) : spW_ E mL_costIn hL_costIn [.ref x, .int i0, .int i1, .ref o] H (wq_ E o g2_ (fun y => lo_ E y.toInt64) v P) := by
  refine spW_of (by decide +kernel) rfl rfl ?_
  generalize hQ : wq_ E o _ _ _ _ = Q
  refine aw_lv (lv' := [(0, .ref x), (1, .int i0), (2, .int i1), (3, .ref o)]) [0, 1, 2, 3] rfl ?_
  refine aw_b (pc' := 5) (lv' := [(0, .ref x), (1, .int i0), (2, .int i1), (3, .ref o)]) (st' := [.int i1, .int i0, .ref x, .int 0, .ref o]) [(0, .aload_n 3, 1, .null), (1, .iconst 0, 1, .int 0), (2, .aload_n 0, 1, .null), (3, .iload_n 1, 1, .null), (4, .iload_n 2, 1, .null)] (by decide +kernel) rfl ?_
  refine aw_cc (rest := [.int 0, .ref o]) (L := ly_M) (s := zs_) (u := 2) (u6 := 12) hs rfl ckX7_costIn lkL_123 hA ⟨_, _, rfl⟩ nkX7_costIn rfl rfl rfl rfl (Nat.le_of_ble_eq_true rfl) (by decide) (by decide) (by decide +kernel) (fun y H1 hv hp => ?_) (fun c H1 hc hp => ?_)
  · obtain ⟨e0, z0, q1, f0, rfl, q2⟩ := ho H1 hp
    show aw E mL_costIn Q 8 [(0, .ref x), (1, .int i0), (2, .int i1), (3, .ref o)] [.int y, .int 0, .ref o] H1 2 12
    refine aw_b (pc' := 9) (lv' := [(0, .ref x), (1, .int i0), (2, .int i1), (3, .ref o)]) (st' := [.long y.toInt64, .int 0, .ref o]) [(8, .i2l, 1, .null)] (by decide +kernel) rfl ?_
    refine aw_last q1 hf (ib_in (by decide)) (by decide +kernel) (fun H2 w1 w2 => ?_)
    refine aw_b (pc' := 22) (lv' := [(0, .ref x), (1, .int i0), (2, .int i1), (3, .ref o)]) (st' := [.int 0]) [(10, .goto 11, 3, .null), (21, .iconst 0, 1, .int 0)] (by decide +kernel) rfl ?_
    refine aw_iret rfl (by decide) (by decide) (by decide +kernel) ?_
    subst hv
    rw [← hQ]
    exact ⟨rfl, H1, _, hp, w1, ⟨_, rfl, if_pos rfl⟩, w2⟩
  · have hc0 := hv c hc
    subst hc
    by_cases hz : c = 0
    · subst hz
      show ∃ hpc, hnd_ E _ _ "java/lang/IndexOutOfBoundsException" hpc ∧ _
      refine ⟨13, ⟨[], { startPc := 0, endPc := 10, handlerPc := 13, catchType := 19 }, [{ startPc := 0, endPc := 10, handlerPc := 17, catchType := 13 }], "java/lang/IndexOutOfBoundsException", rfl, fun z hz => absurd hz List.not_mem_nil, by decide, by decide, clkL_19, csI, rfl⟩, fun q => ?_⟩
      refine aw_b (pc' := 16) (lv' := (4, .ref q) :: [(0, .ref x), (1, .int i0), (2, .int i1), (3, .ref o)]) (st' := [.int 1]) [(13, .astore 4, 2, .null), (15, .iconst 1, 1, .int 1)] (by decide +kernel) rfl ?_
      refine aw_iret rfl (by decide) (by decide) (by decide +kernel) ?_
      rw [← hQ]
      exact ⟨rfl, hp⟩
    · have eg : g2_ c = 2 := if_neg hz
      rw [xn_s hz]
      refine ⟨17, ⟨[{ startPc := 0, endPc := 10, handlerPc := 13, catchType := 19 }], { startPc := 0, endPc := 10, handlerPc := 17, catchType := 13 }, [], "java/lang/IllegalArgumentException", rfl, fun z hz => by
        rw [List.mem_singleton.mp hz]
        exact Or.inr ⟨by decide, _, clkL_19, hX.2.2.2.2⟩, by decide, by decide, clkL_13, csA, rfl⟩, fun q => ?_⟩
      refine aw_b (pc' := 20) (lv' := (4, .ref q) :: [(0, .ref x), (1, .int i0), (2, .int i1), (3, .ref o)]) (st' := [.int 2]) [(17, .astore 4, 2, .null), (19, .iconst 2, 1, .int 2)] (by decide +kernel) rfl ?_
      refine aw_iret rfl (by decide) (by decide) (by decide +kernel) ?_
      rw [← hQ]
      exact ⟨by rw [eg], hp⟩
def hL_regretKeeping : hh_ := [(0, 10, 13, 19), (0, 10, 17, 13)]
def mL_regretKeeping : mt_ := (yL_regretKeeping, cL_regretKeeping, 5, some .int, tableOf hL_regretKeeping, { frames := 8, locals := 169, cells := 2, slots := 12 })
theorem ckL_regretKeeping : Cond.codeWith mL_regretKeeping.1 mL_regretKeeping.2.1 mL_regretKeeping.2.2.1 mL_regretKeeping.2.2.2.1 hL_regretKeeping ∈ uw_ := (uw_mem 1379 (by decide +kernel) (by decide +kernel))
theorem lkL_126 : Cond.methodLink RL 126 yX7_regretKeeping ∈ uw_ := (uw_mem 1380 (by decide +kernel) (by decide +kernel))
set_option maxHeartbeats 4000000 in
theorem wL_regretKeeping {E : ev_} {H : Heap} {x o : Nat} {i0 : Int32} {i1 : Int32} {v : Int32 ⊕ Nat} {P : Heap → Prop} {fs : List Value} (hX : exo_ E) (hs : sp_ E mX7_regretKeeping [.ref x, .int i0, .int i1] H (po1 (thr_ (fun y => some (.int y)) v) P)) (hA : at_ E H x (.inr (7, fs))) (hf : ev_fr E o) (ho : ∀ H1, P H1 → out0_ E o H1) (hv : ∀ c, v = .inr c → g2_ c ≠ 0) : spW_ E mL_regretKeeping hL_regretKeeping [.ref x, .int i0, .int i1, .ref o] H (wq_ E o g2_ (fun y => lo_ E y.toInt64) v P) := by
  refine spW_of (by decide +kernel) rfl rfl ?_
  generalize hQ : wq_ E o _ _ _ _ = Q
  refine aw_lv (lv' := [(0, .ref x), (1, .int i0), (2, .int i1), (3, .ref o)]) [0, 1, 2, 3] rfl ?_
  refine aw_b (pc' := 5) (lv' := [(0, .ref x), (1, .int i0), (2, .int i1), (3, .ref o)]) (st' := [.int i1, .int i0, .ref x, .int 0, .ref o]) [(0, .aload_n 3, 1, .null), (1, .iconst 0, 1, .int 0), (2, .aload_n 0, 1, .null), (3, .iload_n 1, 1, .null), (4, .iload_n 2, 1, .null)] (by decide +kernel) rfl ?_
  refine aw_cc (rest := [.int 0, .ref o]) (L := ly_M) (s := zs_) (u := 2) (u6 := 12) hs rfl ckX7_regretKeeping lkL_126 hA ⟨_, _, rfl⟩ nkX7_regretKeeping rfl rfl rfl rfl (Nat.le_of_ble_eq_true rfl) (by decide) (by decide) (by decide +kernel) (fun y H1 hv hp => ?_) (fun c H1 hc hp => ?_)
  · obtain ⟨e0, z0, q1, f0, rfl, q2⟩ := ho H1 hp
    show aw E mL_regretKeeping Q 8 [(0, .ref x), (1, .int i0), (2, .int i1), (3, .ref o)] [.int y, .int 0, .ref o] H1 2 12
    refine aw_b (pc' := 9) (lv' := [(0, .ref x), (1, .int i0), (2, .int i1), (3, .ref o)]) (st' := [.long y.toInt64, .int 0, .ref o]) [(8, .i2l, 1, .null)] (by decide +kernel) rfl ?_
    refine aw_last q1 hf (ib_in (by decide)) (by decide +kernel) (fun H2 w1 w2 => ?_)
    refine aw_b (pc' := 22) (lv' := [(0, .ref x), (1, .int i0), (2, .int i1), (3, .ref o)]) (st' := [.int 0]) [(10, .goto 11, 3, .null), (21, .iconst 0, 1, .int 0)] (by decide +kernel) rfl ?_
    refine aw_iret rfl (by decide) (by decide) (by decide +kernel) ?_
    subst hv
    rw [← hQ]
    exact ⟨rfl, H1, _, hp, w1, ⟨_, rfl, if_pos rfl⟩, w2⟩
  · have hc0 := hv c hc
    subst hc
    by_cases hz : c = 0
    · subst hz
      show ∃ hpc, hnd_ E _ _ "java/lang/IndexOutOfBoundsException" hpc ∧ _
      refine ⟨13, ⟨[], { startPc := 0, endPc := 10, handlerPc := 13, catchType := 19 }, [{ startPc := 0, endPc := 10, handlerPc := 17, catchType := 13 }], "java/lang/IndexOutOfBoundsException", rfl, fun z hz => absurd hz List.not_mem_nil, by decide, by decide, clkL_19, csI, rfl⟩, fun q => ?_⟩
      refine aw_b (pc' := 16) (lv' := (4, .ref q) :: [(0, .ref x), (1, .int i0), (2, .int i1), (3, .ref o)]) (st' := [.int 1]) [(13, .astore 4, 2, .null), (15, .iconst 1, 1, .int 1)] (by decide +kernel) rfl ?_
      refine aw_iret rfl (by decide) (by decide) (by decide +kernel) ?_
      rw [← hQ]
      exact ⟨rfl, hp⟩
    · have eg : g2_ c = 2 := if_neg hz
      rw [xn_s hz]
      refine ⟨17, ⟨[{ startPc := 0, endPc := 10, handlerPc := 13, catchType := 19 }], { startPc := 0, endPc := 10, handlerPc := 17, catchType := 13 }, [], "java/lang/IllegalArgumentException", rfl, fun z hz => by
        rw [List.mem_singleton.mp hz]
        exact Or.inr ⟨by decide, _, clkL_19, hX.2.2.2.2⟩, by decide, by decide, clkL_13, csA, rfl⟩, fun q => ?_⟩
      refine aw_b (pc' := 20) (lv' := (4, .ref q) :: [(0, .ref x), (1, .int i0), (2, .int i1), (3, .ref o)]) (st' := [.int 2]) [(17, .astore 4, 2, .null), (19, .iconst 2, 1, .int 2)] (by decide +kernel) rfl ?_
      refine aw_iret rfl (by decide) (by decide) (by decide +kernel) ?_
      rw [← hQ]
      exact ⟨by rw [eg], hp⟩
def hL_regretAgainst : hh_ := [(0, 10, 13, 13)]
def mL_regretAgainst : mt_ := (yL_regretAgainst, cL_regretAgainst, 5, some .int, tableOf hL_regretAgainst, { frames := 8, locals := 169, cells := 2, slots := 12 })
theorem ckL_regretAgainst : Cond.codeWith mL_regretAgainst.1 mL_regretAgainst.2.1 mL_regretAgainst.2.2.1 mL_regretAgainst.2.2.2.1 hL_regretAgainst ∈ uw_ := (uw_mem 1386 (by decide +kernel) (by decide +kernel))
theorem lkL_129 : Cond.methodLink RL 129 yX7_regretAgainst ∈ uw_ := (uw_mem 1387 (by decide +kernel) (by decide +kernel))
set_option maxHeartbeats 4000000 in
theorem wL_regretAgainst {E : ev_} {H : Heap} {x o : Nat} {i0 : Int32} {i1 : Int32} {v : Int32 ⊕ Nat} {P : Heap → Prop} {fs : List Value} (hX : exo_ E) (hs : sp_ E mX7_regretAgainst [.ref x, .int i0, .int i1] H (po1 (thr_ (fun y => some (.int y)) v) P)) (hA : at_ E H x (.inr (7, fs))) (hf : ev_fr E o) (ho : ∀ H1, P H1 → out0_ E o H1) (hv : ∀ c, v = .inr c → g1_ c ≠ 0) : spW_ E mL_regretAgainst hL_regretAgainst [.ref x, .int i0, .int i1, .ref o] H (wq_ E o g1_ (fun y => lo_ E y.toInt64) v P) := by
  refine spW_of (by decide +kernel) rfl rfl ?_
  generalize hQ : wq_ E o _ _ _ _ = Q
  refine aw_lv (lv' := [(0, .ref x), (1, .int i0), (2, .int i1), (3, .ref o)]) [0, 1, 2, 3] rfl ?_
  refine aw_b (pc' := 5) (lv' := [(0, .ref x), (1, .int i0), (2, .int i1), (3, .ref o)]) (st' := [.int i1, .int i0, .ref x, .int 0, .ref o]) [(0, .aload_n 3, 1, .null), (1, .iconst 0, 1, .int 0), (2, .aload_n 0, 1, .null), (3, .iload_n 1, 1, .null), (4, .iload_n 2, 1, .null)] (by decide +kernel) rfl ?_
  refine aw_cc (rest := [.int 0, .ref o]) (L := ly_M) (s := zs_) (u := 2) (u6 := 12) hs rfl ckX7_regretAgainst lkL_129 hA ⟨_, _, rfl⟩ nkX7_regretAgainst rfl rfl rfl rfl (Nat.le_of_ble_eq_true rfl) (by decide) (by decide) (by decide +kernel) (fun y H1 hv hp => ?_) (fun c H1 hc hp => ?_)
  · obtain ⟨e0, z0, q1, f0, rfl, q2⟩ := ho H1 hp
    show aw E mL_regretAgainst Q 8 [(0, .ref x), (1, .int i0), (2, .int i1), (3, .ref o)] [.int y, .int 0, .ref o] H1 2 12
    refine aw_b (pc' := 9) (lv' := [(0, .ref x), (1, .int i0), (2, .int i1), (3, .ref o)]) (st' := [.long y.toInt64, .int 0, .ref o]) [(8, .i2l, 1, .null)] (by decide +kernel) rfl ?_
    refine aw_last q1 hf (ib_in (by decide)) (by decide +kernel) (fun H2 w1 w2 => ?_)
    refine aw_b (pc' := 18) (lv' := [(0, .ref x), (1, .int i0), (2, .int i1), (3, .ref o)]) (st' := [.int 0]) [(10, .goto 7, 3, .null), (17, .iconst 0, 1, .int 0)] (by decide +kernel) rfl ?_
    refine aw_iret rfl (by decide) (by decide) (by decide +kernel) ?_
    subst hv
    rw [← hQ]
    exact ⟨rfl, H1, _, hp, w1, ⟨_, rfl, if_pos rfl⟩, w2⟩
  · have hc0 := hv c hc
    subst hc
    have hz : c ≠ 0 := fun z => by subst z; exact hc0 rfl
    have eg : g1_ c = 1 := if_neg hz
    rw [xn_s hz]
    refine ⟨13, ⟨[], { startPc := 0, endPc := 10, handlerPc := 13, catchType := 13 }, [], "java/lang/IllegalArgumentException", rfl, fun z hz => absurd hz List.not_mem_nil, by decide, by decide, clkL_13, csA, rfl⟩, fun q => ?_⟩
    refine aw_b (pc' := 16) (lv' := (4, .ref q) :: [(0, .ref x), (1, .int i0), (2, .int i1), (3, .ref o)]) (st' := [.int 1]) [(13, .astore 4, 2, .null), (15, .iconst 1, 1, .int 1)] (by decide +kernel) rfl ?_
    refine aw_iret rfl (by decide) (by decide) (by decide +kernel) ?_
    rw [← hQ]
    exact ⟨by rw [eg], hp⟩
def hL_rivalIn : hh_ := [(0, 9, 12, 13)]
def mL_rivalIn : mt_ := (yL_rivalIn, cL_rivalIn, 4, some .int, tableOf hL_rivalIn, { frames := 8, locals := 168, cells := 1, slots := 6 })
theorem ckL_rivalIn : Cond.codeWith mL_rivalIn.1 mL_rivalIn.2.1 mL_rivalIn.2.2.1 mL_rivalIn.2.2.2.1 hL_rivalIn ∈ uw_ := (uw_mem 1393 (by decide +kernel) (by decide +kernel))
theorem lkL_132 : Cond.methodLink RL 132 yX7_rivalIn ∈ uw_ := (uw_mem 1394 (by decide +kernel) (by decide +kernel))
set_option maxHeartbeats 4000000 in
theorem wL_rivalIn {E : ev_} {H : Heap} {x o : Nat} {i0 : Int32} {v : Int32 ⊕ Nat} {P : Heap → Prop} {fs : List Value} (hX : exo_ E) (hs : sp_ E mX7_rivalIn [.ref x, .int i0] H (po1 (thr_ (fun y => some (.int y)) v) P)) (hA : at_ E H x (.inr (7, fs))) (hf : ev_fr E o) (ho : ∀ H1, P H1 → out0_ E o H1) (hv : ∀ c, v = .inr c → g1_ c ≠ 0) : spW_ E mL_rivalIn hL_rivalIn [.ref x, .int i0, .ref o] H (wq_ E o g1_ (fun y => lo_ E y.toInt64) v P) := by
  refine spW_of (by decide +kernel) rfl rfl ?_
  generalize hQ : wq_ E o _ _ _ _ = Q
  refine aw_lv (lv' := [(0, .ref x), (1, .int i0), (2, .ref o)]) [0, 1, 2] rfl ?_
  refine aw_b (pc' := 4) (lv' := [(0, .ref x), (1, .int i0), (2, .ref o)]) (st' := [.int i0, .ref x, .int 0, .ref o]) [(0, .aload_n 2, 1, .null), (1, .iconst 0, 1, .int 0), (2, .aload_n 0, 1, .null), (3, .iload_n 1, 1, .null)] (by decide +kernel) rfl ?_
  refine aw_cc (rest := [.int 0, .ref o]) (L := ly_M) (s := zs_) (u := 1) (u6 := 6) hs rfl ckX7_rivalIn lkL_132 hA ⟨_, _, rfl⟩ nkX7_rivalIn rfl rfl rfl rfl (Nat.le_of_ble_eq_true rfl) (by decide) (by decide) (by decide +kernel) (fun y H1 hv hp => ?_) (fun c H1 hc hp => ?_)
  · obtain ⟨e0, z0, q1, f0, rfl, q2⟩ := ho H1 hp
    show aw E mL_rivalIn Q 7 [(0, .ref x), (1, .int i0), (2, .ref o)] [.int y, .int 0, .ref o] H1 1 6
    refine aw_b (pc' := 8) (lv' := [(0, .ref x), (1, .int i0), (2, .ref o)]) (st' := [.long y.toInt64, .int 0, .ref o]) [(7, .i2l, 1, .null)] (by decide +kernel) rfl ?_
    refine aw_last q1 hf (ib_in (by decide)) (by decide +kernel) (fun H2 w1 w2 => ?_)
    refine aw_b (pc' := 16) (lv' := [(0, .ref x), (1, .int i0), (2, .ref o)]) (st' := [.int 0]) [(9, .goto 6, 3, .null), (15, .iconst 0, 1, .int 0)] (by decide +kernel) rfl ?_
    refine aw_iret rfl (by decide) (by decide) (by decide +kernel) ?_
    subst hv
    rw [← hQ]
    exact ⟨rfl, H1, _, hp, w1, ⟨_, rfl, if_pos rfl⟩, w2⟩
  · have hc0 := hv c hc
    subst hc
    have hz : c ≠ 0 := fun z => by subst z; exact hc0 rfl
    have eg : g1_ c = 1 := if_neg hz
    rw [xn_s hz]
    refine ⟨12, ⟨[], { startPc := 0, endPc := 9, handlerPc := 12, catchType := 13 }, [], "java/lang/IllegalArgumentException", rfl, fun z hz => absurd hz List.not_mem_nil, by decide, by decide, clkL_13, csA, rfl⟩, fun q => ?_⟩
    refine aw_b (pc' := 14) (lv' := (3, .ref q) :: [(0, .ref x), (1, .int i0), (2, .ref o)]) (st' := [.int 1]) [(12, .astore_n 3, 1, .null), (13, .iconst 1, 1, .int 1)] (by decide +kernel) rfl ?_
    refine aw_iret rfl (by decide) (by decide) (by decide +kernel) ?_
    rw [← hQ]
    exact ⟨by rw [eg], hp⟩
def hL_saveSnapshot : hh_ := [(0, 9, 12, 13)]
def mL_saveSnapshot : mt_ := (yL_saveSnapshot, cL_saveSnapshot, 4, some .int, tableOf hL_saveSnapshot, { frames := 8, locals := 143, cells := 76, slots := 8905 })
theorem ckL_saveSnapshot : Cond.codeWith mL_saveSnapshot.1 mL_saveSnapshot.2.1 mL_saveSnapshot.2.2.1 mL_saveSnapshot.2.2.2.1 hL_saveSnapshot ∈ uw_ := (uw_mem 1400 (by decide +kernel) (by decide +kernel))
theorem lkL_135 : Cond.methodLink RL 135 yX7_saveSnapshot ∈ uw_ := (uw_mem 1401 (by decide +kernel) (by decide +kernel))
set_option maxHeartbeats 4000000 in
theorem wL_saveSnapshot {E : ev_} {H : Heap} {x o : Nat} {i0 : Int32} {v : Int32 ⊕ Nat} {P : Heap → Prop} {fs : List Value} (hX : exo_ E) (hs : sp_ E mS7_save [.ref x, .int i0] H (po1 (thr_ (fun y => some (.int y)) v) P)) (hA : at_ E H x (.inr (7, fs))) (hf : ev_fr E o) (ho : ∀ H1, P H1 → out0_ E o H1) (hv : ∀ c, v = .inr c → g1_ c ≠ 0) : spW_ E mL_saveSnapshot hL_saveSnapshot [.ref x, .int i0, .ref o] H (wq_ E o g1_ (fun y => lo_ E y.toInt64) v P) := by
  refine spW_of (by decide +kernel) rfl rfl ?_
  generalize hQ : wq_ E o _ _ _ _ = Q
  refine aw_lv (lv' := [(0, .ref x), (1, .int i0), (2, .ref o)]) [0, 1, 2] rfl ?_
  refine aw_b (pc' := 4) (lv' := [(0, .ref x), (1, .int i0), (2, .ref o)]) (st' := [.int i0, .ref x, .int 0, .ref o]) [(0, .aload_n 2, 1, .null), (1, .iconst 0, 1, .int 0), (2, .aload_n 0, 1, .null), (3, .iload_n 1, 1, .null)] (by decide +kernel) rfl ?_
  refine aw_cc (rest := [.int 0, .ref o]) (L := ly_M) (s := zs_) (u := 76) (u6 := 8905) hs rfl ckS7_save lkL_135 hA ⟨_, _, rfl⟩ nkS7_save rfl rfl rfl rfl (Nat.le_of_ble_eq_true rfl) (by decide) (by decide) (by decide +kernel) (fun y H1 hv hp => ?_) (fun c H1 hc hp => ?_)
  · obtain ⟨e0, z0, q1, f0, rfl, q2⟩ := ho H1 hp
    show aw E mL_saveSnapshot Q 7 [(0, .ref x), (1, .int i0), (2, .ref o)] [.int y, .int 0, .ref o] H1 76 8905
    refine aw_b (pc' := 8) (lv' := [(0, .ref x), (1, .int i0), (2, .ref o)]) (st' := [.long y.toInt64, .int 0, .ref o]) [(7, .i2l, 1, .null)] (by decide +kernel) rfl ?_
    refine aw_last q1 hf (ib_in (by decide)) (by decide +kernel) (fun H2 w1 w2 => ?_)
    refine aw_b (pc' := 16) (lv' := [(0, .ref x), (1, .int i0), (2, .ref o)]) (st' := [.int 0]) [(9, .goto 6, 3, .null), (15, .iconst 0, 1, .int 0)] (by decide +kernel) rfl ?_
    refine aw_iret rfl (by decide) (by decide) (by decide +kernel) ?_
    subst hv
    rw [← hQ]
    exact ⟨rfl, H1, _, hp, w1, ⟨_, rfl, if_pos rfl⟩, w2⟩
  · have hc0 := hv c hc
    subst hc
    have hz : c ≠ 0 := fun z => by subst z; exact hc0 rfl
    have eg : g1_ c = 1 := if_neg hz
    rw [xn_s hz]
    refine ⟨12, ⟨[], { startPc := 0, endPc := 9, handlerPc := 12, catchType := 13 }, [], "java/lang/IllegalArgumentException", rfl, fun z hz => absurd hz List.not_mem_nil, by decide, by decide, clkL_13, csA, rfl⟩, fun q => ?_⟩
    refine aw_b (pc' := 14) (lv' := (3, .ref q) :: [(0, .ref x), (1, .int i0), (2, .ref o)]) (st' := [.int 1]) [(12, .astore_n 3, 1, .null), (13, .iconst 1, 1, .int 1)] (by decide +kernel) rfl ?_
    refine aw_iret rfl (by decide) (by decide) (by decide +kernel) ?_
    rw [← hQ]
    exact ⟨by rw [eg], hp⟩
def hL_restoreSnapshot : hh_ := [(0, 9, 12, 13)]
def mL_restoreSnapshot : mt_ := (yL_restoreSnapshot, cL_restoreSnapshot, 4, some .int, tableOf hL_restoreSnapshot, { frames := 8, locals := 143, cells := 1, slots := 6 })
theorem ckL_restoreSnapshot : Cond.codeWith mL_restoreSnapshot.1 mL_restoreSnapshot.2.1 mL_restoreSnapshot.2.2.1 mL_restoreSnapshot.2.2.2.1 hL_restoreSnapshot ∈ uw_ := (uw_mem 1417 (by decide +kernel) (by decide +kernel))
theorem lkL_138 : Cond.methodLink RL 138 yX7_restoreSnapshot ∈ uw_ := (uw_mem 1418 (by decide +kernel) (by decide +kernel))
set_option maxHeartbeats 4000000 in
theorem wL_restoreSnapshot {E : ev_} {H : Heap} {x o : Nat} {i0 : Int32} {v : Int32 ⊕ Nat} {P : Heap → Prop} {fs : List Value} (hX : exo_ E) (hs : sp_ E mS7_rest [.ref x, .int i0] H (po1 (thr_ (fun y => some (.int y)) v) P)) (hA : at_ E H x (.inr (7, fs))) (hf : ev_fr E o) (ho : ∀ H1, P H1 → out0_ E o H1) (hv : ∀ c, v = .inr c → g1_ c ≠ 0) : spW_ E mL_restoreSnapshot hL_restoreSnapshot [.ref x, .int i0, .ref o] H (wq_ E o g1_ (fun y => lo_ E y.toInt64) v P) := by
  refine spW_of (by decide +kernel) rfl rfl ?_
  generalize hQ : wq_ E o _ _ _ _ = Q
  refine aw_lv (lv' := [(0, .ref x), (1, .int i0), (2, .ref o)]) [0, 1, 2] rfl ?_
  refine aw_b (pc' := 4) (lv' := [(0, .ref x), (1, .int i0), (2, .ref o)]) (st' := [.int i0, .ref x, .int 0, .ref o]) [(0, .aload_n 2, 1, .null), (1, .iconst 0, 1, .int 0), (2, .aload_n 0, 1, .null), (3, .iload_n 1, 1, .null)] (by decide +kernel) rfl ?_
  refine aw_cc (rest := [.int 0, .ref o]) (L := ly_M) (s := zs_) (u := 1) (u6 := 6) hs rfl ckS7_rest lkL_138 hA ⟨_, _, rfl⟩ nkS7_rest rfl rfl rfl rfl (Nat.le_of_ble_eq_true rfl) (by decide) (by decide) (by decide +kernel) (fun y H1 hv hp => ?_) (fun c H1 hc hp => ?_)
  · obtain ⟨e0, z0, q1, f0, rfl, q2⟩ := ho H1 hp
    show aw E mL_restoreSnapshot Q 7 [(0, .ref x), (1, .int i0), (2, .ref o)] [.int y, .int 0, .ref o] H1 1 6
    refine aw_b (pc' := 8) (lv' := [(0, .ref x), (1, .int i0), (2, .ref o)]) (st' := [.long y.toInt64, .int 0, .ref o]) [(7, .i2l, 1, .null)] (by decide +kernel) rfl ?_
    refine aw_last q1 hf (ib_in (by decide)) (by decide +kernel) (fun H2 w1 w2 => ?_)
    refine aw_b (pc' := 16) (lv' := [(0, .ref x), (1, .int i0), (2, .ref o)]) (st' := [.int 0]) [(9, .goto 6, 3, .null), (15, .iconst 0, 1, .int 0)] (by decide +kernel) rfl ?_
    refine aw_iret rfl (by decide) (by decide) (by decide +kernel) ?_
    subst hv
    rw [← hQ]
    exact ⟨rfl, H1, _, hp, w1, ⟨_, rfl, if_pos rfl⟩, w2⟩
  · have hc0 := hv c hc
    subst hc
    have hz : c ≠ 0 := fun z => by subst z; exact hc0 rfl
    have eg : g1_ c = 1 := if_neg hz
    rw [xn_s hz]
    refine ⟨12, ⟨[], { startPc := 0, endPc := 9, handlerPc := 12, catchType := 13 }, [], "java/lang/IllegalArgumentException", rfl, fun z hz => absurd hz List.not_mem_nil, by decide, by decide, clkL_13, csA, rfl⟩, fun q => ?_⟩
    refine aw_b (pc' := 14) (lv' := (3, .ref q) :: [(0, .ref x), (1, .int i0), (2, .ref o)]) (st' := [.int 1]) [(12, .astore_n 3, 1, .null), (13, .iconst 1, 1, .int 1)] (by decide +kernel) rfl ?_
    refine aw_iret rfl (by decide) (by decide) (by decide +kernel) ?_
    rw [← hQ]
    exact ⟨by rw [eg], hp⟩
