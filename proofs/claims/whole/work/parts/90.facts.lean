/-! what the calls do, in the form of the law: printed by wip/whole/gen_90.py -/
section CF
variable {E : ev_} {G : lx_} {H : Heap} {s t : st_} {f : Nat → Option Nat}
theorem share_n {s : st_} {i0 : Int32} {v : UInt32} (h : fX7_share s i0 = some (.inl v)) : FP.Core.fIsNaN v = false := by
  unfold fX7_share at h
  obtain ⟨r1, e1, h⟩ := bn_x h
  cases r1 with
  | inr c => cases h
  | inl x =>
    obtain ⟨r7, e7, h⟩ := bn_x h
    split at h
    · cases h
      decide +kernel
    · rename_i hne
      obtain ⟨_, h⟩ := gd_x h
      obtain ⟨_, h⟩ := gd_x h
      cases h
      refine FP.Core.fdiv_out ((FP.Core.notNaN_iff32 _).mpr (FP.Core.i2f_fin _).ne_nan) (FP.Core.i2f_fin _) (fun z => ?_)
      exact FP.Core.i2f_ne_zero hne ((FP.Core.zero_bits232 _).mp z)
theorem mean_n {s : st_} {i0 : Int32} {v : UInt64} (h : fX7_meanCost s i0 = some (.inl v)) : FP.Core.dIsNaN v = false := by
  unfold fX7_meanCost at h
  obtain ⟨r1, e1, h⟩ := bn_x h
  cases r1 with
  | inr c => cases h
  | inl x =>
    split at h
    · cases h
      decide +kernel
    · rename_i hne
      obtain ⟨r7, e7, h⟩ := bn_x h
      obtain ⟨_, h⟩ := gd_x h
      cases h
      refine FP.Core.ddiv_out ((FP.Core.notNaN_iff _).mpr (FP.Core.i2d_fin _).ne_nan) (FP.Core.i2d_fin _) (fun z => ?_)
      exact FP.Core.i2d_ne_zero hne ((FP.Core.zero_bits2 _).mp z)
theorem QNg.cl {α : Type} {M : mt_} {av : List Value} {fv : α → Option Value} {g : Nat → Int32} {A : Option (α ⊕ Nat)} {F : Option (st_ × α)} (q : QNg g t A F) (Z : α → Prop) (hz : ∀ v, A = some (.inl v) → Z v) (hF : FF s t) (hg : ge_ E G) (hb : LB_ E G H s t f) (hs0 : SN_ E H (lP G + 1) f t) (hs : ∀ r, A = some r → sp_ E M av H (po1 (thr_ fv r) (fun Hn => sm_ H Hn 0 0))) : CL_ E G H M av fv g t F Z := by
  obtain ⟨s', v, t', y, h1, h2, h3, ⟨h4, h5⟩, h6⟩ := q.ct (f := fv) hF hb.2.1 hs Z hz
  obtain ⟨g1, g2, g3, g4, g5, g6⟩ := id hg
  exact ⟨s', v, t', y, _, h1, h2, h3, h4, h6, fun H1 q => ⟨f, hb.cls hg q.1 q.2, (hs0.kept q.1 (by omega)).md h5⟩⟩
theorem cf_3 (hF : FF s t) (hg : ge_ E G) (hb : LB_ E G H s t f) (hs0 : SN_ E H (lP G + 1) f t) (i0 : Int32) : CL_ E G H mX7_setting [.ref (lA G), .int i0] vi_ g1_ t (fX8_setting t i0) (fun _ => True) := by
  obtain ⟨C, R, n, T, hH⟩ := hF.1
  exact CT_.cl ((setting_p hH i0).ct hF hb.2.1 (fun r e => kX7_setting e hb.2.1)) hg hb hs0
theorem cf_4 (hF : FF s t) (hg : ge_ E G) (hb : LB_ E G H s t f) (hs0 : SN_ E H (lP G + 1) f t) (i0 i1 : Int32) : CL_ E G H mX7_rule [.ref (lA G), .int i0, .int i1] vi_ g2_ t (fX8_rule t i0 i1) (fun _ => True) := by
  obtain ⟨C, R, n, T, hH⟩ := hF.1
  exact CT_.cl ((rule_p hH i0 i1).ct hF hb.2.1 (fun r e => kX7_rule e hb.2.1)) hg hb hs0
theorem cf_5 (hF : FF s t) (hg : ge_ E G) (hb : LB_ E G H s t f) (i0 : Int32) : CV_ E H (lA G) mX7_ask [.ref (lA G), .int i0] t (fX8_ask t i0) := by
  obtain ⟨C, R, n, T, hH⟩ := hF.1
  exact (ask_p hH i0).cv hF hb.2.1 (fun r e => kX7_ask e hb.2.1)
theorem cf_6 (hF : FF s t) (hg : ge_ E G) (hb : LB_ E G H s t f) (hs0 : SN_ E H (lP G + 1) f t) (i0 : Int32) : CL_ E G H mX7_request [.ref (lA G), .int i0] vi_ g1_ t (fX8_request t i0) (fun _ => True) := by
  obtain ⟨C, R, n, T, hH⟩ := hF.1
  exact CT_.cl ((request_p hH i0).ct hF (fun r e => kX7_request e hb.2.1 hg.1)) hg hb hs0
theorem cf_7 (hF : FF s t) (hg : ge_ E G) (hb : LB_ E G H s t f) (hs0 : SN_ E H (lP G + 1) f t) (i0 : Int32) : CL_ E G H mX7_setFoe [.ref (lA G), .int i0] vi_ g1_ t (fX8_setFoe t i0) (fun _ => True) := by
  obtain ⟨C, R, n, T, hH⟩ := hF.1
  exact CT_.cl ((setFoe_p hH i0).ct hF (fun r e => kX7_setFoe e hb.2.1 hg.1)) hg hb hs0
theorem cf_8 (hF : FF s t) (hg : ge_ E G) (hb : LB_ E G H s t f) (hs0 : SN_ E H (lP G + 1) f t) (i0 i1 : Int32) : CL_ E G H mX7_setMaster [.ref (lA G), .int i0, .int i1] vi_ g3_ t (fX8_setMaster t i0 i1) (fun _ => True) := by
  obtain ⟨C, R, n, T, hH⟩ := hF.1
  exact CT_.cl ((setMaster_p hH i0 i1).ct hF (fun r e => kX7_setMaster e hb.2.1 hg.1)) hg hb hs0
theorem cf_9 (hF : FF s t) (hg : ge_ E G) (hb : LB_ E G H s t f) (hs0 : SN_ E H (lP G + 1) f t) (i0 : Int32) : CL_ E G H mX7_setEta [.ref (lA G), .int i0] vi_ g1_ t (fX8_setEta t i0) (fun _ => True) := by
  obtain ⟨C, R, n, T, hH⟩ := hF.1
  exact CT_.cl ((setEta_p hH i0).ct hF (fun r e => kX7_setEta e hb.2.1 hg.1)) hg hb hs0
theorem cf_10 (hF : FF s t) (hg : ge_ E G) (hb : LB_ E G H s t f) (hs0 : SN_ E H (lP G + 1) f t) (i0 : Int32) : CL_ E G H mX7_setBudget [.ref (lA G), .int i0] vi_ g1_ t (fX8_setBudget t i0) (fun _ => True) := by
  obtain ⟨C, R, n, T, hH⟩ := hF.1
  exact CT_.cl ((setBudget_p hH i0).ct hF (fun r e => kX7_setBudget e hb.2.1 hg.1)) hg hb hs0
theorem cf_11 (hF : FF s t) (hg : ge_ E G) (hb : LB_ E G H s t f) (hs0 : SN_ E H (lP G + 1) f t) (i0 i1 : Int32) : CL_ E G H mX7_setBound [.ref (lA G), .int i0, .int i1] vi_ g1_ t (fX8_setBound t i0 i1) (fun _ => True) := by
  obtain ⟨C, R, n, T, hH⟩ := hF.1
  exact CT_.cl ((setBound_p hH i0 i1).ct hF (fun r e => kX7_setBound e hb.2.1 hg.1)) hg hb hs0
theorem cf_12 (hF : FF s t) (hg : ge_ E G) (hb : LB_ E G H s t f) (hs0 : SN_ E H (lP G + 1) f t) (i0 : Int32) : CL_ E G H mX7_addAsk [.ref (lA G), .int i0] vi_ g1_ t (fX8_addAsk t i0) (fun _ => True) := by
  obtain ⟨C, R, n, T, hH⟩ := hF.1
  exact CT_.cl ((addAsk_p hH i0).ct hF (fun r e => kX7_addAsk e hb.2.1 hg.1)) hg hb hs0
theorem cf_13 (hF : FF s t) (hg : ge_ E G) (hb : LB_ E G H s t f) : CV_ E H (lA G) mX7_evenWeights [.ref (lA G)] t (fX8_evenWeights t) := by
  obtain ⟨C, R, n, T, hH⟩ := hF.1
  exact (evenWeights_p hH).cv hF (fun r e => kX7_evenWeights e hb.2.1 hg.1)
theorem cf_14 (hF : FF s t) (hg : ge_ E G) (hb : LB_ E G H s t f) (hs0 : SN_ E H (lP G + 1) f t) (i0 i1 : Int32) : CL_ E G H mX7_arm [.ref (lA G), .int i0, .int i1] vi_ g2_ t (fX8_arm t i0 i1) (fun _ => True) := by
  obtain ⟨C, R, n, T, hH⟩ := hF.1
  exact CT_.cl ((arm_p hH i0 i1).ct hF hb.2.1 (fun r e => kX7_arm e hb.2.1)) hg hb hs0
theorem cf_15 (hF : FF s t) (hg : ge_ E G) (hb : LB_ E G H s t f) (hs0 : SN_ E H (lP G + 1) f t) (i0 i1 i2 : Int32) : CL_ E G H mX7_waiting [.ref (lA G), .int i0, .int i1, .int i2] vi_ g2_ t (fX8_waiting t i0 i1 i2) (fun _ => True) := by
  obtain ⟨C, R, n, T, hH⟩ := hF.1
  exact CT_.cl ((waiting_p hH i0 i1 i2).ct hF hb.2.1 (fun r e => kX7_waiting e hb.2.1)) hg hb hs0
theorem cf_16 (hF : FF s t) (hg : ge_ E G) (hb : LB_ E G H s t f) (hs0 : SN_ E H (lP G + 1) f t) (i0 i1 : Int32) : CL_ E G H mX7_wouldServe [.ref (lA G), .int i0, .int i1] vi_ g1i_ t (fX8_wouldServe t i0 i1) (fun _ => True) := by
  obtain ⟨C, R, n, T, hH⟩ := hF.1
  exact CT_.cl ((wouldServe_p hH i0 i1).ct hF hb.2.1 (fun r e => kX7_wouldServe e hb.2.1)) hg hb hs0
theorem cf_17 (hF : FF s t) (hg : ge_ E G) (hb : LB_ E G H s t f) (hs0 : SN_ E H (lP G + 1) f t) (i0 : Int32) : CL_ E G H mX7_optimum [.ref (lA G), .int i0] vi_ g1_ t (fX8_optimum t i0) (fun _ => True) := by
  obtain ⟨C, R, n, T, hH⟩ := hF.1
  exact CT_.cl ((optimum_p hH i0).ct hF (fun r e => kX7_optimum e hb.2.1 hg.1)) hg hb hs0
theorem cf_18 (hF : FF s t) (hg : ge_ E G) (hb : LB_ E G H s t f) (hs0 : SN_ E H (lP G + 1) f t) (i0 i1 : Int32) : CL_ E G H mX7_optimumAt [.ref (lA G), .int i0, .int i1] vi_ g1_ t (fX8_optimumAt t i0 i1) (fun _ => True) := by
  obtain ⟨C, R, n, T, hH⟩ := hF.1
  exact CT_.cl ((optimumAt_p hH i0 i1).ct hF (fun r e => kX7_optimumAt e hb.2.1 hg.1)) hg hb hs0
theorem cf_19 (hF : FF s t) (hg : ge_ E G) (hb : LB_ E G H s t f) : CV_ E H (lA G) mX7_nextRule [.ref (lA G)] t (fX8_nextRule t) := by
  obtain ⟨C, R, n, T, hH⟩ := hF.1
  exact (nextRule_p hH).cv hF hb.2.1 (fun r e => kX7_nextRule e hb.2.1)
theorem cf_20 (hF : FF s t) (hg : ge_ E G) (hb : LB_ E G H s t f) (hs0 : SN_ E H (lP G + 1) f t) (i0 i1 : Int32) : CL_ E G H mX7_served [.ref (lA G), .int i0, .int i1] vi_ g1_ t (fX8_served t i0 i1) (fun _ => True) := by
  obtain ⟨C, R, n, T, hH⟩ := hF.1
  exact CT_.cl ((served_p hH i0 i1).ct hF hb.2.1 (fun r e => kX7_served e hb.2.1)) hg hb hs0
theorem cf_21 (hF : FF s t) (hg : ge_ E G) (hb : LB_ E G H s t f) : CV_ E H (lA G) mX7_rounds [.ref (lA G)] t (fX8_rounds_ t) := by
  obtain ⟨C, R, n, T, hH⟩ := hF.1
  exact (rounds_p hH).cv hF hb.2.1 (fun r e => kX7_rounds e hb.2.1)
theorem cf_22 (hF : FF s t) (hg : ge_ E G) (hb : LB_ E G H s t f) (hs0 : SN_ E H (lP G + 1) f t) (i0 : Int32) : CL_ E G H mX7_regret [.ref (lA G), .int i0] vi_ g1_ t (fX8_regret t i0) (fun _ => True) := by
  obtain ⟨C, R, n, T, hH⟩ := hF.1
  exact CT_.cl ((regret_p hH i0).ct hF hb.2.1 (fun r e => kX7_regret e hb.2.1)) hg hb hs0
theorem cf_23 (hF : FF s t) (hg : ge_ E G) (hb : LB_ E G H s t f) : CV_ E H (lA G) mX7_best [.ref (lA G)] t (fX8_best t) := by
  obtain ⟨C, R, n, T, hH⟩ := hF.1
  exact (best_q hH).cv hF hb.2.1 (fun r e => kX7_best e hb.2.1)
theorem cf_24 (hF : FF s t) (hg : ge_ E G) (hb : LB_ E G H s t f) (hs0 : SN_ E H (lP G + 1) f t) (i0 : Int32) : CL_ E G H mX7_regretTo [.ref (lA G), .int i0] vi_ g1i_ t (fX8_regretTo t i0) (fun _ => True) := by
  obtain ⟨C, R, n, T, hH⟩ := hF.1
  exact CT_.cl ((regretTo_p hH i0).ct hF hb.2.1 (fun r e => kX7_regretTo e hb.2.1)) hg hb hs0
theorem cf_25 (hF : FF s t) (hg : ge_ E G) (hb : LB_ E G H s t f) (hs0 : SN_ E H (lP G + 1) f t) (i0 i1 : Int32) : CL_ E G H mX7_swapCost [.ref (lA G), .int i0, .int i1] vi_ g1i_ t (fX8_swapCost t i0 i1) (fun _ => True) := by
  obtain ⟨C, R, n, T, hH⟩ := hF.1
  exact CT_.cl ((swapCost_p hH i0 i1).ct hF hb.2.1 (fun r e => kX7_swapCost e hb.2.1)) hg hb hs0
theorem cf_26 (hF : FF s t) (hg : ge_ E G) (hb : LB_ E G H s t f) : CV_ E H (lA G) mX7_swapRegret [.ref (lA G)] t (fX8_swapRegret t) := by
  obtain ⟨C, R, n, T, hH⟩ := hF.1
  exact (swapRegret_p hH).cv hF hb.2.1 (fun r e => kX7_swapRegret e hb.2.1)
theorem cf_27 (hF : FF s t) (hg : ge_ E G) (hb : LB_ E G H s t f) (hs0 : SN_ E H (lP G + 1) f t) (i0 : Int32) : CL_ E G H mX7_bestSwap [.ref (lA G), .int i0] vi_ g1i_ t (fX8_bestSwap t i0) (fun _ => True) := by
  obtain ⟨C, R, n, T, hH⟩ := hF.1
  exact CT_.cl ((bestSwap_p hH i0).ct hF hb.2.1 (fun r e => kX7_bestSwap e hb.2.1)) hg hb hs0
theorem cf_28 (hF : FF s t) (hg : ge_ E G) (hb : LB_ E G H s t f) (hs0 : SN_ E H (lP G + 1) f t) (i0 : Int32) : CL_ E G H mX7_rival [.ref (lA G), .int i0] vi_ g1_ t (fX8_rival t i0) (fun _ => True) := by
  obtain ⟨C, R, n, T, hH⟩ := hF.1
  exact CT_.cl ((rival_p hH i0).ct hF hb.2.1 (fun r e => kX7_rival e hb.2.1)) hg hb hs0
theorem cf_29 (hF : FF s t) (hg : ge_ E G) (hb : LB_ E G H s t f) (hs0 : SN_ E H (lP G + 1) f t) (i0 i1 : Int32) : CL_ E G H mX7_cost [.ref (lA G), .int i0, .int i1] vi_ g1i_ t (fX8_cost t i0 i1) (fun _ => True) := by
  obtain ⟨C, R, n, T, hH⟩ := hF.1
  exact CT_.cl ((cost_p hH i0 i1).ct hF hb.2.1 (fun r e => kX7_cost e hb.2.1)) hg hb hs0
theorem cf_30 (hF : FF s t) (hg : ge_ E G) (hb : LB_ E G H s t f) (i0 : Int32) : CV_ E H (lA G) mX7_taken [.ref (lA G), .int i0] t (fX8_taken t i0) := by
  obtain ⟨C, R, n, T, hH⟩ := hF.1
  exact (taken_p hH i0).cv hF hb.2.1 (fun r e => kX7_taken e hb.2.1)
theorem cf_31 (hF : FF s t) (hg : ge_ E G) (hb : LB_ E G H s t f) (hs0 : SN_ E H (lP G + 1) f t) (i0 : Int32) : CL_ E G H mX7_bestPair [.ref (lA G), .int i0] vi_ g1_ t (fX8_bestPair t i0) (fun _ => True) := by
  obtain ⟨C, R, n, T, hH⟩ := hF.1
  exact CT_.cl ((bestPair_p hH i0).ct hF hb.2.1 (fun r e => kX7_bestPair e hb.2.1)) hg hb hs0
theorem cf_32 (hF : FF s t) (hg : ge_ E G) (hb : LB_ E G H s t f) (hs0 : SN_ E H (lP G + 1) f t) (i0 i1 : Int32) : CL_ E G H mX7_cheaper [.ref (lA G), .int i0, .int i1] vi_ g1i_ t (fX8_cheaper t i0 i1) (fun _ => True) := by
  obtain ⟨C, R, n, T, hH⟩ := hF.1
  exact CT_.cl ((cheaper_p hH i0 i1).ct hF hb.2.1 (fun r e => kX7_cheaper e hb.2.1)) hg hb hs0
theorem cf_33 (hF : FF s t) (hg : ge_ E G) (hb : LB_ E G H s t f) (hs0 : SN_ E H (lP G + 1) f t) (i0 : Int32) : CL_ E G H mX7_leads [.ref (lA G), .int i0] vi_ g1i_ t (fX8_leads t i0) (fun _ => True) := by
  obtain ⟨C, R, n, T, hH⟩ := hF.1
  exact CT_.cl ((leads_p hH i0).ct hF hb.2.1 (fun r e => kX7_leads e hb.2.1)) hg hb hs0
theorem cf_34 (hF : FF s t) (hg : ge_ E G) (hb : LB_ E G H s t f) : CV_ E H (lA G) mX7_switches [.ref (lA G)] t (fX8_switches t) := by
  obtain ⟨C, R, n, T, hH⟩ := hF.1
  exact (switches_p hH).cv hF hb.2.1 (fun r e => kX7_switches e hb.2.1)
theorem cf_35 (hF : FF s t) (hg : ge_ E G) (hb : LB_ E G H s t f) (hs0 : SN_ E H (lP G + 1) f t) (i0 : Int32) : CL_ E G H mX7_streak [.ref (lA G), .int i0] vi_ g1i_ t (fX8_streak t i0) (fun _ => True) := by
  obtain ⟨C, R, n, T, hH⟩ := hF.1
  exact CT_.cl ((streak_p hH i0).ct hF hb.2.1 (fun r e => kX7_streak e hb.2.1)) hg hb hs0
theorem cf_36 (hF : FF s t) (hg : ge_ E G) (hb : LB_ E G H s t f) (hs0 : SN_ E H (lP G + 1) f t) (i0 i1 : Int32) : CL_ E G H mX7_dearest [.ref (lA G), .int i0, .int i1] vi_ g2_ t (fX8_dearest t i0 i1) (fun _ => True) := by
  obtain ⟨C, R, n, T, hH⟩ := hF.1
  exact CT_.cl ((dearest_p hH i0 i1).ct hF hb.2.1 (fun r e => kX7_dearest e hb.2.1)) hg hb hs0
theorem cf_37 (hF : FF s t) (hg : ge_ E G) (hb : LB_ E G H s t f) (hs0 : SN_ E H (lP G + 1) f t) (i0 i1 : Int32) : CL_ E G H mX7_windowRegret [.ref (lA G), .int i0, .int i1] vi_ g1_ t (fX8_windowRegret t i0 i1) (fun _ => True) := by
  obtain ⟨C, R, n, T, hH⟩ := hF.1
  exact CT_.cl ((windowRegret_p hH i0 i1).ct hF hb.2.1 (fun r e => kX7_windowRegret e hb.2.1)) hg hb hs0
theorem cf_38 (hF : FF s t) (hg : ge_ E G) (hb : LB_ E G H s t f) (hs0 : SN_ E H (lP G + 1) f t) (i0 i1 : Int32) : CL_ E G H mX7_windowBest [.ref (lA G), .int i0, .int i1] vi_ g1_ t (fX8_windowBest t i0 i1) (fun _ => True) := by
  obtain ⟨C, R, n, T, hH⟩ := hF.1
  exact CT_.cl ((windowBest_p hH i0 i1).ct hF hb.2.1 (fun r e => kX7_windowBest e hb.2.1)) hg hb hs0
theorem cf_39 (hF : FF s t) (hg : ge_ E G) (hb : LB_ E G H s t f) (hs0 : SN_ E H (lP G + 1) f t) (i0 : Int32) : CL_ E G H mX7_worstWindow [.ref (lA G), .int i0] vi_ g1_ t (fX8_worstWindow t i0) (fun _ => True) := by
  obtain ⟨C, R, n, T, hH⟩ := hF.1
  exact CT_.cl ((worstWindow_p hH i0).ct hF hb.2.1 (fun r e => kX7_worstWindow e hb.2.1)) hg hb hs0
theorem cf_40 (hF : FF s t) (hg : ge_ E G) (hb : LB_ E G H s t f) (hs0 : SN_ E H (lP G + 1) f t) (i0 : Int32) : CL_ E G H mX7_meanCost [.ref (lA G), .int i0] (fun y => some (.double y)) g1i_ t (fX8_meanCost t i0) (fun y => FP.Core.dIsNaN y = false) := by
  obtain ⟨C, R, n, T, hH⟩ := hF.1
  exact (meanCost_p hH i0).cl (fun y => FP.Core.dIsNaN y = false) (fun v e => mean_n e) hF hg hb hs0 (fun r e => kX7_meanCost e hb.2.1)
theorem cf_41 (hF : FF s t) (hg : ge_ E G) (hb : LB_ E G H s t f) (hs0 : SN_ E H (lP G + 1) f t) (i0 : Int32) : CL_ E G H mX7_share [.ref (lA G), .int i0] (fun y => some (.float y)) g1i_ t (fX8_share t i0) (fun y => FP.Core.fIsNaN y = false) := by
  obtain ⟨C, R, n, T, hH⟩ := hF.1
  exact (share_p hH i0).cl (fun y => FP.Core.fIsNaN y = false) (fun v e => share_n e) hF hg hb hs0 (fun r e => kX7_share e hb.2.1)
theorem cf_42 (hF : FF s t) (hg : ge_ E G) (hb : LB_ E G H s t f) (hs0 : SN_ E H (lP G + 1) f t) (i0 : Int32) : CL_ E G H mX7_run [.ref (lA G), .int i0] vi_ g1_ t (fX8_run t i0) (fun _ => True) := by
  obtain ⟨C, R, n, T, hH⟩ := hF.1
  exact CT_.cl ((run_p hH i0).ct hF (fun r e => kX7_run e hb.2.1 hg.1)) hg hb hs0
theorem cf_43 (hF : FF s t) (hg : ge_ E G) (hb : LB_ E G H s t f) (hs0 : SN_ E H (lP G + 1) f t) (i0 : Int32) : CL_ E G H mX7_runToBreach [.ref (lA G), .int i0] vi_ g1_ t (fX8_runToBreach t i0) (fun _ => True) := by
  obtain ⟨C, R, n, T, hH⟩ := hF.1
  exact CT_.cl ((runToBreach_p hH i0).ct hF (fun r e => kX7_runToBreach e hb.2.1 hg.1)) hg hb hs0
theorem cf_44 (hF : FF s t) (hg : ge_ E G) (hb : LB_ E G H s t f) (hs0 : SN_ E H (lP G + 1) f t) (i0 : Int32) : CL_ E G H mX7_hurtOf [.ref (lA G), .int i0] vi_ g1_ t (fX8_hurtOf t i0) (fun _ => True) := by
  obtain ⟨C, R, n, T, hH⟩ := hF.1
  exact CT_.cl ((hurtOf_p hH i0).ct hF (fun r e => kX7_hurtOf e hb.2.1 hg.1)) hg hb hs0
theorem cf_45 (hF : FF s t) (hg : ge_ E G) (hb : LB_ E G H s t f) : CV_ E H (lA G) mX7_worst [.ref (lA G)] t (fX8_worst t) := by
  obtain ⟨C, R, n, T, hH⟩ := hF.1
  exact (worst_q hH).cv hF (fun r e => kX7_worst e hb.2.1 hg.1)
theorem cf_46 (hF : FF s t) (hg : ge_ E G) (hb : LB_ E G H s t f) (hs0 : SN_ E H (lP G + 1) f t) (i0 : Int32) : CL_ E G H mX7_regretIn [.ref (lA G), .int i0] vi_ g1_ t (fX8_regretIn t i0) (fun _ => True) := by
  obtain ⟨C, R, n, T, hH⟩ := hF.1
  exact CT_.cl ((regretIn_p hH.pp i0).ct hF (fun r e => kX7_regretIn e hb.2.1 hg.1)) hg hb hs0
theorem cf_47 (hF : FF s t) (hg : ge_ E G) (hb : LB_ E G H s t f) (hs0 : SN_ E H (lP G + 1) f t) (i0 i1 : Int32) : CL_ E G H mX7_costIn [.ref (lA G), .int i0, .int i1] vi_ g2_ t (fX8_costIn t i0 i1) (fun _ => True) := by
  obtain ⟨C, R, n, T, hH⟩ := hF.1
  exact CT_.cl ((costIn_p hH.pp i0 i1).ct hF (fun r e => kX7_costIn e hb.2.1 hg.1)) hg hb hs0
theorem cf_48 (hF : FF s t) (hg : ge_ E G) (hb : LB_ E G H s t f) : CV_ E H (lA G) mX7_breachIn [.ref (lA G)] t (fX8_breachIn t) := by
  obtain ⟨C, R, n, T, hH⟩ := hF.1
  exact (breachIn_p hH.pp).cv hF (fun r e => kX7_breachIn e hb.2.1 hg.1)
theorem cf_49 (hF : FF s t) (hg : ge_ E G) (hb : LB_ E G H s t f) (hs0 : SN_ E H (lP G + 1) f t) (i0 i1 : Int32) : CL_ E G H mX7_regretKeeping [.ref (lA G), .int i0, .int i1] vi_ g2_ t (fX8_regretKeeping t i0 i1) (fun _ => True) := by
  obtain ⟨C, R, n, T, hH⟩ := hF.1
  exact CT_.cl ((regretKeeping_p hH.pp i0 i1).ct hF (fun r e => kX7_regretKeeping e hb.2.1 hg.1)) hg hb hs0
theorem cf_50 (hF : FF s t) (hg : ge_ E G) (hb : LB_ E G H s t f) (hs0 : SN_ E H (lP G + 1) f t) (i0 i1 : Int32) : CL_ E G H mX7_regretAgainst [.ref (lA G), .int i0, .int i1] vi_ g1_ t (fX8_regretAgainst t i0 i1) (fun _ => True) := by
  obtain ⟨C, R, n, T, hH⟩ := hF.1
  exact CT_.cl ((regretAgainst_p hH.pp i0 i1).ct hF (fun r e => kX7_regretAgainst e hb.2.1 hg.1)) hg hb hs0
theorem cf_51 (hF : FF s t) (hg : ge_ E G) (hb : LB_ E G H s t f) (hs0 : SN_ E H (lP G + 1) f t) (i0 : Int32) : CL_ E G H mX7_rivalIn [.ref (lA G), .int i0] vi_ g1_ t (fX8_rivalIn t i0) (fun _ => True) := by
  obtain ⟨C, R, n, T, hH⟩ := hF.1
  exact CT_.cl ((rivalIn_p hH.pp i0).ct hF (fun r e => kX7_rivalIn e hb.2.1 hg.1)) hg hb hs0
theorem cf_52 (hF : FF s t) (hg : ge_ E G) (hb : LB_ E G H s t f) (i0 : Int32) : CV_ E H (lA G) mX7_budgetFor [.ref (lA G), .int i0] t (fX8_budgetFor t i0) := by
  obtain ⟨C, R, n, T, hH⟩ := hF.1
  exact (budgetFor_p hH.pp i0).cv hF (fun r e => kX7_budgetFor e hb.2.1 hg.1)
end CF
