/-! the constructors of the class and of the reference: printed by wip/whole/gen_82.py -/
theorem nwl_.pre {E : ev_} {H H0 : Heap} {a : Nat} {L : ly_} {es xs : List va_E} (h : nwl_ E H0 H a es) (he : es = lc_ E a L ++ xs) : has_ E H a L zs_ ∧ ∀ i x, xs[i]? = some x → at_ E H (a + (L.length + i)) x := by
  subst he
  refine ⟨fun o f hf => h.2.2 o _ ?_, fun i x hx => h.2.2 _ _ ?_⟩
  · have ho : o < L.length := (List.getElem?_eq_some_iff.mp hf).1
    rw [List.getElem?_append_left (by rw [lc_len]; exact ho)]
    unfold lc_
    rw [List.getElem?_map, hf]
    rfl
  · rw [List.getElem?_append_right (by rw [lc_len]; omega), lc_len, Nat.add_sub_cancel_left]
    exact hx
/-- the cells below a as in H, and room for n from there -/
def blw_ (H Hn : Heap) (a n : Nat) : Prop := a + n ≤ Hn.size ∧ ∀ q : Nat, q < a → Hn[q]? = H[q]?
theorem blw_.step {H H1 H2 : Heap} {a n o m : Nat} (h : blw_ H H1 a n) (z : sm_ H1 H2 (a + o) m) : blw_ H H2 a n := ⟨Nat.le_trans h.1 z.1, fun q hq => (z.2 q (by have := h.1; omega) (Or.inl (by omega))).trans (h.2 q hq)⟩
def sna_ (E : ev_) (f : Nat → Option Nat) : va_E := .inl (E.2.1 6, 2, .inr (.inr (.inr (.inr f))))
def fM_init : Option st_ :=
  bn_ (fX5_becomeDefault (sb_ zs_ 3)) fun d1 =>
  bd_ (mg_ zs_ 3 4 d1) fun s1 =>
  bn_ (fX5_completeRules (sb_ s1 3)) fun d2 =>
  bd_ (mg_ s1 3 4 d2) fun s2 =>
  bn_ (fX2_begin (sb_ s2 8) (sb_ s2 3)) fun g =>
  bd_ (mg_ s2 8 75 g) fun s3 => some s3
def fO_init : Option st_ :=
  bn_ (fX8_begins (sb_ zs_ 1)) fun r1 =>
  bd_ (mg_ zs_ 1 1 r1) fun s1 =>
  bd_ (pt_ s1 1 0 10) fun s2 =>
  bn_ (fX8_completes (sb_ s2 1)) fun r2 =>
  bd_ (mg_ s2 1 1 r2) fun s3 => some s3
def mX7_init : mt_ := (yX7_init, cX7_init, 1, none, [], { frames := 4, locals := 112, cells := 119, slots := 12460 })
theorem ckX7_init : cokI_ mX7_init := ⟨⟨(uw_mem 57 (by decide +kernel) (by decide +kernel)), (uw_mem 29 (by decide +kernel) (by decide +kernel)), by decide +kernel, by decide +kernel⟩, (uw_mem 56 (by decide +kernel) (by decide +kernel)), rfl⟩
theorem nkX7_init : nok_ mX7_init 0 := by decide +kernel
theorem eo_M_3q : eo_ ly_M 3 5 fsX5 := rfl
theorem lqX7_56 : Cond.methodLink RX7 56 yX5_becomeDefault ∈ uw_ := (uw_mem 425 (by decide +kernel) (by decide +kernel))
theorem lqX7_61 : Cond.methodLink RX7 61 yX5_completeRules ∈ uw_ := (uw_mem 429 (by decide +kernel) (by decide +kernel))
theorem lqX7_64 : Cond.methodLink RX7 64 yX2_begin ∈ uw_ := (uw_mem 437 (by decide +kernel) (by decide +kernel))
theorem oiX7_1 : Cond.methodLink RX7 1 Lib.objectInit ∈ uw_ := (uw_mem 58 (by decide +kernel) (by decide +kernel))
theorem fFX7_9 : fpf_ RX7 9 7 0 (.array .byte) := ⟨_, _, _, tyX7, rfl, by decide, (uw_mem 465 (by decide +kernel) (by decide +kernel)), wkX7, tyX7_ok, nmX7, rfl, rfl, by decide +kernel⟩
theorem fNX7_13 : fpk_ RX7 13 7 1 .int := ⟨_, _, _, tyX7, rfl, by decide, (uw_mem 466 (by decide +kernel) (by decide +kernel)), wkX7, tyX7_ok, nmX7, rfl, by decide +kernel⟩
theorem fNX7_17 : fpk_ RX7 17 7 2 .int := ⟨_, _, _, tyX7, rfl, by decide, (uw_mem 467 (by decide +kernel) (by decide +kernel)), wkX7, tyX7_ok, nmX7, rfl, by decide +kernel⟩
theorem nwX7_20 : nwk_ RX7 20 3 7 dfX3 := ⟨_, _, tyX3, rfl, tyX3_ok, wkX3, (uw_mem 61 (by decide +kernel) (by decide +kernel)), (uw_mem 62 (by decide +kernel) (by decide +kernel)), (uw_mem 30 (by decide +kernel) (by decide +kernel)), by decide +kernel⟩
theorem ilX7_22 : ilk_ RX7 22 yX3_init := Or.inr ⟨"ArmDuel", List.mem_of_getElem? (i := 63) (by decide +kernel)⟩
theorem fFX7_23 : fpf_ RX7 23 7 3 (.object "ArmDuel$Reader") := ⟨_, _, _, tyX7, rfl, by decide, (uw_mem 468 (by decide +kernel) (by decide +kernel)), wkX7, tyX7_ok, nmX7, rfl, rfl, by decide +kernel⟩
theorem nwX7_27 : nwk_ RX7 27 2 2 dfX2 := ⟨_, _, tyX2, rfl, tyX2_ok, wkX2, (uw_mem 201 (by decide +kernel) (by decide +kernel)), (uw_mem 202 (by decide +kernel) (by decide +kernel)), (uw_mem 32 (by decide +kernel) (by decide +kernel)), by decide +kernel⟩
theorem ilX7_29 : ilk_ RX7 29 yX2_init := Or.inr ⟨"ArmDuel", List.mem_of_getElem? (i := 203) (by decide +kernel)⟩
theorem fFX7_30 : fpf_ RX7 30 7 4 (.object "ArmDuel$Game") := ⟨_, _, _, tyX7, rfl, by decide, (uw_mem 469 (by decide +kernel) (by decide +kernel)), wkX7, tyX7_ok, nmX7, rfl, rfl, by decide +kernel⟩
theorem nwX7_34 : nwk_ RX7 34 1 14 dfX1 := ⟨_, _, tyX1, rfl, tyX1_ok, wkX1, (uw_mem 406 (by decide +kernel) (by decide +kernel)), (uw_mem 208 (by decide +kernel) (by decide +kernel)), (uw_mem 33 (by decide +kernel) (by decide +kernel)), by decide +kernel⟩
theorem ilX7_36 : ilk_ RX7 36 yX1_init := Or.inl (uw_mem 407 (by decide +kernel) (by decide +kernel))
theorem fFX7_37 : fpf_ RX7 37 7 5 (.object "ArmDuel$Duel") := ⟨_, _, _, tyX7, rfl, by decide, (uw_mem 470 (by decide +kernel) (by decide +kernel)), wkX7, tyX7_ok, nmX7, rfl, rfl, by decide +kernel⟩
theorem nwX7_41 : nwk_ RX7 41 6 3 dfX6 := ⟨_, _, tyX6, rfl, tyX6_ok, wkX6, (uw_mem 408 (by decide +kernel) (by decide +kernel)), (uw_mem 409 (by decide +kernel) (by decide +kernel)), (uw_mem 36 (by decide +kernel) (by decide +kernel)), by decide +kernel⟩
theorem ilX7_43 : ilk_ RX7 43 yX6_init := Or.inr ⟨"ArmDuel", List.mem_of_getElem? (i := 410) (by decide +kernel)⟩
theorem fFX7_44 : fpf_ RX7 44 7 6 (.object "ArmDuel$Tour") := ⟨_, _, _, tyX7, rfl, by decide, (uw_mem 471 (by decide +kernel) (by decide +kernel)), wkX7, tyX7_ok, nmX7, rfl, rfl, by decide +kernel⟩
theorem clX7_27 : Cond.classLink RX7 27 "ArmDuel$Game" ∈ uw_ := (uw_mem 201 (by decide +kernel) (by decide +kernel))
theorem fFX7_48 : fpf_ RX7 48 7 7 (.array (.object "ArmDuel$Game")) := ⟨_, _, _, tyX7, rfl, by decide, (uw_mem 472 (by decide +kernel) (by decide +kernel)), wkX7, tyX7_ok, nmX7, rfl, rfl, by decide +kernel⟩
set_option maxHeartbeats 4000000 in
set_option maxRecDepth 100000 in
theorem nX7_init {E : ev_} {H : Heap} {a : Nat} {r : st_} (hO : exo_ E) (hm : fM_init = some r) (h : nwl_ E H H a [.inr (7, dfX7)]) (hf : ev_fr E a) : sp_ E mX7_init [.ref a] H (po1 (.inl none) (fun Hn => blw_ H Hn a 120 ∧ has_ E Hn a ly_M r ∧ at_ E Hn (a + 119) (sna_ E (fun _ => none)))) := by
  refine sp_of (by decide +kernel) rfl rfl ?_
  generalize hQ : po1 _ _ = Q
  refine aw_lv (lv' := [(0, .ref a)]) [0] rfl ?_
  have h : nwl_ E H H a (.inr (7, [.null, .int 0, .int 0, .null, .null, .null, .null, .null]) :: []) := h
  unfold fM_init at hm
  refine aw_b (pc' := 1) (lv' := [(0, .ref a)]) (st' := [.ref a]) [(0, .aload_n 0, 1, .null)] (by decide +kernel) rfl ?_
  refine aw_oi oiX7_1 (by decide) (by decide) (by decide +kernel) ?_
  refine aw_b (pc' := 8) (lv' := [(0, .ref a)]) (st' := [.int 500, .ref a]) [(4, .aload_n 0, 1, .null), (5, .sipush 500, 3, .int 500)] (by decide +kernel) rfl ?_
  refine aw_na (atype := .byte) (ty := .byte) (t := 1) (N := 500) (x := a + 1) (z := .inl (fun _ => 0)) (es' := .inr (7, [.null, .int 0, .int 0, .null, .null, .null, .null, .null]) :: [.inl (E.2.1 1, 500, .inl (fun _ => 0))]) h rfl rfl (fun _ _ h => h) acw_byte (fun c => rfl) (by decide) (by decide) (by decide) rfl rfl (by decide) (by decide) (by decide +kernel) (fun H1 h => ?_)
  refine aw_pf 0 (es' := .inr (7, [.ref (a + 1), .int 0, .int 0, .null, .null, .null, .null, .null]) :: [.inl (E.2.1 1, 500, .inl (fun _ => 0))]) h rfl fFX7_9 rfl hf rfl rfl rfl rfl (by decide +kernel) (fun H2 h => ?_)
  refine aw_b (pc' := 15) (lv' := [(0, .ref a)]) (st' := [.int 0, .ref a]) [(13, .aload_n 0, 1, .null), (14, .iconst 0, 1, .int 0)] (by decide +kernel) rfl ?_
  refine aw_pn 0 (es' := .inr (7, [.ref (a + 1), .int 0, .int 0, .null, .null, .null, .null, .null]) :: [.inl (E.2.1 1, 500, .inl (fun _ => 0))]) h rfl fNX7_13 hf rfl rfl rfl rfl (by decide +kernel) (fun H3 h => ?_)
  refine aw_b (pc' := 20) (lv' := [(0, .ref a)]) (st' := [.int 0, .ref a]) [(18, .aload_n 0, 1, .null), (19, .iconst 0, 1, .int 0)] (by decide +kernel) rfl ?_
  refine aw_pn 0 (es' := .inr (7, [.ref (a + 1), .int 0, .int 0, .null, .null, .null, .null, .null]) :: [.inl (E.2.1 1, 500, .inl (fun _ => 0))]) h rfl fNX7_17 hf rfl rfl rfl rfl (by decide +kernel) (fun H4 h => ?_)
  refine aw_b (pc' := 24) (lv' := [(0, .ref a)]) (st' := [.ref a]) [(23, .aload_n 0, 1, .null)] (by decide +kernel) rfl ?_
  refine aw_nc (L := ly_E) (x := a + 2) (k1 := _) (n1 := _) (es' := .inr (7, [.ref (a + 1), .int 0, .int 0, .null, .null, .null, .null, .null]) :: ([.inl (E.2.1 1, 500, .inl (fun _ => 0))] ++ lc_ E (a + 2) ly_E)) h nwX7_20 rfl (fun H1 h1 => nX3_init hO h1 (Nat.le_trans hf (Nat.le_add_right _ _))) ckX3_init rfl ilX7_22 nkX3_init (by decide) rfl rfl (Nat.le_of_ble_eq_true rfl) rfl rfl (by decide) (by decide) rfl (by decide +kernel) (by decide +kernel) (by decide +kernel) (fun H5 h => ?_)
  refine aw_pf 0 (es' := .inr (7, [.ref (a + 1), .int 0, .int 0, .ref (a + 2), .null, .null, .null, .null]) :: ([.inl (E.2.1 1, 500, .inl (fun _ => 0))] ++ lc_ E (a + 2) ly_E)) h rfl fFX7_23 rfl hf rfl rfl rfl rfl (by decide +kernel) (fun H6 h => ?_)
  refine aw_b (pc' := 35) (lv' := [(0, .ref a)]) (st' := [.ref a]) [(34, .aload_n 0, 1, .null)] (by decide +kernel) rfl ?_
  refine aw_nc (L := ly_G) (x := a + 8) (k1 := _) (n1 := _) (es' := .inr (7, [.ref (a + 1), .int 0, .int 0, .ref (a + 2), .null, .null, .null, .null]) :: (([.inl (E.2.1 1, 500, .inl (fun _ => 0))] ++ lc_ E (a + 2) ly_E) ++ lc_ E (a + 8) ly_G)) h nwX7_27 rfl (fun H1 h1 => nX2_init hO h1 (Nat.le_trans hf (Nat.le_add_right _ _))) ckX2_init rfl ilX7_29 nkX2_init (by decide) rfl rfl (Nat.le_of_ble_eq_true rfl) rfl rfl (by decide) (by decide) rfl (by decide +kernel) (by decide +kernel) (by decide +kernel) (fun H7 h => ?_)
  refine aw_pf 0 (es' := .inr (7, [.ref (a + 1), .int 0, .int 0, .ref (a + 2), .ref (a + 8), .null, .null, .null]) :: (([.inl (E.2.1 1, 500, .inl (fun _ => 0))] ++ lc_ E (a + 2) ly_E) ++ lc_ E (a + 8) ly_G)) h rfl fFX7_30 rfl hf rfl rfl rfl rfl (by decide +kernel) (fun H8 h => ?_)
  refine aw_b (pc' := 46) (lv' := [(0, .ref a)]) (st' := [.ref a]) [(45, .aload_n 0, 1, .null)] (by decide +kernel) rfl ?_
  refine aw_nc (L := ly_D) (x := a + 83) (k1 := _) (n1 := _) (es' := .inr (7, [.ref (a + 1), .int 0, .int 0, .ref (a + 2), .ref (a + 8), .null, .null, .null]) :: ((([.inl (E.2.1 1, 500, .inl (fun _ => 0))] ++ lc_ E (a + 2) ly_E) ++ lc_ E (a + 8) ly_G) ++ lc_ E (a + 83) ly_D)) h nwX7_34 rfl (fun H1 h1 => nX1_init hO h1 (Nat.le_trans hf (Nat.le_add_right _ _))) ckX1_init rfl ilX7_36 nkX1_init (by decide) rfl rfl (Nat.le_of_ble_eq_true rfl) rfl rfl (by decide) (by decide) rfl (by decide +kernel) (by decide +kernel) (by decide +kernel) (fun H9 h => ?_)
  refine aw_pf 0 (es' := .inr (7, [.ref (a + 1), .int 0, .int 0, .ref (a + 2), .ref (a + 8), .ref (a + 83), .null, .null]) :: ((([.inl (E.2.1 1, 500, .inl (fun _ => 0))] ++ lc_ E (a + 2) ly_E) ++ lc_ E (a + 8) ly_G) ++ lc_ E (a + 83) ly_D)) h rfl fFX7_37 rfl hf rfl rfl rfl rfl (by decide +kernel) (fun H10 h => ?_)
  refine aw_b (pc' := 57) (lv' := [(0, .ref a)]) (st' := [.ref a]) [(56, .aload_n 0, 1, .null)] (by decide +kernel) rfl ?_
  refine aw_nc (L := ly_T) (x := a + 116) (k1 := _) (n1 := _) (es' := .inr (7, [.ref (a + 1), .int 0, .int 0, .ref (a + 2), .ref (a + 8), .ref (a + 83), .null, .null]) :: (((([.inl (E.2.1 1, 500, .inl (fun _ => 0))] ++ lc_ E (a + 2) ly_E) ++ lc_ E (a + 8) ly_G) ++ lc_ E (a + 83) ly_D) ++ lc_ E (a + 116) ly_T)) h nwX7_41 rfl (fun H1 h1 => nX6_init hO h1 (Nat.le_trans hf (Nat.le_add_right _ _))) ckX6_init rfl ilX7_43 nkX6_init (by decide) rfl rfl (Nat.le_of_ble_eq_true rfl) rfl rfl (by decide) (by decide) rfl (by decide +kernel) (by decide +kernel) (by decide +kernel) (fun H11 h => ?_)
  refine aw_pf 0 (es' := .inr (7, [.ref (a + 1), .int 0, .int 0, .ref (a + 2), .ref (a + 8), .ref (a + 83), .ref (a + 116), .null]) :: (((([.inl (E.2.1 1, 500, .inl (fun _ => 0))] ++ lc_ E (a + 2) ly_E) ++ lc_ E (a + 8) ly_G) ++ lc_ E (a + 83) ly_D) ++ lc_ E (a + 116) ly_T)) h rfl fFX7_44 rfl hf rfl rfl rfl rfl (by decide +kernel) (fun H12 h => ?_)
  refine aw_b (pc' := 69) (lv' := [(0, .ref a)]) (st' := [.int 2, .ref a]) [(67, .aload_n 0, 1, .null), (68, .iconst 2, 1, .int 2)] (by decide +kernel) rfl ?_
  refine aw_nq (t := 6) (N := 2) (x := a + 119) (es' := .inr (7, [.ref (a + 1), .int 0, .int 0, .ref (a + 2), .ref (a + 8), .ref (a + 83), .ref (a + 116), .null]) :: ((((([.inl (E.2.1 1, 500, .inl (fun _ => 0))] ++ lc_ E (a + 2) ly_E) ++ lc_ E (a + 8) ly_G) ++ lc_ E (a + 83) ly_D) ++ lc_ E (a + 116) ly_T) ++ [.inl (E.2.1 6, 2, .inr (.inr (.inr (.inr (fun _ => none)))))])) h hO.2.1 rfl clX7_27 (by decide) (by decide) (by decide) rfl (rfl) (by decide) (by decide) (by decide +kernel) (fun H13 h => ?_)
  refine aw_pf 0 (es' := .inr (7, [.ref (a + 1), .int 0, .int 0, .ref (a + 2), .ref (a + 8), .ref (a + 83), .ref (a + 116), .ref (a + 119)]) :: ((((([.inl (E.2.1 1, 500, .inl (fun _ => 0))] ++ lc_ E (a + 2) ly_E) ++ lc_ E (a + 8) ly_G) ++ lc_ E (a + 83) ly_D) ++ lc_ E (a + 116) ly_T) ++ [.inl (E.2.1 6, 2, .inr (.inr (.inr (.inr (fun _ => none)))))])) h rfl fFX7_48 rfl hf rfl rfl rfl rfl (by decide +kernel) (fun H14 h => ?_)
  have hq := h.pre (L := ly_M) (xs := [sna_ E (fun _ => none)]) (by unfold ly_M sna_; simp only [lc_app, lc_sh, List.append_assoc]; rfl)
  have hb : blw_ H H14 a 120 := ⟨by rw [h.1]; exact Nat.le_refl _, h.2.1⟩
  have hp : at_ E H14 (a + 119) (sna_ E (fun _ => none)) := hq.2 0 _ rfl
  have h0 := hq.1
  clear hq h
  refine aw_b (pc' := 76) (lv' := [(0, .ref a)]) (st' := [.ref a]) [(75, .aload_n 0, 1, .null)] (by decide +kernel) rfl ?_
  refine aw_gl (v := .ref (a + 2)) a 0 h0 eo_M_0 fgX7_23 rfl (by decide +kernel) ?_
  refine aw_gl (v := .ref (a + 3)) a 2 h0 eo_M_2 fgX7_52 rfl (by decide +kernel) ?_
  obtain ⟨d1, q, hm⟩ := bn_x hm
  refine aw_cv (rest := []) (st1 := []) a 3 (kX5_becomeDefault q (h0.sub su_M_3_S) (Nat.le_trans hf (Nat.le_add_right _ _))) rfl rfl ckX5_becomeDefault lqX7_56 h0 eo_M_3q ⟨_, _, rfl⟩ nkX5_becomeDefault rfl rfl rfl (Nat.le_of_ble_eq_true rfl) (by decide) (by decide) (by decide +kernel) (fun H15 z => ?_)
  obtain ⟨z, hn⟩ := z
  obtain ⟨s1, e, hm⟩ := bd_x hm
  have h0 := h0.mg su_M_3_S hn z rfl e
  have hp := at_same hp (z.2 _ (at_lt hp) (Or.inr (by omega)))
  have hb := hb.step z
  refine aw_b (pc' := 86) (lv' := [(0, .ref a)]) (st' := [.ref a]) [(85, .aload_n 0, 1, .null)] (by decide +kernel) rfl ?_
  refine aw_gl (v := .ref (a + 2)) a 0 h0 eo_M_0 fgX7_23 rfl (by decide +kernel) ?_
  refine aw_gl (v := .ref (a + 3)) a 2 h0 eo_M_2 fgX7_52 rfl (by decide +kernel) ?_
  obtain ⟨d2, q, hm⟩ := bn_x hm
  refine aw_cv (rest := []) (st1 := []) a 3 (kX5_completeRules q (h0.sub su_M_3_S) (Nat.le_trans hf (Nat.le_add_right _ _))) rfl rfl ckX5_completeRules lqX7_61 h0 eo_M_3q ⟨_, _, rfl⟩ nkX5_completeRules rfl rfl rfl (Nat.le_of_ble_eq_true rfl) (by decide) (by decide) (by decide +kernel) (fun H16 z => ?_)
  obtain ⟨z, hn⟩ := z
  obtain ⟨s2, e, hm⟩ := bd_x hm
  have h0 := h0.mg su_M_3_S hn z rfl e
  have hp := at_same hp (z.2 _ (at_lt hp) (Or.inr (by omega)))
  have hb := hb.step z
  refine aw_b (pc' := 96) (lv' := [(0, .ref a)]) (st' := [.ref a]) [(95, .aload_n 0, 1, .null)] (by decide +kernel) rfl ?_
  refine aw_gl (v := .ref (a + 8)) a 0 h0 eo_M_0 fgX7_30 rfl (by decide +kernel) ?_
  refine aw_b (pc' := 100) (lv' := [(0, .ref a)]) (st' := [.ref a, .ref (a + 8)]) [(99, .aload_n 0, 1, .null)] (by decide +kernel) rfl ?_
  refine aw_gl (v := .ref (a + 2)) a 0 h0 eo_M_0 fgX7_23 rfl (by decide +kernel) ?_
  refine aw_gl (v := .ref (a + 3)) a 2 h0 eo_M_2 fgX7_52 rfl (by decide +kernel) ?_
  obtain ⟨g, q, hm⟩ := bn_x hm
  refine aw_cv (rest := []) (st1 := []) a 8 (kX2_begin q (h0.sub su_M_8_G) (h0.sub su_M_3_S) (Nat.le_trans hf (Nat.le_add_right _ _)) (by omega)) rfl rfl ckX2_begin lqX7_64 h0 eo_M_8 ⟨_, _, rfl⟩ nkX2_begin rfl rfl rfl (Nat.le_of_ble_eq_true rfl) (by decide) (by decide) (by decide +kernel) (fun H17 z => ?_)
  obtain ⟨z, hn⟩ := z
  obtain ⟨s3, e, hm⟩ := bd_x hm
  have h0 := h0.mg su_M_8_G hn z rfl e
  have hp := at_same hp (z.2 _ (at_lt hp) (Or.inr (by omega)))
  have hb := hb.step z
  cases hm
  refine aw_vret rfl (by decide) (by decide) (by decide +kernel) ?_
  rw [← hQ]
  refine ⟨rfl, ?_⟩
  exact ⟨hb, h0, hp⟩
