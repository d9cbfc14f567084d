/-! the law's loop -/
section LOOP
variable {E : ev_} {G : lx_} {H : Heap} {s t : st_} {f : Nat → Option Nat} {i k n : Nat} {Q : po_}
theorem sub4 : ∀ L, L < 2049 → (nI L - nI 4).toInt = (L : Int) - 4 := by decide +kernel
set_option maxHeartbeats 4000000 in
theorem law_sw (hX : exo_ E) (hg : ge_ E G) (hb : LB_ E G H s t f) (hs0 : SN_ E H (lP G + 1) f t) (hF : FF s t) (hi : i + 4 ≤ lL G) (hk : k + 80 ≤ 601024) (hn : n + 9000 ≤ 7293033) (kk : LN_ E G Q i (k + 80) (n + 9000)) (x : Int32) : aw E mL_law Q 44 (lvL G i) [.int x] H k n := by
  refine aw_ts [(nI 0, 280), (nI 1, 337), (nI 2, 350), (nI 3, 363), (nI 4, 419), (nI 5, 487), (nI 6, 512), (nI 7, 568), (nI 8, 624), (nI 9, 692), (nI 10, 748), (nI 11, 804), (nI 12, 872), (nI 13, 928), (nI 14, 941), (nI 15, 1009), (nI 16, 1089), (nI 17, 1157), (nI 18, 1213), (nI 19, 1281), (nI 20, 1294), (nI 21, 1362), (nI 22, 1375), (nI 23, 1431), (nI 24, 1444), (nI 25, 1500), (nI 26, 1568), (nI 27, 1581), (nI 28, 1637), (nI 29, 1693), (nI 30, 1761), (nI 31, 1786), (nI 32, 1842), (nI 33, 1910), (nI 34, 1966), (nI 35, 1979), (nI 36, 2035), (nI 37, 2103), (nI 38, 2171), (nI 39, 2239), (nI 40, 2295), (nI 41, 2372), (nI 42, 2450), (nI 43, 2506), (nI 44, 2562), (nI 45, 2618), (nI 46, 2631), (nI 47, 2687), (nI 48, 2755), (nI 49, 2768), (nI 50, 2836), (nI 51, 2904), (nI 52, 2960), (nI 53, 2985), (nI 54, 3041)] 3097 (by decide +kernel) ?_
  refine aw_tg (fun _ => lc_0 hg hb hs0 hi (append_cv hF hb.2.1 hg.1 _) hk hn kk) (fun _ => ?_)
  refine aw_tg (fun _ => lc_1 hg hb hs0 hi (load_cv hF hb.2.1 hg.1) hk hn kk) (fun _ => ?_)
  refine aw_tg (fun _ => lc_2 hg hb hs0 hi (loadError_cv hF hb.2.1) hk hn kk) (fun _ => ?_)
  refine aw_tg (fun _ => lc_3 hX hg hb hi (cf_3 hF hg hb hs0 _) hk hn kk) (fun _ => ?_)
  refine aw_tg (fun _ => lc_4 hX hg hb hi (cf_4 hF hg hb hs0 _ _) hk hn kk) (fun _ => ?_)
  refine aw_tg (fun _ => lc_5 hg hb hs0 hi (cf_5 hF hg hb _) hk hn kk) (fun _ => ?_)
  refine aw_tg (fun _ => lc_6 hX hg hb hi (cf_6 hF hg hb hs0 _) hk hn kk) (fun _ => ?_)
  refine aw_tg (fun _ => lc_7 hX hg hb hi (cf_7 hF hg hb hs0 _) hk hn kk) (fun _ => ?_)
  refine aw_tg (fun _ => lc_8 hX hg hb hi (cf_8 hF hg hb hs0 _ _) hk hn kk) (fun _ => ?_)
  refine aw_tg (fun _ => lc_9 hX hg hb hi (cf_9 hF hg hb hs0 _) hk hn kk) (fun _ => ?_)
  refine aw_tg (fun _ => lc_10 hX hg hb hi (cf_10 hF hg hb hs0 _) hk hn kk) (fun _ => ?_)
  refine aw_tg (fun _ => lc_11 hX hg hb hi (cf_11 hF hg hb hs0 _ _) hk hn kk) (fun _ => ?_)
  refine aw_tg (fun _ => lc_12 hX hg hb hi (cf_12 hF hg hb hs0 _) hk hn kk) (fun _ => ?_)
  refine aw_tg (fun _ => lc_13 hg hb hs0 hi (cf_13 hF hg hb) hk hn kk) (fun _ => ?_)
  refine aw_tg (fun _ => lc_14 hX hg hb hi (cf_14 hF hg hb hs0 _ _) hk hn kk) (fun _ => ?_)
  refine aw_tg (fun _ => lc_15 hX hg hb hi (cf_15 hF hg hb hs0 _ _ _) hk hn kk) (fun _ => ?_)
  refine aw_tg (fun _ => lc_16 hX hg hb hi (cf_16 hF hg hb hs0 _ _) hk hn kk) (fun _ => ?_)
  refine aw_tg (fun _ => lc_17 hX hg hb hi (cf_17 hF hg hb hs0 _) hk hn kk) (fun _ => ?_)
  refine aw_tg (fun _ => lc_18 hX hg hb hi (cf_18 hF hg hb hs0 _ _) hk hn kk) (fun _ => ?_)
  refine aw_tg (fun _ => lc_19 hg hb hs0 hi (cf_19 hF hg hb) hk hn kk) (fun _ => ?_)
  refine aw_tg (fun _ => lc_20 hX hg hb hi (cf_20 hF hg hb hs0 _ _) hk hn kk) (fun _ => ?_)
  refine aw_tg (fun _ => lc_21 hg hb hs0 hi (cf_21 hF hg hb) hk hn kk) (fun _ => ?_)
  refine aw_tg (fun _ => lc_22 hX hg hb hi (cf_22 hF hg hb hs0 _) hk hn kk) (fun _ => ?_)
  refine aw_tg (fun _ => lc_23 hg hb hs0 hi (cf_23 hF hg hb) hk hn kk) (fun _ => ?_)
  refine aw_tg (fun _ => lc_24 hX hg hb hi (cf_24 hF hg hb hs0 _) hk hn kk) (fun _ => ?_)
  refine aw_tg (fun _ => lc_25 hX hg hb hi (cf_25 hF hg hb hs0 _ _) hk hn kk) (fun _ => ?_)
  refine aw_tg (fun _ => lc_26 hg hb hs0 hi (cf_26 hF hg hb) hk hn kk) (fun _ => ?_)
  refine aw_tg (fun _ => lc_27 hX hg hb hi (cf_27 hF hg hb hs0 _) hk hn kk) (fun _ => ?_)
  refine aw_tg (fun _ => lc_28 hX hg hb hi (cf_28 hF hg hb hs0 _) hk hn kk) (fun _ => ?_)
  refine aw_tg (fun _ => lc_29 hX hg hb hi (cf_29 hF hg hb hs0 _ _) hk hn kk) (fun _ => ?_)
  refine aw_tg (fun _ => lc_30 hg hb hs0 hi (cf_30 hF hg hb _) hk hn kk) (fun _ => ?_)
  refine aw_tg (fun _ => lc_31 hX hg hb hi (cf_31 hF hg hb hs0 _) hk hn kk) (fun _ => ?_)
  refine aw_tg (fun _ => lc_32 hX hg hb hi (cf_32 hF hg hb hs0 _ _) hk hn kk) (fun _ => ?_)
  refine aw_tg (fun _ => lc_33 hX hg hb hi (cf_33 hF hg hb hs0 _) hk hn kk) (fun _ => ?_)
  refine aw_tg (fun _ => lc_34 hg hb hs0 hi (cf_34 hF hg hb) hk hn kk) (fun _ => ?_)
  refine aw_tg (fun _ => lc_35 hX hg hb hi (cf_35 hF hg hb hs0 _) hk hn kk) (fun _ => ?_)
  refine aw_tg (fun _ => lc_36 hX hg hb hi (cf_36 hF hg hb hs0 _ _) hk hn kk) (fun _ => ?_)
  refine aw_tg (fun _ => lc_37 hX hg hb hi (cf_37 hF hg hb hs0 _ _) hk hn kk) (fun _ => ?_)
  refine aw_tg (fun _ => lc_38 hX hg hb hi (cf_38 hF hg hb hs0 _ _) hk hn kk) (fun _ => ?_)
  refine aw_tg (fun _ => lc_39 hX hg hb hi (cf_39 hF hg hb hs0 _) hk hn kk) (fun _ => ?_)
  refine aw_tg (fun _ => lc_40 hX hg hb hi (cf_40 hF hg hb hs0 _) hk hn kk) (fun _ => ?_)
  refine aw_tg (fun _ => lc_41 hX hg hb hi (cf_41 hF hg hb hs0 _) hk hn kk) (fun _ => ?_)
  refine aw_tg (fun _ => lc_42 hX hg hb hi (cf_42 hF hg hb hs0 _) hk hn kk) (fun _ => ?_)
  refine aw_tg (fun _ => lc_43 hX hg hb hi (cf_43 hF hg hb hs0 _) hk hn kk) (fun _ => ?_)
  refine aw_tg (fun _ => lc_44 hX hg hb hi (cf_44 hF hg hb hs0 _) hk hn kk) (fun _ => ?_)
  refine aw_tg (fun _ => lc_45 hg hb hs0 hi (cf_45 hF hg hb) hk hn kk) (fun _ => ?_)
  refine aw_tg (fun _ => lc_46 hX hg hb hi (cf_46 hF hg hb hs0 _) hk hn kk) (fun _ => ?_)
  refine aw_tg (fun _ => lc_47 hX hg hb hi (cf_47 hF hg hb hs0 _ _) hk hn kk) (fun _ => ?_)
  refine aw_tg (fun _ => lc_48 hg hb hs0 hi (cf_48 hF hg hb) hk hn kk) (fun _ => ?_)
  refine aw_tg (fun _ => lc_49 hX hg hb hi (cf_49 hF hg hb hs0 _ _) hk hn kk) (fun _ => ?_)
  refine aw_tg (fun _ => lc_50 hX hg hb hi (cf_50 hF hg hb hs0 _ _) hk hn kk) (fun _ => ?_)
  refine aw_tg (fun _ => lc_51 hX hg hb hi (cf_51 hF hg hb hs0 _) hk hn kk) (fun _ => ?_)
  refine aw_tg (fun _ => lc_52 hg hb hs0 hi (cf_52 hF hg hb _) hk hn kk) (fun _ => ?_)
  refine aw_tg (fun _ => lc_53 hX hg hb hi (cf_53 hX hF hg hb hs0 _) hk hn kk) (fun _ => ?_)
  refine aw_tg (fun _ => lc_54 hX hg hb hi (cf_54 hF hg hb hs0 _) hk hn kk) (fun _ => ?_)
  exact aw_widen (by omega) (by omega) (kk H s t f hb hs0 hF)
theorem law_out (hQ : ∀ H, Q (.inl (some (.int 1))) H) (hk : k ≤ 601024) (hn : n ≤ 7293033) : aw E mL_law Q 3103 (lvL G i) [] H k n := by
  refine aw_b (pc' := 3104) (lv' := lvL G i) (st' := [.int 1]) [(3103, .iconst 1, 1, .int 1)] (by decide +kernel) rfl ?_
  exact aw_zret rfl (by decide +kernel) hk hn (by decide +kernel) (hQ H)
set_option maxRecDepth 100000 in
theorem law_loop (hX : exo_ E) (hg : ge_ E G) (hQ : ∀ H, Q (.inl (some (.int 1))) H) : ∀ (d : Nat) {i k n : Nat} {H : Heap} {s t : st_} {f : Nat → Option Nat}, lL G ≤ i + 4 * d → i ≤ 2048 → k + 80 * d ≤ 601024 → n + 9000 * d ≤ 7293033 → LB_ E G H s t f → SN_ E H (lP G + 1) f t → FF s t → aw E mL_law Q 28 (lvL G i) [] H k n := by
  intro d
  induction d with
  | zero =>
    intro i k n H s t f h1 h2 h3 h4 hb hs0 hF
    have hL := hg.2.2.2.2.2
    refine aw_b (pc' := 31) (lv' := lvL G i) (st' := [.ref (lb G), .int (nI i)]) [(28, .iload 5, 2, .null), (30, .aload_n 0, 1, .null)] (by decide +kernel) rfl ?_
    refine aw_slen hb.1 (by decide +kernel) ?_
    refine aw_b (pc' := 34) (lv' := lvL G i) (st' := [.int (nI (lL G) - nI 4), .int (nI i)]) [(32, .iconst 4, 1, .int (nI 4)), (33, .isub, 1, .null)] (by decide +kernel) rfl ?_
    refine aw_ic_gt (off := 3069) 3103 (by decide) (by decide +kernel) (fun _ => law_out hQ (by omega) (by omega)) (fun hlt => absurd ?_ hlt)
    rw [Int32.lt_iff_toInt_lt, sub4 _ (by omega), nI_toInt (by omega)]
    omega
  | succ d ih =>
    intro i k n H s t f h1 h2 h3 h4 hb hs0 hF
    have hL := hg.2.2.2.2.2
    refine aw_b (pc' := 31) (lv' := lvL G i) (st' := [.ref (lb G), .int (nI i)]) [(28, .iload 5, 2, .null), (30, .aload_n 0, 1, .null)] (by decide +kernel) rfl ?_
    refine aw_slen hb.1 (by decide +kernel) ?_
    refine aw_b (pc' := 34) (lv' := lvL G i) (st' := [.int (nI (lL G) - nI 4), .int (nI i)]) [(32, .iconst 4, 1, .int (nI 4)), (33, .isub, 1, .null)] (by decide +kernel) rfl ?_
    refine aw_ic_gt (off := 3069) 3103 (by decide) (by decide +kernel) (fun _ => law_out hQ (by omega) (by omega)) (fun hlt => ?_)
    rw [Int32.lt_iff_toInt_lt, sub4 _ (by omega), nI_toInt (by omega)] at hlt
    have hi : i + 4 ≤ lL G := by omega
    refine aw_b (pc' := 40) (lv' := lvL G i) (st' := [.int (nI i), .ref (lb G)]) [(37, .aload_n 0, 1, .null), (38, .iload 5, 2, .null)] (by decide +kernel) rfl ?_
    refine aw_sld hb.1 (ib_in (ib_n (by omega) (by omega))) (by decide +kernel) ?_
    refine aw_b (pc' := 44) (lv' := lvL G i) (st' := [.int (lX G (ix_ (nI i)) &&& 63)]) [(41, .bipush 63, 2, .int 63), (43, .iand, 1, .null)] (by decide +kernel) rfl ?_
    refine law_sw hX hg hb hs0 hF hi (by omega) (by omega) (fun H1 s' t' f' q1 q2 q3 => ?_) _
    refine aw_b (pc' := 28) (lv' := (5, .int (nI i + nI 4)) :: [(0, .ref (lb G)), (1, .ref (lA G)), (2, .ref (lB G)), (3, .ref (lO G)), (4, .ref (lP G))]) (st' := []) [(3097, .iinc 5 4, 3, .int (nI 4)), (3100, .goto (-3072), 3, .null)] (by decide +kernel) rfl ?_
    rw [nI_add]
    exact ih (i := i + 4) (by omega) (by omega) (by omega) (by omega) q1 q2 q3
end LOOP
