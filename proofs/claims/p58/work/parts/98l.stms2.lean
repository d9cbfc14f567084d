/-! statements of the law's text, one by one -/
section STMS2
variable {xs W Y Z : List Int32} {p q C R K k v a b r : Nat} {s s' s1 t : st_} {lo hi : Int32}
theorem L_cost (ht : txk_ xs) (h : PS_ s xs (59 :: (sb_y 14 ++ (32 :: (dg_ a ++ (32 :: (dg_ b ++ Y)))))) C R K) (hY : stp_ Y) (ha : 0 ≤ a ∧ a ≤ 99) (hb : 1 ≤ b ∧ b ≤ 99) : ∃ s1 s3, fX3_hasMore s = some (s1, 1) ∧ fX3_readStatement s1 = some s3 ∧ PS_ s3 xs Y C R K := by
  obtain ⟨s1, t1, p1, s2, p2, e1, hJ, e2, h2, hA, c1, r1, k1, r2, k2, c2, c3⟩ := stm_open (k := 1) ht rfl h stp_32
  obtain ⟨s4, p4, e4, h4, hA4⟩ := num1 (lo := 0) (hi := 99) ht hA stp_32 (by omega) (nI_le (a := 0) ha.1 (by omega)) (nI_le (b := 99) ha.2 (by omega))
  obtain ⟨s6, p6, e6, h6, hA6⟩ := num1 (lo := 1) (hi := 99) ht (hA4.pt (o := 2) (j := 2) (v := nI a) (by omega)) hY (by omega) (nI_le (a := 1) hb.1 (by omega)) (nI_le (b := 99) hb.2 (by omega))
  have es : fX3_readStatement s1 = some (pt_ s6 2 3 (nI b)) := by
    unfold fX3_readStatement
    rw [bn_e e2, if_pos (show nI 1 = (1 : Int32) from rfl), bn_e e4, bd_e, bn_e e6, bd_e]
  refine ⟨s1, _, e1, es, stm_close hJ es (hA6.pt (by omega)) ?_ ?_ r2 k2⟩
  · rw [pt_r (by decide), h6 2 (by decide), pt_r (by decide), h4 2 (by decide)]
    exact r1
  · rw [pt_r (by decide), h6 2 (by decide), pt_r (by decide), h4 2 (by decide)]
    exact k1
theorem L_mix (ht : txk_ xs) (h : PS_ s xs (59 :: (sb_y 27 ++ (32 :: (dg_ a ++ (32 :: (dg_ b ++ Y)))))) C R K) (hY : stp_ Y) (ha : 1 ≤ a ∧ a ≤ 500) (hb : 0 ≤ b ∧ b ≤ 32767) : ∃ s1 s3, fX3_hasMore s = some (s1, 1) ∧ fX3_readStatement s1 = some s3 ∧ PS_ s3 xs Y C R K := by
  obtain ⟨s1, t1, p1, s2, p2, e1, hJ, e2, h2, hA, c1, r1, k1, r2, k2, c2, c3⟩ := stm_open (k := 4) ht rfl h stp_32
  obtain ⟨s4, p4, e4, h4, hA4⟩ := num1 (lo := 1) (hi := 500) ht hA stp_32 (by omega) (nI_le (a := 1) ha.1 (by omega)) (nI_le (b := 500) ha.2 (by omega))
  obtain ⟨s6, p6, e6, h6, hA6⟩ := num1 (lo := 0) (hi := 32767) ht (hA4.pt (o := 2) (j := 9) (v := nI a) (by omega)) hY (by omega) (nI_le (a := 0) hb.1 (by omega)) (nI_le (b := 32767) hb.2 (by omega))
  have es : fX3_readStatement s1 = some (pt_ s6 2 10 (nI b)) := by
    unfold fX3_readStatement
    rw [bn_e e2, if_neg (show ¬ nI 4 = (1 : Int32) by decide), if_neg (show ¬ nI 4 = (2 : Int32) by decide), if_neg (show ¬ nI 4 = (3 : Int32) by decide), if_pos (show nI 4 = (4 : Int32) from rfl), bn_e e4, bd_e, bn_e e6, bd_e]
  refine ⟨s1, _, e1, es, stm_close hJ es (hA6.pt (by omega)) ?_ ?_ r2 k2⟩
  · rw [pt_r (by decide), h6 2 (by decide), pt_r (by decide), h4 2 (by decide)]
    exact r1
  · rw [pt_r (by decide), h6 2 (by decide), pt_r (by decide), h4 2 (by decide)]
    exact k1
theorem L_bound (ht : txk_ xs) (h : PS_ s xs (59 :: (sb_y 36 ++ (32 :: (dg_ a ++ (32 :: (dg_ b ++ Y)))))) C R K) (hY : stp_ Y) (ha : 0 ≤ a ∧ a ≤ 99999) (hb : 0 ≤ b ∧ b ≤ 9999) : ∃ s1 s3, fX3_hasMore s = some (s1, 1) ∧ fX3_readStatement s1 = some s3 ∧ PS_ s3 xs Y C R K ∧ s3 2 17 = nI a := by
  obtain ⟨s1, t1, p1, s2, p2, e1, hJ, e2, h2, hA, c1, r1, k1, r2, k2, c2, c3⟩ := stm_open (k := 9) ht rfl h stp_32
  obtain ⟨s4, p4, e4, h4, hA4⟩ := num1 (lo := 0) (hi := 99999) ht hA stp_32 (by omega) (nI_le (a := 0) ha.1 (by omega)) (nI_le (b := 99999) ha.2 (by omega))
  obtain ⟨s6, p6, e6, h6, hA6⟩ := num1 (lo := 0) (hi := 9999) ht (hA4.pt (o := 2) (j := 17) (v := nI a) (by omega)) hY (by omega) (nI_le (a := 0) hb.1 (by omega)) (nI_le (b := 9999) hb.2 (by omega))
  have es : fX3_readStatement s1 = some (pt_ s6 2 18 (nI b)) := by
    unfold fX3_readStatement
    rw [bn_e e2, if_neg (show ¬ nI 9 = (1 : Int32) by decide), if_neg (show ¬ nI 9 = (2 : Int32) by decide), if_neg (show ¬ nI 9 = (3 : Int32) by decide), if_neg (show ¬ nI 9 = (4 : Int32) by decide), if_neg (show ¬ nI 9 = (5 : Int32) by decide), if_neg (show ¬ nI 9 = (6 : Int32) by decide), if_neg (show ¬ nI 9 = (7 : Int32) by decide), if_neg (show ¬ nI 9 = (8 : Int32) by decide), if_pos (show nI 9 = (9 : Int32) from rfl), bn_e e4, bd_e, bn_e e6, bd_e]
  refine ⟨s1, _, e1, es, stm_close hJ es (hA6.pt (by omega)) ?_ ?_ r2 k2, ?_⟩
  · rw [pt_r (by decide), h6 2 (by decide), pt_r (by decide), h4 2 (by decide)]
    exact r1
  · rw [pt_r (by decide), h6 2 (by decide), pt_r (by decide), h4 2 (by decide)]
    exact k1
  · rw [pt_r (by decide), h6 2 (by decide), pt_a]
theorem L_budget (ht : txk_ xs) (h : PS_ s xs (59 :: (sb_y 26 ++ (32 :: (dg_ a ++ Y)))) C R K) (hY : stp_ Y) (ha : a ≤ 999) : ∃ s1 s3, fX3_hasMore s = some (s1, 1) ∧ fX3_readStatement s1 = some s3 ∧ PS_ s3 xs Y C R K := by
  obtain ⟨s1, t1, p1, s2, p2, e1, hJ, e2, h2, hA, c1, r1, k1, r2, k2, c2, c3⟩ := stm_open (k := 8) ht rfl h stp_32
  obtain ⟨s4, p4, e4, h4, hA4⟩ := num1 (lo := 0) (hi := 999) ht hA hY (by omega) (nI_le (a := 0) (Nat.zero_le _) (by omega)) (nI_le (b := 999) ha (by omega))
  have es : fX3_readStatement s1 = some (pt_ s4 2 16 (nI a)) := by
    unfold fX3_readStatement
    rw [bn_e e2, if_neg (show ¬ nI 8 = (1 : Int32) by decide), if_neg (show ¬ nI 8 = (2 : Int32) by decide), if_neg (show ¬ nI 8 = (3 : Int32) by decide), if_neg (show ¬ nI 8 = (4 : Int32) by decide), if_neg (show ¬ nI 8 = (5 : Int32) by decide), if_neg (show ¬ nI 8 = (6 : Int32) by decide), if_neg (show ¬ nI 8 = (7 : Int32) by decide), if_pos (show nI 8 = (8 : Int32) from rfl), bn_e e4, bd_e]
  refine ⟨s1, _, e1, es, stm_close hJ es (hA4.pt (by omega)) ?_ ?_ r2 k2⟩
  · rw [pt_r (by decide), h4 2 (by decide)]
    exact r1
  · rw [pt_r (by decide), h4 2 (by decide)]
    exact k1
theorem L_foe (ht : txk_ xs) (h : PS_ s xs (59 :: (sb_y 28 ++ (32 :: (W ++ Y)))) C R K) (hk : (wds 3)[v]? = some W) (hY : stp_ Y) : ∃ s1 s3, fX3_hasMore s = some (s1, 1) ∧ fX3_readStatement s1 = some s3 ∧ PS_ s3 xs Y C R K := by
  obtain ⟨s1, t1, p1, s2, p2, e1, hJ, e2, h2, hA, c1, r1, k1, r2, k2, c2, c3⟩ := stm_open (k := 5) ht rfl h stp_32
  obtain ⟨s4, p4, e4, h4, hA4⟩ := word1 (w := 3) ht (by omega) hk hA hY
  have es : fX3_readStatement s1 = some (pt_ s4 2 11 (nI v)) := by
    unfold fX3_readStatement
    rw [bn_e e2, if_neg (show ¬ nI 5 = (1 : Int32) by decide), if_neg (show ¬ nI 5 = (2 : Int32) by decide), if_neg (show ¬ nI 5 = (3 : Int32) by decide), if_neg (show ¬ nI 5 = (4 : Int32) by decide), if_pos (show nI 5 = (5 : Int32) from rfl), bn_e e4, bd_e]
  refine ⟨s1, _, e1, es, stm_close hJ es (hA4.pt (by omega)) ?_ ?_ r2 k2⟩
  · rw [pt_r (by decide), h4 2 (by decide)]
    exact r1
  · rw [pt_r (by decide), h4 2 (by decide)]
    exact k1
theorem L_ask (ht : txk_ xs) (h : PS_ s xs (59 :: (sb_y 35 ++ (32 :: (dg_ a ++ Y)))) C R K) (hY : stp_ Y) (ha : a < C) (hK : K < 16) : ∃ s1 s3, fX3_hasMore s = some (s1, 1) ∧ fX3_readStatement s1 = some s3 ∧ PS_ s3 xs Y C R (K + 1) := by
  obtain ⟨s1, t1, p1, s2, p2, e1, hJ, e2, h2, hA, c1, r1, k1, r2, k2, c2, c3⟩ := stm_open (k := 6) ht rfl h stp_32
  obtain ⟨s4, p4, e4, h4, hA4⟩ := num1 (lo := 0) (hi := nI (C - 1)) ht hA hY (by omega) (nI_le (a := 0) (Nat.zero_le _) (by omega)) (nI_le (by omega) (by omega))
  have h42 := h4 2 (by decide)
  have ep : fX5_putAsk (sb_ s4 2) (nI a) = some (pt_ (pt_ (sb_ s4 2) 3 K (nI a)) 0 12 (nI (K + 1))) := putAsk_e (by rw [sb_ap]; rw [show s4 (2 + 0) = s4 2 from rfl, h42]; exact k1) hK
  have es : fX3_readStatement s1 = some (mg_ s4 2 4 (pt_ (pt_ (sb_ s4 2) 3 K (nI a)) 0 12 (nI (K + 1)))) := by
    unfold fX3_readStatement
    rw [bn_e e2, if_neg (show ¬ nI 6 = (1 : Int32) by decide), if_neg (show ¬ nI 6 = (2 : Int32) by decide), if_neg (show ¬ nI 6 = (3 : Int32) by decide), if_neg (show ¬ nI 6 = (4 : Int32) by decide), if_neg (show ¬ nI 6 = (5 : Int32) by decide), if_pos (show nI 6 = (6 : Int32) from rfl)]
    unfold fX3_readAsk fX3_readAsk_j21
    dsimp only
    rw [if_pos (show s2 2 12 < (16 : Int32) by rw [k1]; exact nI_lt (b := 16) hK (by omega)), c1, show nI C - (1 : Int32) = nI (C - 1) from pk_sub (b := 1) (by omega), bn_e e4, if_pos hA4.2.2.2.1, bn_e ep, bd_e]
    rfl
  refine ⟨s1, _, e1, es, stm_close hJ es (hA4.of (mg_o (by omega)) (mg_o (by omega))) ?_ ?_ r2 (by omega)⟩
  · have e : mg_ s4 2 4 (pt_ (pt_ (sb_ s4 2) 3 K (nI a)) 0 12 (nI (K + 1))) 2 4 = s4 2 4 := by
      rw [mg_i (by omega) (by omega)]
      show pt_ (pt_ (sb_ s4 2) 3 K (nI a)) 0 12 (nI (K + 1)) 0 4 = _
      rw [pt_r (by decide), pt_oo (by decide)]
      rfl
    rw [e, h42]
    exact r1
  · rw [mg_i (by omega) (by omega)]
    exact pt_a
theorem rule_fin {kd wd : Int32} (ht : txk_ xs) (hJ : JS s1 t (tch_ xs) xs.length p C R K) (hA : AT_ s xs q Z) (e : fX3_readStatement s1 = fX3_readRule_j44 (s', kd) wd s) (r1 : s 2 4 = nI R) (k1 : s 2 12 = nI K) (hR : R < 6) (k2 : K ≤ 16) : ∃ s3, fX3_readStatement s1 = some s3 ∧ PS_ s3 xs Z C (R + 1) K := by
  have ep : fX5_putRule (sb_ s 2) kd wd = some (pt_ (pt_ (pt_ (sb_ s 2) 1 R kd) 2 R wd) 0 4 (nI (R + 1))) := putRule_e r1 hR
  have es : fX3_readStatement s1 = some (mg_ s 2 4 (pt_ (pt_ (pt_ (sb_ s 2) 1 R kd) 2 R wd) 0 4 (nI (R + 1)))) := by
    rw [e]
    unfold fX3_readRule_j44
    rw [if_pos hA.2.2.2.1, bn_e ep, bd_e]
  refine ⟨_, es, stm_close hJ es (hA.of (mg_o (by omega)) (mg_o (by omega))) ?_ ?_ (by omega) k2⟩
  · rw [mg_i (by omega) (by omega)]
    exact pt_a
  · rw [mg_i (by omega) (by omega)]
    show pt_ (pt_ (pt_ (sb_ s 2) 1 R kd) 2 R wd) 0 4 (nI (R + 1)) 0 12 = _
    rw [pt_r (by decide), pt_oo (by decide), pt_oo (by decide)]
    exact k1
theorem L_rule (ht : txk_ xs) (h : PS_ s xs (59 :: (sb_y 15 ++ (32 :: (W ++ Y)))) C R K) (hk : (wds 1)[v]? = some W) (hv : v < 4) (hY : stp_ Y) (hR : R < 6) : ∃ s1 s3, fX3_hasMore s = some (s1, 1) ∧ fX3_readStatement s1 = some s3 ∧ PS_ s3 xs Y C (R + 1) K := by
  obtain ⟨s1, t1, p1, s2, p2, e1, hJ, e2, h2, hA, c1, r1, k1, r2, k2, c2, c3⟩ := stm_open (k := 2) ht rfl h stp_32
  obtain ⟨s4, p4, e4, h4, hA4⟩ := word1 (w := 1) ht (by omega) hk hA hY
  obtain ⟨s3, e3, h3⟩ := rule_fin (kd := nI v) (wd := -1) (s' := s4) ht hJ hA4 (by
    unfold fX3_readStatement
    rw [bn_e e2, if_neg (show ¬ nI 2 = (1 : Int32) by decide), if_pos (show nI 2 = (2 : Int32) from rfl)]
    unfold fX3_readRule fX3_readRule_j21
    dsimp only
    rw [if_pos (show s2 2 4 < (6 : Int32) by rw [r1]; exact nI_lt (b := 6) hR (by omega)), bn_e e4]
    dsimp only
    rw [if_neg (show ¬ nI v = (4 : Int32) from fun z => absurd ((nI_eq (b := 4) (by omega) (by omega)).mp z) (by omega))]
    cases fX3_readRule_j44 (s4, nI v) (-1) s4 <;> rfl) (by rw [h4 2 (by decide)]; exact r1) (by rw [h4 2 (by decide)]; exact k1) hR k2
  exact ⟨s1, s3, e1, e3, h3⟩
theorem L_band (ht : txk_ xs) (h : PS_ s xs (59 :: (sb_y 15 ++ (32 :: (sb_y 20 ++ (32 :: (dg_ a ++ Y)))))) C R K) (hY : stp_ Y) (ha : a ≤ 99) (hR : R < 6) : ∃ s1 s3, fX3_hasMore s = some (s1, 1) ∧ fX3_readStatement s1 = some s3 ∧ PS_ s3 xs Y C (R + 1) K := by
  obtain ⟨s1, t1, p1, s2, p2, e1, hJ, e2, h2, hA, c1, r1, k1, r2, k2, c2, c3⟩ := stm_open (k := 2) ht rfl h stp_32
  obtain ⟨s4, p4, e4, h4, hA4⟩ := word1 (w := 1) (k := 4) ht (by omega) rfl hA stp_32
  obtain ⟨s6, p6, e6, h6, hA6⟩ := num1 (lo := 0) (hi := 99) ht hA4 hY (by omega) (nI_le (a := 0) (Nat.zero_le _) (by omega)) (nI_le (b := 99) ha (by omega))
  obtain ⟨s3, e3, h3⟩ := rule_fin (kd := nI 4) (wd := nI a) (s' := s4) ht hJ hA6 (by
    unfold fX3_readStatement
    rw [bn_e e2, if_neg (show ¬ nI 2 = (1 : Int32) by decide), if_pos (show nI 2 = (2 : Int32) from rfl)]
    unfold fX3_readRule fX3_readRule_j21
    dsimp only
    rw [if_pos (show s2 2 4 < (6 : Int32) by rw [r1]; exact nI_lt (b := 6) hR (by omega)), bn_e e4]
    dsimp only
    rw [if_pos (show nI 4 = (4 : Int32) from rfl), bn_e e6]
    cases fX3_readRule_j44 (s4, nI 4) (nI a) s6 <;> rfl) (by rw [h6 2 (by decide), h4 2 (by decide)]; exact r1) (by rw [h6 2 (by decide), h4 2 (by decide)]; exact k1) hR k2
  exact ⟨s1, s3, e1, e3, h3⟩
theorem mast_fin {kd wd : Int32} (ht : txk_ xs) (hJ : JS s1 t (tch_ xs) xs.length p C R K) (hA : AT_ s xs q Z) (e : fX3_readStatement s1 = fX3_readMaster_j30 (s', kd) wd s) (r1 : s 2 4 = nI R) (k1 : s 2 12 = nI K) (hR : R ≤ 6) (k2 : K ≤ 16) : ∃ s3, fX3_readStatement s1 = some s3 ∧ PS_ s3 xs Z C R K := by
  obtain ⟨m1, m2, -, -⟩ := mast_h (s := s) (a := 1) (b := 2) (kind := kd) (y := if kd = 2 then wd else -1) rfl
  have es : fX3_readStatement s1 = some (mg_ s 2 4 (pt_ (pt_ (sb_ s 2) 0 7 kd) 0 8 (if kd = 2 then wd else -1))) := by
    rw [e]
    unfold fX3_readMaster_j30
    rw [bn_e takeMaster_e, bd_e]
  refine ⟨_, es, stm_close hJ es (hA.of (m1 0 (by decide)) (m1 1 (by decide))) ?_ ?_ hR k2⟩
  · rw [m2 4 (by decide) (by decide)]
    exact r1
  · rw [m2 12 (by decide) (by decide)]
    exact k1
theorem L_master (ht : txk_ xs) (h : PS_ s xs (59 :: (sb_y 21 ++ (32 :: (W ++ Y)))) C R K) (hk : (wds 2)[v]? = some W) (hv : v < 2) (hY : stp_ Y) : ∃ s1 s3, fX3_hasMore s = some (s1, 1) ∧ fX3_readStatement s1 = some s3 ∧ PS_ s3 xs Y C R K := by
  obtain ⟨s1, t1, p1, s2, p2, e1, hJ, e2, h2, hA, c1, r1, k1, r2, k2, c2, c3⟩ := stm_open (k := 3) ht rfl h stp_32
  obtain ⟨s4, p4, e4, h4, hA4⟩ := word1 (w := 2) ht (by omega) hk hA hY
  obtain ⟨s3, e3, h3⟩ := mast_fin (kd := nI v) (wd := -1) (s' := s4) ht hJ hA4 (by
    unfold fX3_readStatement
    rw [bn_e e2, if_neg (show ¬ nI 3 = (1 : Int32) by decide), if_neg (show ¬ nI 3 = (2 : Int32) by decide), if_pos (show nI 3 = (3 : Int32) from rfl)]
    unfold fX3_readMaster
    dsimp only
    rw [bn_e e4]
    dsimp only
    rw [if_neg (show ¬ nI v = (2 : Int32) from fun z => absurd ((nI_eq (b := 2) (by omega) (by omega)).mp z) (by omega))]
    cases fX3_readMaster_j30 (s4, nI v) (-1) s4 <;> rfl) (by rw [h4 2 (by decide)]; exact r1) (by rw [h4 2 (by decide)]; exact k1) r2 k2
  exact ⟨s1, s3, e1, e3, h3⟩
theorem L_masterK (ht : txk_ xs) (h : PS_ s xs (59 :: (sb_y 21 ++ (32 :: (sb_y 24 ++ (32 :: (dg_ a ++ Y)))))) C R K) (hY : stp_ Y) (ha : a < R) : ∃ s1 s3, fX3_hasMore s = some (s1, 1) ∧ fX3_readStatement s1 = some s3 ∧ PS_ s3 xs Y C R K := by
  obtain ⟨s1, t1, p1, s2, p2, e1, hJ, e2, h2, hA, c1, r1, k1, r2, k2, c2, c3⟩ := stm_open (k := 3) ht rfl h stp_32
  obtain ⟨s4, p4, e4, h4, hA4⟩ := word1 (w := 2) (k := 2) ht (by omega) rfl hA stp_32
  obtain ⟨s6, p6, e6, h6, hA6⟩ := num1 (lo := 0) (hi := nI (R - 1)) ht hA4 hY (by omega) (nI_le (a := 0) (Nat.zero_le _) (by omega)) (nI_le (by omega) (by omega))
  obtain ⟨s3, e3, h3⟩ := mast_fin (kd := nI 2) (wd := nI a) (s' := s4) ht hJ hA6 (by
    unfold fX3_readStatement
    rw [bn_e e2, if_neg (show ¬ nI 3 = (1 : Int32) by decide), if_neg (show ¬ nI 3 = (2 : Int32) by decide), if_pos (show nI 3 = (3 : Int32) from rfl)]
    unfold fX3_readMaster
    dsimp only
    rw [bn_e e4]
    dsimp only
    rw [if_pos (show nI 2 = (2 : Int32) from rfl), show s4 2 4 = nI R by rw [h4 2 (by decide)]; exact r1, show nI R - (1 : Int32) = nI (R - 1) from pk_sub (b := 1) (by omega), bn_e e6]
    cases fX3_readMaster_j30 (s4, nI 2) (nI a) s6 <;> rfl) (by rw [h6 2 (by decide), h4 2 (by decide)]; exact r1) (by rw [h6 2 (by decide), h4 2 (by decide)]; exact k1) r2 k2
  exact ⟨s1, s3, e1, e3, h3⟩
theorem riv_fin {kd wd : Int32} (ht : txk_ xs) (hJ : JS s1 t (tch_ xs) xs.length p C R K) (hA : AT_ s xs q Z) (e : fX3_readStatement s1 = fX3_readRival_j34 (s', kd) wd s) (r1 : s 2 4 = nI R) (k1 : s 2 12 = nI K) (hR : R ≤ 6) (k2 : K ≤ 16) : ∃ s3, fX3_readStatement s1 = some s3 ∧ PS_ s3 xs Z C R K := by
  have es : fX3_readStatement s1 = some (pt_ (pt_ s 2 15 wd) 2 14 kd) := by
    rw [e]
    unfold fX3_readRival_j34
    rw [bd_e, bd_e]
  refine ⟨_, es, stm_close hJ es ((hA.pt (by omega)).pt (by omega)) ?_ ?_ hR k2⟩
  · rw [pt_r (by decide), pt_r (by decide)]
    exact r1
  · rw [pt_r (by decide), pt_r (by decide)]
    exact k1
theorem L_rival (ht : txk_ xs) (h : PS_ s xs (59 :: (sb_y 25 ++ (32 :: (W ++ Y)))) C R K) (hk : (wds 2)[v]? = some W) (hv : v < 2) (hY : stp_ Y) : ∃ s1 s3, fX3_hasMore s = some (s1, 1) ∧ fX3_readStatement s1 = some s3 ∧ PS_ s3 xs Y C R K := by
  obtain ⟨s1, t1, p1, s2, p2, e1, hJ, e2, h2, hA, c1, r1, k1, r2, k2, c2, c3⟩ := stm_open (k := 7) ht rfl h stp_32
  obtain ⟨s4, p4, e4, h4, hA4⟩ := word1 (w := 2) ht (by omega) hk hA hY
  obtain ⟨s3, e3, h3⟩ := riv_fin (kd := nI v) (wd := -1) (s' := s4) ht hJ hA4 (by
    unfold fX3_readStatement
    rw [bn_e e2, if_neg (show ¬ nI 7 = (1 : Int32) by decide), if_neg (show ¬ nI 7 = (2 : Int32) by decide), if_neg (show ¬ nI 7 = (3 : Int32) by decide), if_neg (show ¬ nI 7 = (4 : Int32) by decide), if_neg (show ¬ nI 7 = (5 : Int32) by decide), if_neg (show ¬ nI 7 = (6 : Int32) by decide), if_pos (show nI 7 = (7 : Int32) from rfl)]
    unfold fX3_readRival
    dsimp only
    rw [bn_e e4]
    dsimp only
    rw [if_neg (show ¬ nI v = (2 : Int32) from fun z => absurd ((nI_eq (b := 2) (by omega) (by omega)).mp z) (by omega))]
    cases fX3_readRival_j34 (s4, nI v) (-1) s4 <;> rfl) (by rw [h4 2 (by decide)]; exact r1) (by rw [h4 2 (by decide)]; exact k1) r2 k2
  exact ⟨s1, s3, e1, e3, h3⟩
theorem L_rivalK (ht : txk_ xs) (h : PS_ s xs (59 :: (sb_y 25 ++ (32 :: (sb_y 24 ++ (32 :: (dg_ a ++ Y)))))) C R K) (hY : stp_ Y) (ha : a < R) : ∃ s1 s3, fX3_hasMore s = some (s1, 1) ∧ fX3_readStatement s1 = some s3 ∧ PS_ s3 xs Y C R K := by
  obtain ⟨s1, t1, p1, s2, p2, e1, hJ, e2, h2, hA, c1, r1, k1, r2, k2, c2, c3⟩ := stm_open (k := 7) ht rfl h stp_32
  obtain ⟨s4, p4, e4, h4, hA4⟩ := word1 (w := 2) (k := 2) ht (by omega) rfl hA stp_32
  obtain ⟨s6, p6, e6, h6, hA6⟩ := num1 (lo := 0) (hi := nI (R - 1)) ht hA4 hY (by omega) (nI_le (a := 0) (Nat.zero_le _) (by omega)) (nI_le (by omega) (by omega))
  obtain ⟨s3, e3, h3⟩ := riv_fin (kd := nI 2) (wd := nI a) (s' := s4) ht hJ hA6 (by
    unfold fX3_readStatement
    rw [bn_e e2, if_neg (show ¬ nI 7 = (1 : Int32) by decide), if_neg (show ¬ nI 7 = (2 : Int32) by decide), if_neg (show ¬ nI 7 = (3 : Int32) by decide), if_neg (show ¬ nI 7 = (4 : Int32) by decide), if_neg (show ¬ nI 7 = (5 : Int32) by decide), if_neg (show ¬ nI 7 = (6 : Int32) by decide), if_pos (show nI 7 = (7 : Int32) from rfl)]
    unfold fX3_readRival
    dsimp only
    rw [bn_e e4]
    dsimp only
    rw [if_pos (show nI 2 = (2 : Int32) from rfl), show s4 2 4 = nI R by rw [h4 2 (by decide)]; exact r1, show nI R - (1 : Int32) = nI (R - 1) from pk_sub (b := 1) (by omega), bn_e e6]
    cases fX3_readRival_j34 (s4, nI 2) (nI a) s6 <;> rfl) (by rw [h6 2 (by decide), h4 2 (by decide)]; exact r1) (by rw [h6 2 (by decide), h4 2 (by decide)]; exact k1) r2 k2
  exact ⟨s1, s3, e1, e3, h3⟩
end STMS2
