/-! rules, asks, statements -/
section STM2
variable {s s' u t t' : st_} {ch : Nat → Nat} {L p q e w C R K : Nat} {lo hi x : Int32}
theorem JS.word (h : JS s t ch L p C R K) (hc : CFr s s') (hb : BJ s' (sq t (tq ch L p) (te ch L p)) ch L (te ch L p)) : JS s' (sq t (tq ch L p) (te ch L p)) ch L (te ch L p) C R K := ⟨hb, h.2.fr hc (sq_o (by decide))⟩
theorem putRule_e {S : st_} {kd wd : Int32} (h : S 0 4 = nI R) (hR : R < 6) : fX5_putRule S kd wd = some (pt_ (pt_ (pt_ S 1 R kd) 2 R wd) 0 4 (nI (R + 1))) := by
  unfold fX5_putRule
  have e1 : (pt_ S 1 R kd) 0 4 = nI R := (pt_oo (by decide)).trans h
  have e2 : (pt_ (pt_ S 1 R kd) 2 R wd) 0 4 = nI R := (pt_oo (by decide)).trans e1
  rw [h, if_neg (show ¬ (6 : Int32) ≤ nI R from nI_ge (b := 6) hR (by omega)), gd_t (ib_n hR (by omega)), ix_n (by omega), bd_e, e1, gd_t (ib_n hR (by omega)), ix_n (by omega), bd_e, e2, bd_e, nI_1]
theorem putAsk_e {S : st_} (h : S 0 12 = nI K) (hK : K < 16) : fX5_putAsk S x = some (pt_ (pt_ S 3 K x) 0 12 (nI (K + 1))) := by
  unfold fX5_putAsk
  have e1 : (pt_ S 3 K x) 0 12 = nI K := (pt_oo (by decide)).trans h
  rw [h, if_neg (show ¬ (16 : Int32) ≤ nI K from nI_ge (b := 16) hK (by omega)), gd_t (ib_n hK (by omega)), ix_n (by omega), bd_e, e1, bd_e, nI_1]
theorem put2 {X : st_} {o : Nat} (ho : o < 4) : sb_ (mg_ s 2 4 X) 2 o = X o := by rw [sb_ap, mg_i (by omega) (by omega), Nat.add_sub_cancel_left]
/-- a rule is put, of both -/
theorem rule_j (h : FD 0 (sb_ s 2) (t 3) C R K) (hR : R < 6) (hb : BJ u t' ch L p) (hu : ∀ o, 2 ≤ o → u o = s o) {kd wd : Int32} (hk : rg_ kd 0 4) (hw : ∀ i, i ≠ 26 + 5 * R → i ≠ 26 + 5 * R + 1 → t' 3 i = t 3 i) (wk : t' 3 (26 + 5 * R) = kd) (ww : t' 3 (26 + 5 * R + 1) = wd) (r1 : Int32 × st_) : ∃ s1 t1, fX3_readRule_j44 (r1.2, kd) wd u = some s1 ∧ fX8_readRule_j141 t' = some (t1, 1) ∧ JS s1 t1 ch L p C (R + 1) K ∧ MF t' t1 := by
  have h4 : sb_ u 2 0 4 = nI R := by
    show u 2 4 = nI R
    rw [hu 2 (by omega)]
    exact h.R6.1
  have w4 : t' 3 4 = nI R := by rw [hw 4 (by omega) (by omega)]; exact h.R6.2.1
  unfold fX3_readRule_j44 fX8_readRule_j141
  rw [if_pos hb.2.2.2.2.2.1, bn_e (putRule_e h4 hR), bd_e, gd_t b4_, gd_t b4_, i4_, w4, nI_1, bd_e]
  refine ⟨_, _, rfl, rfl, ⟨hb.of (mg_o (by omega)) (mg_o (by omega)) (pt_o (by decide)) (pt_o (by decide)), ?_⟩, MF.p3⟩
  have e : ∀ o, sb_ u 2 o = sb_ s 2 o := fun o => hu _ (by omega)
  refine h.rule hR (kd := kd) (wd := wd) ?_ (fun j hj => ?_) ?_ ?_ ?_ (fun i h1 h2 h3 => ?_) pt_a ?_ ?_ hk
  · rw [put2 (by omega), pt_o (by decide), pt_o (by decide), pt_o (by decide), e]
  · rw [put2 (by omega), pt_r hj, pt_oo (by decide), pt_oo (by decide), e]
  · rw [put2 (by omega), pt_a]
  · rw [put2 (by omega), pt_o (by decide), pt_o (by decide)]
    exact pt_1 (e 1)
  · rw [put2 (by omega), pt_o (by decide)]
    exact pt_1 (by rw [pt_o (by decide), e])
  · rw [pt_r h1]
    exact hw i h2 h3
  · rw [pt_r (by omega)]
    exact wk
  · rw [pt_r (by omega)]
    exact ww
theorem readRule_p (h : JS s t ch L p C R K) (hq : t 0 10 = nI q) (hq4 : s 1 4 = nI q) : ST s t ch L p C (fX3_readRule s) (fX8_readRule t (nI q)) := by
  obtain ⟨hB, hF⟩ := h
  obtain ⟨hR1, hR2, hR6⟩ := hF.R6
  unfold fX3_readRule fX8_readRule fX8_isRoom fX8_isRoom_j23
  rw [hR1, bd_e, pt_id hq, gd_t b4_, i4_, hR2]
  by_cases hR : R < 6
  · rw [if_pos (show nI R < (6 : Int32) from nI_lt (b := 6) hR (by omega)), if_pos (show nI R < (6 : Int32) from nI_lt (b := 6) hR (by omega)), bn_s, if_neg (show ¬ (1 : Int32) = 0 by decide), gd_t b4_]
    obtain ⟨s', r, e1, hc, -, hw⟩ := word_p hB (w := 1) (by omega)
    have hqL := tq_L (ch := ch) hB.2.2.1
    have he := te_L (ch := ch) hB.2.2.1
    unfold fX3_readRule_j21
    rw [bn_e e1]
    dsimp only
    have hu : ∀ o, 2 ≤ o → s' o = s o := fun o ho => hc.1 o (by omega)
    have ei0 : (26 : Int32) + (5 : Int32) * nI R + (0 : Int32) = nI (26 + 5 * R) := by
      show nI 26 + nI 5 * nI R + nI 0 = _
      rw [pk_mul, nI_add, nI_add]
      rfl
    have ei1 : (26 : Int32) + (5 : Int32) * nI R + (1 : Int32) = nI (26 + 5 * R + 1) := by
      show nI 26 + nI 5 * nI R + nI 1 = _
      rw [pk_mul, nI_add, nI_add]
    rcases hw with ⟨k, W, k1, k2, k3, k4⟩ | ⟨k1, k2, k3⟩
    · -- a kind of rule
      have ok : ∀ k, k < 4 → r = nI k → ∃ s1, (if r = (4 : Int32) then (bn_ (fX3_readNumber s' (0 : Int32) (99 : Int32)) fun r11 => fX3_readRule_j44 (s', r) r11.2 r11.1) else (fX3_readRule_j44 (s', r) (-1 : Int32) s')) = some s1 ∧ ∃ t' p' R' K', fX8_readRule_j91 (t, (1 : Int32)) (nI k) (sq t (tq ch L p) (te ch L p)) = some (t', 1) ∧ p ≤ p' ∧ JS s1 t' ch L p' C R' K' ∧ MF t t' := fun k hk er => by
        subst er
        rw [if_neg (show ¬ nI k = (4 : Int32) from fun z => by have := (nI_eq (b := 4) (by omega) (by omega)).mp z; omega)]
        unfold fX8_readRule_j91
        dsimp only
        rw [if_neg (nI_ne1 (by omega)), i4_, hR2, ei0, ei1, gd_t (ib_n (by omega) (by omega)), bd_e, gd_t (ib_n (by omega) (by omega)), bd_e, ix_n (by omega), ix_n (by omega), if_neg (show ¬ nI k = (4 : Int32) from fun z => by have := (nI_eq (b := 4) (by omega) (by omega)).mp z; omega)]
        obtain ⟨s1, t1, x1, x2, x3, x4⟩ := rule_j (u := s') (t' := pt_ (pt_ (sq t (tq ch L p) (te ch L p)) 3 (26 + 5 * R) (nI k)) 3 (26 + 5 * R + 1) (-1)) hF hR (k4.of rfl rfl (by rw [pt_o (by decide), pt_o (by decide)]) (by rw [pt_o (by decide), pt_o (by decide)])) hu (kd := nI k) (wd := -1) (rg_n (Nat.zero_le _) (by omega) (by omega)) (fun i a b => by rw [pt_r b, pt_r a, sq_o (by decide)]) (by rw [pt_r (by omega), pt_a]) pt_a (0, s')
        rw [x1, x2]
        exact ⟨s1, rfl, t1, te ch L p, R + 1, K, rfl, by omega, x3, ((MF.sq.tr MF.p3).tr MF.p3).tr x4⟩
      rcases rul_w k1 with ⟨rfl, rfl⟩ | ⟨rfl, rfl⟩ | ⟨rfl, rfl⟩ | ⟨rfl, rfl⟩ | ⟨rfl, rfl⟩
      · obtain ⟨s1, x1, x2⟩ := ok 0 (by omega) k3
        rw [bn_e (show fX8_takes _ 16 = _ from (tk_t hB (by omega) k2).1), if_neg (show ¬ (1 : Int32) = 0 by decide)]
        exact ⟨s1, x1, Or.inl x2⟩
      · obtain ⟨s1, x1, x2⟩ := ok 1 (by omega) k3
        rw [bn_e (show fX8_takes _ 16 = _ from (tk_f hB (by omega) (tk_n k2 (by decide))).1), if_pos rfl, bn_e (show fX8_takes _ 17 = _ from (tk_t hB (by omega) k2).2), if_neg (show ¬ (1 : Int32) = 0 by decide)]
        exact ⟨s1, x1, Or.inl x2⟩
      · obtain ⟨s1, x1, x2⟩ := ok 2 (by omega) k3
        rw [bn_e (show fX8_takes _ 16 = _ from (tk_f hB (by omega) (tk_n k2 (by decide))).1), if_pos rfl, bn_e (show fX8_takes _ 17 = _ from (tk_f hB (by omega) (tk_n k2 (by decide))).2), if_pos rfl, bn_e (show fX8_takes _ 18 = _ from (tk_t hB (by omega) k2).2), if_neg (show ¬ (1 : Int32) = 0 by decide)]
        exact ⟨s1, x1, Or.inl x2⟩
      · obtain ⟨s1, x1, x2⟩ := ok 3 (by omega) k3
        rw [bn_e (show fX8_takes _ 16 = _ from (tk_f hB (by omega) (tk_n k2 (by decide))).1), if_pos rfl, bn_e (show fX8_takes _ 17 = _ from (tk_f hB (by omega) (tk_n k2 (by decide))).2), if_pos rfl, bn_e (show fX8_takes _ 18 = _ from (tk_f hB (by omega) (tk_n k2 (by decide))).2), if_pos rfl, bn_e (show fX8_takes _ 19 = _ from (tk_t hB (by omega) k2).2), if_neg (show ¬ (1 : Int32) = 0 by decide)]
        exact ⟨s1, x1, Or.inl x2⟩
      · subst k3
        rw [if_pos (show nI 4 = (4 : Int32) from rfl), bn_e (show fX8_takes _ 16 = _ from (tk_f hB (by omega) (tk_n k2 (by decide))).1), if_pos rfl, bn_e (show fX8_takes _ 17 = _ from (tk_f hB (by omega) (tk_n k2 (by decide))).2), if_pos rfl, bn_e (show fX8_takes _ 18 = _ from (tk_f hB (by omega) (tk_n k2 (by decide))).2), if_pos rfl, bn_e (show fX8_takes _ 19 = _ from (tk_f hB (by omega) (tk_n k2 (by decide))).2), if_pos rfl, bn_e (show fX8_takes _ 20 = _ from (tk_t hB (by omega) k2).2), if_neg (show ¬ (1 : Int32) = 0 by decide)]
        unfold fX8_readRule_j91
        dsimp only
        rw [if_neg (by decide), i4_, hR2, ei0, ei1, gd_t (ib_n (by omega) (by omega)), bd_e, gd_t (ib_n (by omega) (by omega)), bd_e, ix_n (by omega), ix_n (by omega), if_pos rfl]
        generalize hv : pt_ (pt_ (sq t (tq ch L p) (te ch L p)) 3 (26 + 5 * R) 4) 3 (26 + 5 * R + 1) (-1) = v
        have hbv : BJ s' v ch L (te ch L p) := by rw [← hv]; exact k4.of rfl rfl (by rw [pt_o (by decide), pt_o (by decide)]) (by rw [pt_o (by decide), pt_o (by decide)])
        have hmv : MF t v := by rw [← hv]; exact (MF.sq.tr MF.p3).tr MF.p3
        have v3 : ∀ i, i ≠ 26 + 5 * R → i ≠ 26 + 5 * R + 1 → v 3 i = t 3 i := fun i a b => by rw [← hv, pt_r b, pt_r a, sq_o (by decide)]
        have vk : v 3 (26 + 5 * R) = 4 := by rw [← hv, pt_r (by omega), pt_a]
        obtain ⟨y, x, e2, hcy, h2⟩ := num_p hbv (pl := 26 + 5 * R + 1) (lo := 0) (hi := 99) (by omega) (by decide)
        rw [bn_e e2]
        dsimp only
        rcases h2 with ⟨p1, t1, m1, m2, m3, m4, m5, m6⟩ | ⟨t1, m1, m2, m3⟩
        · rw [bn_e m1, if_neg (show ¬ (1 : Int32) = 0 by decide)]
          obtain ⟨s1, t2, x1, x2, x3, x4⟩ := rule_j (u := y) (t' := t1) hF hR m3 (fun o ho => (hcy.1 o (by omega)).trans (hu o ho)) (kd := nI 4) (wd := x) (rg_n (Nat.zero_le _) (by omega) (by omega)) (fun i a b => by rw [m5, up_n b]; exact v3 i a b) (by rw [m5, up_n (by omega)]; exact vk) (by rw [m5, up_a]) (0, s')
          exact ⟨s1, x1, Or.inl ⟨t2, p1, R + 1, K, x2, by omega, x3, (hmv.tr m6).tr x4⟩⟩
        · rw [bn_e m1, if_pos rfl]
          unfold fX3_readRule_j44
          rw [if_neg m3.1.2.2]
          exact ⟨y, rfl, Or.inr ⟨t1, rfl, hmv.tr m2, m3⟩⟩
    · subst k1
      unfold fX3_readRule_j44 fX8_readRule_j91
      rw [if_neg (show ¬ (-1 : Int32) = (4 : Int32) by decide), if_neg k3.1.2.2, bn_e (show fX8_takes _ 16 = _ from (tk_f hB (by omega) (k2 0 _ rfl)).1), if_pos rfl, bn_e (show fX8_takes _ 17 = _ from (tk_f hB (by omega) (k2 1 _ rfl)).2), if_pos rfl, bn_e (show fX8_takes _ 18 = _ from (tk_f hB (by omega) (k2 2 _ rfl)).2), if_pos rfl, bn_e (show fX8_takes _ 19 = _ from (tk_f hB (by omega) (k2 3 _ rfl)).2), if_pos rfl, bn_e (show fX8_takes _ 20 = _ from (tk_f hB (by omega) (k2 4 _ rfl)).2), if_pos rfl, if_pos rfl, bn_e (fails_q hB.2.2.2.2.2.2)]
      exact ⟨s', rfl, Or.inr ⟨_, rfl, MF.sq.tr MF.fl, k3⟩⟩
  · rw [if_neg (show ¬ nI R < (6 : Int32) from nI_nlt (b := 6) (by omega) (by omega)), if_neg (show ¬ nI R < (6 : Int32) from nI_nlt (b := 6) (by omega) (by omega)), bn_e fail_e, if_pos hB.2.2.2.2.2.1, hq4, bn_e fails_e, if_pos hB.2.2.2.2.2.2, hq, if_pos rfl, bn_s, if_pos rfl]
    have hce : CE (pt_ (pt_ s 1 5 3) 1 6 (nI q)) ch L := ⟨hB.1.fr ((CFr.pt (by omega)).tr (CFr.pt (by omega))), ⟨p, hB.2.2.1, by rw [pt_r (by decide), pt_r (by decide)]; exact hB.2.2.2.1⟩, by rw [pt_r (by decide), pt_a]; decide⟩
    unfold fX3_readRule_j21 fX3_readRule_j44
    rw [bn_e hce.word, if_neg (show ¬ (-1 : Int32) = (4 : Int32) by decide), if_neg hce.2.2]
    have e5 : (pt_ (pt_ t 0 12 3) 0 11 (nI q)) 0 12 = (pt_ (pt_ s 1 5 3) 1 6 (nI q)) 1 5 := by rw [pt_r (by decide), pt_a, pt_r (by decide), pt_a]
    have e6 : (pt_ (pt_ t 0 12 3) 0 11 (nI q)) 0 11 = (pt_ (pt_ s 1 5 3) 1 6 (nI q)) 1 6 := by rw [pt_a, pt_a]
    exact ⟨_, rfl, Or.inr ⟨_, rfl, (MF.p0 (by omega)).tr (MF.p0 (by omega)), hce, e5, e6⟩⟩
theorem readAsk_p (h : JS s t ch L p C R K) (hq : t 0 10 = nI q) (hq4 : s 1 4 = nI q) : ST s t ch L p C (fX3_readAsk s) (fX8_readAsk t (nI q)) := by
  obtain ⟨hB, hF⟩ := h
  obtain ⟨hK1, hK2, hK16⟩ := hF.K16
  obtain ⟨hC1, hC2, hC3, hC4⟩ := hF.C100
  unfold fX3_readAsk fX8_readAsk fX8_isRoom fX8_isRoom_j23
  rw [hK1, bd_e, pt_id hq, gd_t b10_, i10_, hK2]
  by_cases hK : K < 16
  · rw [if_pos (show nI K < (16 : Int32) from nI_lt (b := 16) hK (by omega)), if_pos (show nI K < (16 : Int32) from nI_lt (b := 16) hK (by omega)), bn_s, if_neg (show ¬ (1 : Int32) = 0 by decide), gd_t b10_, gd_t b0_, i0_]
    unfold fX3_readAsk_j21
    dsimp only
    have eC : nI C - (1 : Int32) = nI (C - 1) := pk_sub (b := 1) (by omega)
    have e56 : (56 : Int32) + nI K = nI (56 + K) := nI_add 56 K
    rw [hC1, hC2, hK2, eC, e56]
    obtain ⟨y, x, e2, hcy, h2⟩ := num_p hB (pl := 56 + K) (lo := 0) (hi := nI (C - 1)) (by omega) (nI_lt (b := 1000000) (by omega) (by omega))
    rw [bn_e e2]
    dsimp only
    rcases h2 with ⟨p1, t1, m1, m2, m3, m4, m5, m6⟩ | ⟨t1, m1, m2, m3⟩
    · have hy12 : sb_ y 2 0 12 = nI K := by
        show y 2 12 = nI K
        rw [hcy.1 2 (by decide)]
        exact hK1
      have t10 : t1 3 10 = nI K := by rw [m5, up_n (by omega)]; exact hK2
      rw [if_pos m3.2.2.2.2.2.1, bn_e (putAsk_e hy12 hK), bd_e, bn_e m1, if_neg (show ¬ (1 : Int32) = 0 by decide), gd_t b10_, gd_t b10_]
      dsimp only
      rw [t10, nI_1, bd_e]
      refine ⟨_, rfl, Or.inl ⟨_, p1, R, K + 1, rfl, m2, ⟨m3.of (mg_o (by omega)) (mg_o (by omega)) (pt_o (by decide)) (pt_o (by decide)), ?_⟩, m6.tr MF.p3⟩⟩
      have e : ∀ o, sb_ y 2 o = sb_ s 2 o := fun o => hcy.1 _ (by omega)
      refine hF.ask hK (x := x) ⟨?_, ?_⟩ (fun j hj => ?_) ?_ ?_ (fun i h1 h2 => ?_) pt_a ?_ ((rg_iff (lo := 0) (by omega) (by omega)).mpr m4)
      · rw [put2 (by omega), pt_o (by decide), pt_o (by decide), e]
      · rw [put2 (by omega), pt_o (by decide), pt_o (by decide), e]
      · rw [put2 (by omega), pt_r hj, pt_oo (by decide), e]
      · rw [put2 (by omega), pt_a]
      · rw [put2 (by omega), pt_o (by decide)]
        exact pt_1 (e 3)
      · rw [pt_r h1, m5, up_n h2]
      · rw [pt_r (by omega), m5, up_a]
    · rw [if_neg m3.1.2.2, bn_e m1, if_pos rfl]
      exact ⟨y, rfl, Or.inr ⟨t1, rfl, m2, m3⟩⟩
  · rw [if_neg (show ¬ nI K < (16 : Int32) from nI_nlt (b := 16) (by omega) (by omega)), if_neg (show ¬ nI K < (16 : Int32) from nI_nlt (b := 16) (by omega) (by omega)), bn_e fail_e, if_pos hB.2.2.2.2.2.1, hq4, bn_e fails_e, if_pos hB.2.2.2.2.2.2, hq, if_pos rfl, bn_s, if_pos rfl]
    have hce : CE (pt_ (pt_ s 1 5 3) 1 6 (nI q)) ch L := ⟨hB.1.fr ((CFr.pt (by omega)).tr (CFr.pt (by omega))), ⟨p, hB.2.2.1, by rw [pt_r (by decide), pt_r (by decide)]; exact hB.2.2.2.1⟩, by rw [pt_r (by decide), pt_a]; decide⟩
    unfold fX3_readAsk_j21
    rw [bn_e hce.num, if_neg hce.2.2]
    have e5 : (pt_ (pt_ t 0 12 3) 0 11 (nI q)) 0 12 = (pt_ (pt_ s 1 5 3) 1 6 (nI q)) 1 5 := by rw [pt_r (by decide), pt_a, pt_r (by decide), pt_a]
    have e6 : (pt_ (pt_ t 0 12 3) 0 11 (nI q)) 0 11 = (pt_ (pt_ s 1 5 3) 1 6 (nI q)) 1 6 := by rw [pt_a, pt_a]
    exact ⟨_, rfl, Or.inr ⟨_, rfl, (MF.p0 (by omega)).tr (MF.p0 (by omega)), hce, e5, e6⟩⟩
theorem ST.bn {A : Option st_} {B : Option (st_ × Int32)} (h : ST s t ch L p C A B) : ST s t ch L p C (bn_ A fun r => some r) (bn_ B fun r => gd_ (bz_ r.2) <| some (r.1, r.2)) := by
  obtain ⟨s', e, h⟩ := h
  rw [e]
  refine ⟨s', rfl, ?_⟩
  rcases h with ⟨t', p', R', K', h1, h2, h3, h4⟩ | ⟨t', h1, h2, h3⟩
  · rw [h1]
    exact Or.inl ⟨t', p', R', K', rfl, h2, h3, h4⟩
  · rw [h1]
    exact Or.inr ⟨t', rfl, h2, h3⟩
/-- one field, then another -/
theorem two_p (h : JS s t ch L p C R K) {i i' : Nat} {lo' hi' : Int32} (hi1 : i = 2 ∨ i = 3 ∨ (7 ≤ i ∧ i ≤ 9) ∨ (11 ≤ i ∧ i ≤ 13)) (hok : ∀ x, lo ≤ x ∧ x ≤ hi → okw C R K i x) (hh : hi < (1000000 : Int32)) (hi2 : i' = 2 ∨ i' = 3 ∨ (7 ≤ i' ∧ i' ≤ 9) ∨ (11 ≤ i' ∧ i' ≤ 13)) (hok' : ∀ x, lo' ≤ x ∧ x ≤ hi' → okw C R K i' x) (hh' : hi' < (1000000 : Int32)) : ST s t ch L p C (bn_ (fX3_readNumber s lo hi) fun r5 => bd_ (pt_ r5.1 2 (pj i) r5.2) fun s9 => bn_ (fX3_readNumber s9 lo' hi') fun r13 => bd_ (pt_ r13.1 2 (pj i') r13.2) fun s17 => some s17) (bn_ (fX8_into t (nI i) lo hi) fun r92 => if r92.2 = (0 : Int32) then (some (r92.1, (0 : Int32))) else (bn_ (fX8_into r92.1 (nI i') lo' hi') fun r96 => if r96.2 = (0 : Int32) then (some (r96.1, (0 : Int32))) else (some (r96.1, (1 : Int32))))) := by
  obtain ⟨s1, x, e1, h1⟩ := fld_p h hi1 hok hh
  rw [bn_e e1, bd_e]
  rcases h1 with ⟨p1, t1, m1, m2, m3, m4⟩ | ⟨t1, m1, m2, m3⟩
  · obtain ⟨s2, y, e2, h2⟩ := fld_p m3 hi2 hok' hh'
    rw [bn_e e2, bd_e, bn_e m1, if_neg (show ¬ (1 : Int32) = 0 by decide)]
    rcases h2 with ⟨p2, t2, n1, n2, n3, n4⟩ | ⟨t2, n1, n2, n3⟩
    · rw [bn_e n1, if_neg (show ¬ (1 : Int32) = 0 by decide)]
      exact ⟨_, rfl, Or.inl ⟨t2, p2, R, K, rfl, by omega, n3, m4.tr n4⟩⟩
    · rw [bn_e n1, if_pos rfl]
      exact ⟨_, rfl, Or.inr ⟨t2, rfl, m4.tr n2, n3⟩⟩
  · rw [bn_e m3.1.num, bd_e, bn_e m1, if_pos rfl]
    exact ⟨_, rfl, Or.inr ⟨t1, rfl, m2, m3.of (pt_o (by decide)) (pt_o (by decide))⟩⟩
theorem one_p (h : JS s t ch L p C R K) {i : Nat} (hi1 : i = 2 ∨ i = 3 ∨ (7 ≤ i ∧ i ≤ 9) ∨ (11 ≤ i ∧ i ≤ 13)) (hok : ∀ x, lo ≤ x ∧ x ≤ hi → okw C R K i x) (hh : hi < (1000000 : Int32)) : ST s t ch L p C (bn_ (fX3_readNumber s lo hi) fun r5 => bd_ (pt_ r5.1 2 (pj i) r5.2) fun s9 => some s9) (bn_ (fX8_into t (nI i) lo hi) fun r => gd_ (bz_ r.2) <| some (r.1, r.2)) := by
  obtain ⟨s1, x, e1, h1⟩ := fld_p h hi1 hok hh
  rw [bn_e e1, bd_e]
  rcases h1 with ⟨p1, t1, m1, m2, m3, m4⟩ | ⟨t1, m1, m2, m3⟩
  · rw [bn_e m1]
    exact ⟨_, rfl, Or.inl ⟨t1, p1, R, K, rfl, m2, m3, m4⟩⟩
  · rw [bn_e m1]
    exact ⟨_, rfl, Or.inr ⟨t1, rfl, m2, m3⟩⟩
theorem readStatement_p (h : JS s t ch L p C R K) : ST s t ch L p C (fX3_readStatement s) (fX8_readStatement t) := by
  have hB := h.1
  obtain ⟨s', r, e1, hc, hs4, hw⟩ := word_p hB (w := 0) (by omega)
  have hqL := tq_L (ch := ch) hB.2.2.1
  have he := te_L (ch := ch) hB.2.2.1
  unfold fX3_readStatement fX8_readStatement
  rw [bn_e e1, bn_e (see_e hB.2.1 hB.2.2.2.2.1 hB.2.2.1)]
  dsimp only
  rw [sq_q]
  rcases hw with ⟨k, W, k1, k2, k3, k4⟩ | ⟨k1, k2, k3⟩
  · have hJ := h.word hc k4
    have hm : MF t (sq t (tq ch L p) (te ch L p)) := MF.sq
    rcases stm_w k1 with ⟨rfl, rfl⟩ | ⟨rfl, rfl⟩ | ⟨rfl, rfl⟩ | ⟨rfl, rfl⟩ | ⟨rfl, rfl⟩ | ⟨rfl, rfl⟩ | ⟨rfl, rfl⟩ | ⟨rfl, rfl⟩ | ⟨rfl, rfl⟩ | ⟨rfl, rfl⟩
    · subst k3
      rw [if_neg (show ¬ nI 0 = (1 : Int32) by decide), if_neg (show ¬ nI 0 = (2 : Int32) by decide), if_neg (show ¬ nI 0 = (3 : Int32) by decide), if_neg (show ¬ nI 0 = (4 : Int32) by decide), if_neg (show ¬ nI 0 = (5 : Int32) by decide), if_neg (show ¬ nI 0 = (6 : Int32) by decide), if_neg (show ¬ nI 0 = (7 : Int32) by decide), if_neg (show ¬ nI 0 = (8 : Int32) by decide), if_neg (show ¬ nI 0 = (9 : Int32) by decide), bn_e (show fX8_takes _ 14 = _ from (tk_f hB (by omega) (tk_n k2 (by decide))).2), if_pos rfl, bn_e (show fX8_takes _ 15 = _ from (tk_f hB (by omega) (tk_n k2 (by decide))).2), if_pos rfl, bn_e (show fX8_takes _ 21 = _ from (tk_f hB (by omega) (tk_n k2 (by decide))).2), if_pos rfl, bn_e (show fX8_takes _ 25 = _ from (tk_f hB (by omega) (tk_n k2 (by decide))).2), if_pos rfl, bn_e (show fX8_takes _ 26 = _ from (tk_f hB (by omega) (tk_n k2 (by decide))).2), if_pos rfl, bn_e (show fX8_takes _ 27 = _ from (tk_f hB (by omega) (tk_n k2 (by decide))).2), if_pos rfl, bn_e (show fX8_takes _ 28 = _ from (tk_f hB (by omega) (tk_n k2 (by decide))).2), if_pos rfl, bn_e (show fX8_takes _ 35 = _ from (tk_f hB (by omega) (tk_n k2 (by decide))).2), if_pos rfl, bn_e (show fX8_takes _ 36 = _ from (tk_f hB (by omega) (tk_n k2 (by decide))).2), if_pos rfl, bn_e fail_e, if_pos k4.2.2.2.2.2.1, bn_e (fails_q hB.2.2.2.2.2.2)]
      refine ⟨_, rfl, Or.inr ⟨_, rfl, MF.sq.tr MF.fl, ⟨⟨k4.1.fr ((CFr.pt (by omega)).tr (CFr.pt (by omega))), ⟨_, he.2, by rw [pt_r (by decide), pt_r (by decide)]; exact k4.2.2.2.1⟩, by rw [pt_r (by decide), pt_a]; decide⟩, ?_, ?_⟩⟩⟩
      · unfold fl_
        dsimp only
        rw [pt_r (by decide), pt_a, pt_r (by decide), pt_a]
      · unfold fl_
        dsimp only
        rw [pt_a, pt_a, hs4]
    · subst k3
      rw [if_pos (show nI 1 = (1 : Int32) from rfl), bn_e (show fX8_takes _ 14 = _ from (tk_t hB (by omega) k2).2), if_neg (show ¬ (1 : Int32) = 0 by decide)]
      exact (two_p hJ (i := 2) (i' := 3) (lo := 0) (hi := 99) (lo' := 1) (hi' := 99) (by omega) (fun x z => (rg_iff (lo := 0) (hi := 99) (by omega) (by omega)).mpr z) (by decide) (by omega) (fun x z => (rg_iff (lo := 1) (hi := 99) (by omega) (by omega)).mpr z) (by decide)).le (by omega) hm
    · subst k3
      rw [if_neg (show ¬ nI 2 = (1 : Int32) by decide), if_pos (show nI 2 = (2 : Int32) from rfl), bn_e (show fX8_takes _ 14 = _ from (tk_f hB (by omega) (tk_n k2 (by decide))).2), if_pos rfl, bn_e (show fX8_takes _ 15 = _ from (tk_t hB (by omega) k2).2), if_neg (show ¬ (1 : Int32) = 0 by decide)]
      exact (readRule_p hJ sq_q hs4).bn.le (by omega) hm
    · subst k3
      rw [if_neg (show ¬ nI 3 = (1 : Int32) by decide), if_neg (show ¬ nI 3 = (2 : Int32) by decide), if_pos (show nI 3 = (3 : Int32) from rfl), bn_e (show fX8_takes _ 14 = _ from (tk_f hB (by omega) (tk_n k2 (by decide))).2), if_pos rfl, bn_e (show fX8_takes _ 15 = _ from (tk_f hB (by omega) (tk_n k2 (by decide))).2), if_pos rfl, bn_e (show fX8_takes _ 21 = _ from (tk_t hB (by omega) k2).2), if_neg (show ¬ (1 : Int32) = 0 by decide)]
      exact (readMaster_p hJ).bn.le (by omega) hm
    · subst k3
      rw [if_neg (show ¬ nI 4 = (1 : Int32) by decide), if_neg (show ¬ nI 4 = (2 : Int32) by decide), if_neg (show ¬ nI 4 = (3 : Int32) by decide), if_pos (show nI 4 = (4 : Int32) from rfl), bn_e (show fX8_takes _ 14 = _ from (tk_f hB (by omega) (tk_n k2 (by decide))).2), if_pos rfl, bn_e (show fX8_takes _ 15 = _ from (tk_f hB (by omega) (tk_n k2 (by decide))).2), if_pos rfl, bn_e (show fX8_takes _ 21 = _ from (tk_f hB (by omega) (tk_n k2 (by decide))).2), if_pos rfl, bn_e (show fX8_takes _ 25 = _ from (tk_f hB (by omega) (tk_n k2 (by decide))).2), if_pos rfl, bn_e (show fX8_takes _ 26 = _ from (tk_f hB (by omega) (tk_n k2 (by decide))).2), if_pos rfl, bn_e (show fX8_takes _ 27 = _ from (tk_t hB (by omega) k2).2), if_neg (show ¬ (1 : Int32) = 0 by decide)]
      exact (two_p hJ (i := 7) (i' := 8) (lo := 1) (hi := 500) (lo' := 0) (hi' := 32767) (by omega) (fun x z => (rg_iff (lo := 1) (hi := 500) (by omega) (by omega)).mpr z) (by decide) (by omega) (fun x z => (rg_iff (lo := 0) (hi := 32767) (by omega) (by omega)).mpr z) (by decide)).le (by omega) hm
    · subst k3
      rw [if_neg (show ¬ nI 5 = (1 : Int32) by decide), if_neg (show ¬ nI 5 = (2 : Int32) by decide), if_neg (show ¬ nI 5 = (3 : Int32) by decide), if_neg (show ¬ nI 5 = (4 : Int32) by decide), if_pos (show nI 5 = (5 : Int32) from rfl), bn_e (show fX8_takes _ 14 = _ from (tk_f hB (by omega) (tk_n k2 (by decide))).2), if_pos rfl, bn_e (show fX8_takes _ 15 = _ from (tk_f hB (by omega) (tk_n k2 (by decide))).2), if_pos rfl, bn_e (show fX8_takes _ 21 = _ from (tk_f hB (by omega) (tk_n k2 (by decide))).2), if_pos rfl, bn_e (show fX8_takes _ 25 = _ from (tk_f hB (by omega) (tk_n k2 (by decide))).2), if_pos rfl, bn_e (show fX8_takes _ 26 = _ from (tk_f hB (by omega) (tk_n k2 (by decide))).2), if_pos rfl, bn_e (show fX8_takes _ 27 = _ from (tk_f hB (by omega) (tk_n k2 (by decide))).2), if_pos rfl, bn_e (show fX8_takes _ 28 = _ from (tk_t hB (by omega) k2).2), if_neg (show ¬ (1 : Int32) = 0 by decide)]
      obtain ⟨s2, r2, e2, h2⟩ := readFoe_p hJ
      rw [bn_e e2, bd_e]
      exact h2.bn.le (by omega) hm
    · subst k3
      rw [if_neg (show ¬ nI 6 = (1 : Int32) by decide), if_neg (show ¬ nI 6 = (2 : Int32) by decide), if_neg (show ¬ nI 6 = (3 : Int32) by decide), if_neg (show ¬ nI 6 = (4 : Int32) by decide), if_neg (show ¬ nI 6 = (5 : Int32) by decide), if_pos (show nI 6 = (6 : Int32) from rfl), bn_e (show fX8_takes _ 14 = _ from (tk_f hB (by omega) (tk_n k2 (by decide))).2), if_pos rfl, bn_e (show fX8_takes _ 15 = _ from (tk_f hB (by omega) (tk_n k2 (by decide))).2), if_pos rfl, bn_e (show fX8_takes _ 21 = _ from (tk_f hB (by omega) (tk_n k2 (by decide))).2), if_pos rfl, bn_e (show fX8_takes _ 25 = _ from (tk_f hB (by omega) (tk_n k2 (by decide))).2), if_pos rfl, bn_e (show fX8_takes _ 26 = _ from (tk_f hB (by omega) (tk_n k2 (by decide))).2), if_pos rfl, bn_e (show fX8_takes _ 27 = _ from (tk_f hB (by omega) (tk_n k2 (by decide))).2), if_pos rfl, bn_e (show fX8_takes _ 28 = _ from (tk_f hB (by omega) (tk_n k2 (by decide))).2), if_pos rfl, bn_e (show fX8_takes _ 35 = _ from (tk_t hB (by omega) k2).2), if_neg (show ¬ (1 : Int32) = 0 by decide)]
      exact (readAsk_p hJ sq_q hs4).bn.le (by omega) hm
    · subst k3
      rw [if_neg (show ¬ nI 7 = (1 : Int32) by decide), if_neg (show ¬ nI 7 = (2 : Int32) by decide), if_neg (show ¬ nI 7 = (3 : Int32) by decide), if_neg (show ¬ nI 7 = (4 : Int32) by decide), if_neg (show ¬ nI 7 = (5 : Int32) by decide), if_neg (show ¬ nI 7 = (6 : Int32) by decide), if_pos (show nI 7 = (7 : Int32) from rfl), bn_e (show fX8_takes _ 14 = _ from (tk_f hB (by omega) (tk_n k2 (by decide))).2), if_pos rfl, bn_e (show fX8_takes _ 15 = _ from (tk_f hB (by omega) (tk_n k2 (by decide))).2), if_pos rfl, bn_e (show fX8_takes _ 21 = _ from (tk_f hB (by omega) (tk_n k2 (by decide))).2), if_pos rfl, bn_e (show fX8_takes _ 25 = _ from (tk_t hB (by omega) k2).2), if_neg (show ¬ (1 : Int32) = 0 by decide)]
      exact (readRival_p hJ).bn.le (by omega) hm
    · subst k3
      rw [if_neg (show ¬ nI 8 = (1 : Int32) by decide), if_neg (show ¬ nI 8 = (2 : Int32) by decide), if_neg (show ¬ nI 8 = (3 : Int32) by decide), if_neg (show ¬ nI 8 = (4 : Int32) by decide), if_neg (show ¬ nI 8 = (5 : Int32) by decide), if_neg (show ¬ nI 8 = (6 : Int32) by decide), if_neg (show ¬ nI 8 = (7 : Int32) by decide), if_pos (show nI 8 = (8 : Int32) from rfl), bn_e (show fX8_takes _ 14 = _ from (tk_f hB (by omega) (tk_n k2 (by decide))).2), if_pos rfl, bn_e (show fX8_takes _ 15 = _ from (tk_f hB (by omega) (tk_n k2 (by decide))).2), if_pos rfl, bn_e (show fX8_takes _ 21 = _ from (tk_f hB (by omega) (tk_n k2 (by decide))).2), if_pos rfl, bn_e (show fX8_takes _ 25 = _ from (tk_f hB (by omega) (tk_n k2 (by decide))).2), if_pos rfl, bn_e (show fX8_takes _ 26 = _ from (tk_t hB (by omega) k2).2), if_neg (show ¬ (1 : Int32) = 0 by decide)]
      exact (one_p hJ (i := 13) (lo := 0) (hi := 999) (by omega) (fun x z => trivial) (by decide)).le (by omega) hm
    · subst k3
      rw [if_neg (show ¬ nI 9 = (1 : Int32) by decide), if_neg (show ¬ nI 9 = (2 : Int32) by decide), if_neg (show ¬ nI 9 = (3 : Int32) by decide), if_neg (show ¬ nI 9 = (4 : Int32) by decide), if_neg (show ¬ nI 9 = (5 : Int32) by decide), if_neg (show ¬ nI 9 = (6 : Int32) by decide), if_neg (show ¬ nI 9 = (7 : Int32) by decide), if_neg (show ¬ nI 9 = (8 : Int32) by decide), if_pos (show nI 9 = (9 : Int32) from rfl), bn_e (show fX8_takes _ 14 = _ from (tk_f hB (by omega) (tk_n k2 (by decide))).2), if_pos rfl, bn_e (show fX8_takes _ 15 = _ from (tk_f hB (by omega) (tk_n k2 (by decide))).2), if_pos rfl, bn_e (show fX8_takes _ 21 = _ from (tk_f hB (by omega) (tk_n k2 (by decide))).2), if_pos rfl, bn_e (show fX8_takes _ 25 = _ from (tk_f hB (by omega) (tk_n k2 (by decide))).2), if_pos rfl, bn_e (show fX8_takes _ 26 = _ from (tk_f hB (by omega) (tk_n k2 (by decide))).2), if_pos rfl, bn_e (show fX8_takes _ 27 = _ from (tk_f hB (by omega) (tk_n k2 (by decide))).2), if_pos rfl, bn_e (show fX8_takes _ 28 = _ from (tk_f hB (by omega) (tk_n k2 (by decide))).2), if_pos rfl, bn_e (show fX8_takes _ 35 = _ from (tk_f hB (by omega) (tk_n k2 (by decide))).2), if_pos rfl, bn_e (show fX8_takes _ 36 = _ from (tk_t hB (by omega) k2).2), if_neg (show ¬ (1 : Int32) = 0 by decide)]
      exact (two_p hJ (i := 11) (i' := 12) (lo := 0) (hi := 99999) (lo' := 0) (hi' := 9999) (by omega) (fun x z => trivial) (by decide) (by omega) (fun x z => trivial) (by decide)).le (by omega) hm
  · subst k1
    rw [if_neg (show ¬ (-1 : Int32) = (1 : Int32) by decide), if_neg (show ¬ (-1 : Int32) = (2 : Int32) by decide), if_neg (show ¬ (-1 : Int32) = (3 : Int32) by decide), if_neg (show ¬ (-1 : Int32) = (4 : Int32) by decide), if_neg (show ¬ (-1 : Int32) = (5 : Int32) by decide), if_neg (show ¬ (-1 : Int32) = (6 : Int32) by decide), if_neg (show ¬ (-1 : Int32) = (7 : Int32) by decide), if_neg (show ¬ (-1 : Int32) = (8 : Int32) by decide), if_neg (show ¬ (-1 : Int32) = (9 : Int32) by decide), bn_e k3.1.fail, bn_e (show fX8_takes _ 14 = _ from (tk_f hB (by omega) (k2 1 _ rfl)).2), if_pos rfl, bn_e (show fX8_takes _ 15 = _ from (tk_f hB (by omega) (k2 2 _ rfl)).2), if_pos rfl, bn_e (show fX8_takes _ 21 = _ from (tk_f hB (by omega) (k2 3 _ rfl)).2), if_pos rfl, bn_e (show fX8_takes _ 25 = _ from (tk_f hB (by omega) (k2 7 _ rfl)).2), if_pos rfl, bn_e (show fX8_takes _ 26 = _ from (tk_f hB (by omega) (k2 8 _ rfl)).2), if_pos rfl, bn_e (show fX8_takes _ 27 = _ from (tk_f hB (by omega) (k2 4 _ rfl)).2), if_pos rfl, bn_e (show fX8_takes _ 28 = _ from (tk_f hB (by omega) (k2 5 _ rfl)).2), if_pos rfl, bn_e (show fX8_takes _ 35 = _ from (tk_f hB (by omega) (k2 6 _ rfl)).2), if_pos rfl, bn_e (show fX8_takes _ 36 = _ from (tk_f hB (by omega) (k2 9 _ rfl)).2), if_pos rfl, bn_e (fails_q hB.2.2.2.2.2.2)]
    exact ⟨_, rfl, Or.inr ⟨_, rfl, MF.sq.tr MF.fl, k3⟩⟩
end STM2
