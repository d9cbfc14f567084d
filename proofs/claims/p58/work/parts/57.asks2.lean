/-! calls that ask: what is served, regret, the rival, costs of rounds -/
section ASKS
variable {s t e : st_} {w : Nat → Int32} {C R n T : Nat}
theorem seedOf (h : HH s t C R n T) {t' : st_} (e1 : t' 1 = t 1) : HH s t' C R n T := by
  unfold HH at h ⊢
  rw [e1]
  exact h
theorem nextRule_p (h : HH s t C R n T) : QV t (fX7_nextRule s) (fX8_nextRule t) := by
  obtain ⟨r, hr, e1, e2⟩ := comingRule_p (t := pt_ t 0 6 0) h.t6.1.rb
  unfold fX7_nextRule fX8_nextRule
  rw [bn_e e1, bd_e, bn_e e2]
  exact ⟨_, _, rfl, rfl, MI.t6⟩
theorem rounds_p (h : HH s t C R n T) : QV t (fX7_rounds s) (fX8_rounds_ t) := by
  have ev : s 9 9 = t 1 16 := h.1.mk
  unfold fX7_rounds fX8_rounds_
  rw [bd_e, gd_t b16_, i16_, pt_oo (by decide), ev]
  exact ⟨_, _, rfl, rfl, MI.t6⟩
theorem best_q (h : HH s t C R n T) : QV t (fX7_best s) (fX8_best t) := by
  have hB := h.1.rb
  unfold fX7_best fX8_best
  rw [bn_e (cheapest_e (d := sb_ s 9) hB.1.2.2.1 hB.1.1 hB.1.2.1), bd_e, bn_e (best_p (t := pt_ t 0 6 0) h.t6.1.2.2 hB.1.2.2.2 hB.1.1 hB.1.2.1)]
  exact ⟨_, _, rfl, rfl, MI.t6⟩
theorem regretTo_p (h : HH s t C R n T) (i0 : Int32) : QN g1i_ t (fX7_regretTo s i0) (fX8_regretTo t i0) := by
  have hB := h.1.rb
  obtain ⟨A1, A2, A3, A4⟩ := h.1.2.2
  unfold fX7_regretTo fX8_regretTo
  rcases ruleC (R := R) i0 hB.1.2.1 with ⟨r, hr, rfl⟩ | hx
  · have h6 := hB.1.2.1
    have e3 : 9 + (3 * r + 15) = 3 * r + 24 := by omega
    have p5 : s (3 * r + 24) 5 = t 1 (ab_ r + 3) := by
      have h0 : s (9 + (3 * r + 15)) 5 = t 1 (ab_ r + 3) := (A3 r hr).1.2.2.2.1
      rw [e3] at h0
      exact h0
    have p6 : s 14 5 = t 1 (ab_ 6 + 3) := A1.2.2.2.1
    rw [bn_e (reqRule_t hB.1.2.2.1 hr h6), tb_l, bn_e (noRule_t hB.1.2.2.2 hr h6), if_pos rfl, gd_t (ib_n (by omega) (by omega)), ix_n (by omega), bn_e (show fX8_armOf (pt_ t 0 6 0) (6 : Int32) (3 : Int32) = _ from armOf_3 (m := 6) (by omega)), bn_e (armOf_3 (t := pt_ t 0 6 0) (m := r) (by omega)), pt_oo (by decide), pt_oo (by decide), p5, p6]
    exact QN.good (t' := pt_ t 0 6 0) rfl rfl pt_a MI.t6
  · rw [bn_e (reqRule_f hB.1.2.2.1 hB.1.2.1 hx), tb_r, bn_e (noRule_f hB.1.2.2.2 hB.1.1 hB.1.2.1 hx), if_neg (show ¬ (1 : Int32) = 0 by decide)]
    exact QN.bad 0 (y := 0) rfl rfl (by decide)
theorem swapAt_e {r o : Nat} : fX8_swapAt (nI r) (nI o) = some (nI (12548 + 6 * r + o)) := by
  unfold fX8_swapAt
  show some (nI 12548 + nI 6 * nI r + nI o) = _
  rw [pk_mul, nI_add, nI_add]
theorem isRule_tt (hR : t 1 4 = nI R) {r : Nat} (hr : r < R) (h6 : R ≤ 6) {t' : st_} (e : t' 1 = t 1) : fX8_isRule t' (nI r) = some 1 := isRule_t (by rw [e]; exact hR) hr h6
theorem swapCost_p (h : HH s t C R n T) (i0 i1 : Int32) : QN g1i_ t (fX7_swapCost s i0 i1) (fX8_swapCost t i0 i1) := by
  have hB := h.1.rb
  have h6 := hB.1.2.1
  obtain ⟨-, -, ⟨-, hX⟩⟩ := h
  unfold fX7_swapCost fX8_swapCost fX8_swapCost_j29
  rcases ruleC (R := R) i0 h6 with ⟨r, hr, rfl⟩ | hx
  · rw [bn_e (reqRule_t hB.1.2.2.1 hr h6), tb_l, bn_e (noRule_t hB.1.2.2.2 hr h6), if_pos rfl]
    rcases ruleC (R := R) i1 h6 with ⟨o, ho, rfl⟩ | hx
    · rw [bn_e (reqRule_t hB.1.2.2.1 ho h6), tb_l, bn_e (isRule_t (t := pt_ t 0 6 0) (by rw [pt_oo (by decide)]; exact hB.1.2.2.2) ho h6), if_neg (show ¬ (1 : Int32) = 0 by decide)]
      unfold fX8_swapCost_j22
      rw [bn_e (thr_0 pt_a), if_pos rfl, bn_e swapAt_e, gd_t (ib_n (N := 6) (by omega) (by omega)), gd_t (ib_n (N := 6) (by omega) (by omega)), gd_t (ib_n (by omega) (by omega)), ix_n (by omega), ix_n (by omega), ix_n (by omega)]
      have ev : s (42 + (r + 14)) o = t 1 (12548 + 6 * r + o) := hX r o hr ho
      have e56 : 42 + (r + 14) = 1 * r + 56 := by omega
      rw [e56] at ev
      dsimp only
      rw [ev, pt_oo (by decide)]
      exact QN.good rfl rfl pt_a MI.t6
    · rw [bn_e (reqRule_f hB.1.2.2.1 h6 hx), tb_r, bn_e (isRule_f (t := pt_ t 0 6 0) (by rw [pt_oo (by decide)]; exact hB.1.2.2.2) hB.1.1 h6 hx), if_pos rfl]
      unfold fX8_swapCost_j22 fX8_swapCost_j29
      rw [bn_e (thr_1 pt_a (by decide)), if_neg (show ¬ (1 : Int32) = 0 by decide)]
      dsimp only
      rw [pt_pt]
      exact QN.bad 0 (y := 0) rfl rfl (by decide)
  · rw [bn_e (reqRule_f hB.1.2.2.1 h6 hx), tb_r, bn_e (noRule_f hB.1.2.2.2 hB.1.1 h6 hx), if_neg (show ¬ (1 : Int32) = 0 by decide)]
    exact QN.bad 0 (y := 0) rfl rfl (by decide)
theorem served_p (h : HH s t C R n T) (i0 i1 : Int32) : QN g1_ t (fX7_served s i0 i1) (fX8_served t i0 i1) := by
  obtain ⟨-, -, ⟨⟨⟨-, -, -, hT⟩, ⟨S, h9, hS, h20, hr⟩, -⟩, -⟩⟩ := h
  have h9' : sb_ s 42 0 9 = nI S := h9
  unfold fX7_served fX8_served fX8_served_j17 fX8_served_j22 fX4_servedAt
  by_cases h0 : i0 < 0
  · rw [if_neg (Int32.not_le.mpr h0), if_pos h0, bn_e wrong_1, if_neg (show ¬ (1 : Int32) = 0 by decide)]
    exact QN.bad 1 (y := 0) rfl rfl (by decide)
  · obtain ⟨k, hk, rfl⟩ := nI_of h0
    rw [if_pos (Int32.not_lt.mp h0), if_neg h0, if_neg h0]
    by_cases hx : 0 ≤ i1 ∧ i1 ≤ 4
    · obtain ⟨j, _, hj4, rfl⟩ := ((rg_iff (lo := 0) (hi := 4) (by omega) (by omega)).mpr hx).ex
      rw [bn_e (within_t (lo := 0) (hi := 4) hx), tb_l, bn_e (show fX8_in (Int32.toInt64 (nI j)) (0 : Int64) (4 : Int64) = some 1 from in_t (lo := 0) (hi := 4) hx), if_neg (show ¬ (1 : Int32) = 0 by decide), bn_e wrong_0, if_pos rfl, gd_t b20_, i20_, h9']
      have u20 : (pt_ t 0 6 0) 1 20 = nI (if S < 20 then S else 20) := (pt_oo (by decide)).trans h20
      by_cases hkS : k < S
      · rw [if_neg (nI_ge hkS (by omega))]
        by_cases hk20 : k < 20
        · have m20 := Nat.mod_lt (S - 1 - k) (show 0 < 20 by omega)
          have hmin : k < (if S < 20 then S else 20) := by split <;> omega
          have hmin2 : (if S < 20 then S else 20) ≤ 20 := by split <;> omega
          have er : nI S - (1 : Int32) - nI k - (nI S - (1 : Int32) - nI k) / (20 : Int32) * (20 : Int32) = nI ((S - 1 - k) % 20) := by
            rw [show nI S - (1 : Int32) = nI (S - 1) from pk_sub (b := 1) (by omega), pk_sub (by omega)]
            exact pk_rem (d := 20) (by omega) (by omega) (by omega)
          have ei : (448 : Int32) + (5 : Int32) * nI k + nI j = nI (448 + 5 * k + j) := by
            show nI 448 + nI 5 * nI k + nI j = _
            rw [pk_mul, nI_add, nI_add]
          have ev := hr k hk20 hkS j (by omega)
          rw [if_neg (show ¬ (20 : Int32) ≤ nI k from nI_ge (b := 20) hk20 (by omega)), if_neg (nI_pos (by omega)), if_pos (show nI j < (5 : Int32) from nI_lt (b := 5) (by omega) (by omega)), er, gd_t (ib_n (N := 20) m20 (by omega)), gd_t (ib_n (N := 5) (by omega) (by omega)), ix_n (by omega), ix_n (by omega), if_neg (show ¬ (pt_ t 0 6 0) 1 20 ≤ nI k by rw [u20]; exact nI_ge hmin (by omega)), ei, gd_t (ib_n (by omega) (by omega)), ix_n (by omega), Nat.one_mul, ev]
          dsimp only
          rw [pt_oo (by decide)]
          exact QN.good rfl rfl pt_a MI.t6
        · have hmin : (if S < 20 then S else 20) ≤ k := by split <;> omega
          rw [if_pos (show (20 : Int32) ≤ nI k from nI_le (a := 20) (by omega) (by omega)), if_pos (show (pt_ t 0 6 0) 1 20 ≤ nI k by rw [u20]; exact nI_le hmin (by omega))]
          exact QN.good (t' := pt_ t 0 6 0) rfl rfl pt_a MI.t6
      · have hmin : (if S < 20 then S else 20) ≤ k := by split <;> omega
        rw [if_pos (nI_le (by omega) (by omega)), if_pos (show (pt_ t 0 6 0) 1 20 ≤ nI k by rw [u20]; exact nI_le hmin (by omega))]
        exact QN.good (t' := pt_ t 0 6 0) rfl rfl pt_a MI.t6
    · rw [bn_e (within_f (lo := 0) (hi := 4) hx), tb_r, bn_e (show fX8_in (Int32.toInt64 i1) (0 : Int64) (4 : Int64) = some 0 from in_f (lo := 0) (hi := 4) hx), if_pos rfl, bn_e wrong_1, if_neg (show ¬ (1 : Int32) = 0 by decide)]
      exact QN.bad 1 (y := 0) rfl rfl (by decide)
theorem regret_p (h : HH s t C R n T) (i0 : Int32) : QN g1_ t (fX7_regret s i0) (fX8_regret t i0) := by
  have hB := h.1.rb
  have hmk := h.1.mk
  obtain ⟨e3, e4⟩ := regretNow_p (t := pt_ t 0 6 0) h.t6.1.2.2 hB.1.2.2.1 hB.1.2.2.2 hB.1.1 hB.1.2.1
  generalize sb_ s 9 5 5 - sb_ s 9 (3 * bst (fun r => sb_ s 9 (3 * r + 15) 5) (R - 1) + 15) 5 = v at e3 e4
  obtain ⟨⟨⟨-, a1, a2, k1, k2, k3, k4, eta, etar, foe, foer, ak, akr, asks, base, root, -⟩, -⟩, -, ⟨⟨⟨-, -, h16, hT⟩, -, -, -, -, ⟨j1, j2, j3, j4, j5⟩⟩, -⟩⟩ := h
  have hbase : s 10 17 = t 1 11 := base
  unfold fX7_regret fX8_regret fX8_regret_j18
  by_cases hx : 0 ≤ i0 ∧ i0 ≤ 4
  · rw [bn_e (show fX8_in (Int32.toInt64 i0) (0 : Int64) (4 : Int64) = some 1 from in_t (lo := 0) (hi := 4) hx), if_neg (show ¬ (1 : Int32) = 0 by decide), bn_e wrong_0, if_pos rfl]
    dsimp only
    obtain ⟨k, _, hk4, rfl⟩ := ((rg_iff (lo := 0) (hi := 4) (by omega) (by omega)).mpr hx).ex
    rcases (show k = 0 ∨ k = 1 ∨ k = 2 ∨ k = 3 ∨ k = 4 by omega) with rfl | rfl | rfl | rfl | rfl
    · refine QN.good (v := v) ?_ ?_ pt_a MI.t6
      · rw [if_pos (show nI 0 = (0 : Int32) from rfl), bn_e e3]
      · rw [if_pos (show nI 0 = (0 : Int32) from rfl), bn_e e4]
    · have e9 : s 9 9 = nI T := hmk.trans h16
      obtain ⟨x, b1, b2⟩ := bound_p (S := sb_ s 10) (t := pt_ t 0 6 0) (V := T) base root (by omega)
      by_cases hb : t 1 11 = -1
      · refine QN.good (v := -2000000000) ?_ ?_ pt_a MI.t6
        · rw [if_neg (by decide), if_pos (show nI 1 = (1 : Int32) from rfl)]
          unfold fX5_boundBehind
          rw [if_pos (show sb_ s 10 0 17 = -1 from hbase.trans hb), bn_s]
        · rw [if_neg (by decide), if_pos (show nI 1 = (1 : Int32) from rfl), gd_t b11_, i11_, if_pos (show (pt_ t 0 6 0) 1 11 = -1 from (pt_oo (by decide)).trans hb)]
      · refine QN.good (v := x) ?_ ?_ pt_a MI.t6
        · rw [if_neg (by decide), if_pos (show nI 1 = (1 : Int32) from rfl), e9, bn_e (b2 hb)]
        · rw [if_neg (by decide), if_pos (show nI 1 = (1 : Int32) from rfl), gd_t b11_, i11_, if_neg (show ¬ (pt_ t 0 6 0) 1 11 = -1 from fun z => hb ((pt_oo (by decide)).symm.trans z)), gd_t b16_, i16_, pt_oo (by decide), h16, bn_e b1]
    · have ev : s 42 10 = t 1 17 := j2
      refine QN.good (v := t 1 17) ?_ ?_ pt_a MI.t6
      · rw [if_neg (by decide), if_neg (by decide), if_pos (show nI 2 = (2 : Int32) from rfl), ev]
      · rw [if_neg (by decide), if_neg (by decide), if_pos (show nI 2 = (2 : Int32) from rfl), gd_t b17_, i17_, pt_oo (by decide)]
    · have ev : s 42 11 = t 1 18 := j3
      refine QN.good (v := t 1 18) ?_ ?_ pt_a MI.t6
      · rw [if_neg (by decide), if_neg (by decide), if_neg (by decide), if_pos (show nI 3 = (3 : Int32) from rfl), ev]
      · rw [if_neg (by decide), if_neg (by decide), if_neg (by decide), if_pos (show nI 3 = (3 : Int32) from rfl), gd_t b18_, i18_, pt_oo (by decide)]
    · have ev : s 42 12 = t 1 19 := j4
      refine QN.good (v := t 1 19) ?_ ?_ pt_a MI.t6
      · rw [if_neg (by decide), if_neg (by decide), if_neg (by decide), if_neg (by decide), if_pos (show nI 4 = (4 : Int32) from rfl), ev]
      · rw [if_neg (by decide), if_neg (by decide), if_neg (by decide), if_neg (by decide), gd_t b19_, i19_, pt_oo (by decide)]
  · rw [bn_e (show fX8_in (Int32.toInt64 i0) (0 : Int64) (4 : Int64) = some 0 from in_f (lo := 0) (hi := 4) hx), if_pos rfl, bn_e wrong_1, if_neg (show ¬ (1 : Int32) = 0 by decide)]
    refine QN.bad 1 (y := 0) ?_ rfl (by decide)
    rw [if_neg (fun e => hx (by rw [e]; decide)), if_neg (fun e => hx (by rw [e]; decide)), if_neg (fun e => hx (by rw [e]; decide)), if_neg (fun e => hx (by rw [e]; decide)), if_neg (fun e => hx (by rw [e]; decide))]
theorem rival_p (h : HH s t C R n T) (i0 : Int32) : QN g1_ t (fX7_rival s i0) (fX8_rival t i0) := by
  have hB := h.1.rb
  have h6 := hB.1.2.1
  have hrv := h.1.rv
  have hbest := best_p (t := pt_ t 0 6 0) h.t6.1.2.2 hB.1.2.2.2 hB.1.1 hB.1.2.1
  have hch := cheapest_e (d := sb_ s 9) hB.1.2.2.1 hB.1.1 hB.1.2.1
  have hbR : bst (fun r => sb_ s 9 (3 * r + 15) 5) (R - 1) < R := by
    have := bst_le (f := fun r => sb_ s 9 (3 * r + 15) 5) (R - 1)
    have := hB.1.1
    omega
  generalize bst (fun r => sb_ s 9 (3 * r + 15) 5) (R - 1) = b at hbest hch hbR
  obtain ⟨⟨-, ⟨v1, v2, v3, v4, v5, v6, v7, v8, v9, v10, v11⟩, A1, A2, A3, A4⟩, -, ⟨⟨-, -, -, -, -, ⟨j1, j2, j3, j4, j5⟩⟩, -⟩⟩ := h
  unfold fX7_rival fX8_rival fX8_rival_j18
  by_cases hx : 0 ≤ i0 ∧ i0 ≤ 5
  · rw [bn_e (within_t (lo := 0) (hi := 5) hx), tb_l, bn_e hasRival_e, bn_e (show fX8_in (Int32.toInt64 i0) (0 : Int64) (5 : Int64) = some 1 from in_t (lo := 0) (hi := 5) hx), if_neg (show ¬ (1 : Int32) = 0 by decide), bn_e wrong_0, if_pos rfl]
    dsimp only
    have e14 : sb_ s 10 0 14 = t 1 21 := hrv
    rw [e14, gd_t b21_, i21_]
    by_cases hv : t 1 21 = -1
    · rw [if_pos hv, if_pos (show (pt_ t 0 6 0) 1 21 = -1 from (pt_oo (by decide)).trans hv), if_pos rfl]
      exact QN.good rfl rfl pt_a MI.t6
    · obtain ⟨A, I⟩ := A4 hv
      obtain ⟨b0, b1, b2, b3, b4, b5, b6, -⟩ := A
      rw [if_neg hv, if_neg (show ¬ (pt_ t 0 6 0) 1 21 = -1 from fun z => hv ((pt_oo (by decide)).symm.trans z)), if_neg (show ¬ (1 : Int32) = 0 by decide)]
      obtain ⟨k, _, hk5, rfl⟩ := ((rg_iff (lo := 0) (hi := 5) (by omega) (by omega)).mpr hx).ex
      rcases (show k = 0 ∨ k = 1 ∨ k = 2 ∨ k = 3 ∨ k = 4 ∨ k = 5 by omega) with rfl | rfl | rfl | rfl | rfl | rfl
      · have ev : s 10 14 = t 1 21 := hrv
        refine QN.good (v := t 1 21) ?_ ?_ pt_a MI.t6
        · rw [if_pos (show nI 0 = (0 : Int32) from rfl), ev]
        · rw [if_pos (show nI 0 = (0 : Int32) from rfl), gd_t b21_, pt_oo (by decide)]
      · have ev : s 17 0 = t 1 (ab_ 7) := b0
        refine QN.good (v := t 1 (ab_ 7)) ?_ ?_ pt_a MI.t6
        · rw [if_neg (by decide), if_pos (show nI 1 = (1 : Int32) from rfl), ev]
        · rw [if_neg (by decide), if_pos (show nI 1 = (1 : Int32) from rfl), bn_e (show fX8_armOf (pt_ t 0 6 0) (7 : Int32) (0 : Int32) = _ from armOf_0 (m := 7) (by omega)), pt_oo (by decide)]
      · have ev : s 17 5 = t 1 (ab_ 7 + 3) := b3
        refine QN.good (v := t 1 (ab_ 7 + 3)) ?_ ?_ pt_a MI.t6
        · rw [if_neg (by decide), if_neg (by decide), if_pos (show nI 2 = (2 : Int32) from rfl), ev]
        · rw [if_neg (by decide), if_neg (by decide), if_pos (show nI 2 = (2 : Int32) from rfl), bn_e (show fX8_armOf (pt_ t 0 6 0) (7 : Int32) (3 : Int32) = _ from armOf_3 (m := 7) (by omega)), pt_oo (by decide)]
      · have ev : s 17 5 = t 1 (ab_ 7 + 3) := b3
        have e3 : 9 + (3 * b + 15) = 3 * b + 24 := by omega
        have p5 : s (3 * b + 24) 5 = t 1 (ab_ b + 3) := by
          have h0 : s (9 + (3 * b + 15)) 5 = t 1 (ab_ b + 3) := (A3 b hbR).1.2.2.2.1
          rw [e3] at h0
          exact h0
        refine QN.good (v := t 1 (ab_ 7 + 3) - t 1 (ab_ b + 3)) ?_ ?_ pt_a MI.t6
        · rw [if_neg (by decide), if_neg (by decide), if_neg (by decide), if_pos (show nI 3 = (3 : Int32) from rfl), bn_e hch, gd_t (ib_n (by omega) (by omega)), ix_n (by omega), ev, p5]
        · rw [if_neg (by decide), if_neg (by decide), if_neg (by decide), if_pos (show nI 3 = (3 : Int32) from rfl), bn_e (show fX8_armOf (pt_ t 0 6 0) (7 : Int32) (3 : Int32) = _ from armOf_3 (m := 7) (by omega)), bn_e hbest, bn_e (armOf_3 (m := b) (by omega)), pt_oo (by decide), pt_oo (by decide)]
      · have ev : s 42 13 = t 1 24 := j5
        refine QN.good (v := t 1 24) ?_ ?_ pt_a MI.t6
        · rw [if_neg (by decide), if_neg (by decide), if_neg (by decide), if_neg (by decide), if_pos (show nI 4 = (4 : Int32) from rfl), ev]
        · rw [if_neg (by decide), if_neg (by decide), if_neg (by decide), if_neg (by decide), if_pos (show nI 4 = (4 : Int32) from rfl), gd_t b24_, i24_, pt_oo (by decide)]
      · have ev : s 9 13 = t 1 25 := v10
        refine QN.good (v := t 1 25) ?_ ?_ pt_a MI.t6
        · rw [if_neg (by decide), if_neg (by decide), if_neg (by decide), if_neg (by decide), if_neg (by decide), ev]
        · rw [if_neg (by decide), if_neg (by decide), if_neg (by decide), if_neg (by decide), if_neg (by decide), gd_t b25_, i25_, pt_oo (by decide)]
  · rw [bn_e (within_f (lo := 0) (hi := 5) hx), tb_r, bn_e (show fX8_in (Int32.toInt64 i0) (0 : Int64) (5 : Int64) = some 0 from in_f (lo := 0) (hi := 5) hx), if_pos rfl, bn_e wrong_1, if_neg (show ¬ (1 : Int32) = 0 by decide)]
    exact QN.bad 1 (y := 0) rfl rfl (by decide)
theorem wouldServe_p (h : HH s t C R n T) (i0 i1 : Int32) : QN g1i_ t (fX7_wouldServe s i0 i1) (fX8_wouldServe t i0 i1) := by
  obtain ⟨hD, -, -⟩ := h
  have hB := hD.rb
  have h6 := hB.1.2.1
  unfold fX7_wouldServe fX8_wouldServe
  rcases armX (C := C) (R := R) i0 hB.1.1 h6 with ⟨o, m, hm, ho, et, hc, eo, hA, hq, hn⟩ | ⟨hq, hn⟩
  · obtain ⟨A, I⟩ := hA _ _ _ hD.2.2
    rw [bn_e (hq s hB.1.2.2.1), tb_l, bn_e (hn t hB.1.2.2.2), if_pos rfl]
    rcases ruleC (R := R) i1 h6 with ⟨r, hr, rfl⟩ | hx
    · rw [bn_e (reqRule_t hB.1.2.2.1 hr h6), tb_l, bn_e (isRule_t (t := pt_ t 0 6 0) (by rw [pt_oo (by decide)]; exact hB.1.2.2.2) hr h6), if_neg (show ¬ (1 : Int32) = 0 by decide), bn_e (eo (sb_ s 9) hB.1.2.2.1), bn_e (kindOf_t (S := sb_ s 10) hB.1.2.2.1 hr h6), bn_e (widthOf_t (S := sb_ s 10) hB.1.2.2.1 hr h6)]
      unfold fX8_wouldServe_j22
      rw [bn_e (thr_0 pt_a), if_pos rfl, bn_e et]
      dsimp only
      obtain ⟨hC2, hC, hS0, hw0, hR1, hR6, hS4, hw4, hS2, hS3, hw2, hw3, hk⟩ := hD.1.1
      obtain ⟨hkd, hwd, hkr⟩ := hk r hr
      obtain ⟨kind, _, hk4, hke⟩ := hkr.ex
      obtain ⟨c0, c1, c2, c3, c4, c5⟩ := A.ac I hC hC2
      have u1 : (pt_ t 0 6 0) 1 = t 1 := pt_o (by decide)
      obtain ⟨x, ex, hx⟩ := choose_w (s := sb_ s (9 + o)) (kind := kind) (wd := sb_ s 10 2 r) c0 c1 c2 c3 hk4 c5
      obtain ⟨z, ez, tu, e1, hz⟩ := picks_w (t := pt_ t 0 6 0) (m := m) (r := r) (kind := kind) (wd := t 1 (26 + 5 * r + 1)) (u := t 1 (ab_ m + 1)) (by rw [u1]; exact I.aw hC hC2) (by omega) (by rw [u1]; exact hke) hk4 (by rw [u1]) (by rw [u1]) I.2.2.1
      have ekd : sb_ s 10 1 r = nI kind := hkd.trans hke
      have ewd : sb_ s 10 2 r = t 1 (26 + 5 * r + 1) := hwd
      rw [ekd, bn_e ex, bn_e ez]
      obtain ⟨z1, z2⟩ := z
      dsimp only at e1 hz
      subst e1
      dsimp only
      obtain ⟨b0, b1, b2, b3, b4, b5, b6, bj⟩ := A
      have hka : ∀ j, j < n → rk_ kind (sb_ s 10 2 r) (sb_ s (9 + o) 0 1) (ix_ (t 1 (ab_ m))) (ix_ (sb_ s (9 + o) 1 j)) = rk_ kind (t 1 (26 + 5 * r + 1)) (t 1 (ab_ m + 1)) (ix_ (t 1 (ab_ m))) (ix_ (t 1 (ab_ m + 7 + 2 * j))) := fun j hj => by
        have q1 : sb_ s (9 + o) 0 1 = t 1 (ab_ m + 1) := b1
        have q2 : sb_ s (9 + o) 1 j = t 1 (ab_ m + 7 + 2 * j) := (bj j hj).1
        rw [ewd, q1, q2]
      have hM : MI t (pt_ (pt_ t 0 6 0) 0 15 tu) := MI.t6.tr (MI.mo mo_p15 (fun _ _ => pt_oo (by decide)))
      have h60 : (pt_ (pt_ t 0 6 0) 0 15 tu) 0 6 = 0 := by rw [pt_r (by decide), pt_a]
      have hmn := hm
      rcases hx with ⟨h0, ex0⟩ | ⟨k, exk, hf⟩
      · rcases hz with ⟨_, ez0, _⟩ | ⟨k', _, hf', _⟩
        · rw [ez0, ex0, if_pos rfl, if_pos rfl]
          exact QN.good rfl rfl h60 hM
        · exact absurd hf'.1 (by omega)
      · rcases hz with ⟨h0, _⟩ | ⟨k', ezk, hf', _⟩
        · exact absurd hf.1 (by omega)
        · have ek : k' = k := fm_u (fm_e2 hf' hka) hf
          subst ek
          have hkn := hf.1
          have q2 : s (9 + o + 1) k' = t 1 (ab_ m + 7 + 2 * k') := (bj k' hkn).1
          rw [ezk, exk, if_neg (nI_ne1 (by omega)), if_neg (nI_ne1 (by omega)), gd_t (ib_n (by omega) (by omega)), ix_n (by omega), q2, bn_e et, bn_e (cylOf_e hm (by omega)), pt_oo (by decide), pt_oo (by decide)]
          exact QN.good rfl rfl h60 hM
    · rw [bn_e (reqRule_f hB.1.2.2.1 h6 hx), tb_r, bn_e (isRule_f (t := pt_ t 0 6 0) (by rw [pt_oo (by decide)]; exact hB.1.2.2.2) hB.1.1 h6 hx), if_pos rfl]
      unfold fX8_wouldServe_j22
      rw [bn_e (thr_1 pt_a (by decide)), if_neg (show ¬ (1 : Int32) = 0 by decide)]
      dsimp only
      rw [pt_pt]
      exact QN.bad 0 (y := 0) rfl rfl (by decide)
  · rw [bn_e (hq s hB.1.2.2.1), tb_r, bn_e (hn t hB.1.2.2.2), if_neg (show ¬ (1 : Int32) = 0 by decide)]
    exact QN.bad 0 (y := 0) rfl rfl (by decide)
end ASKS
