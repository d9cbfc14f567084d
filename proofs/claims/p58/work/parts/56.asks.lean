/-! calls that ask and change nothing: settings, rules, asks, arms -/
def HH (s t : st_) (C R n T : Nat) : Prop := DD (sb_ s 9) (t 1) C R n ∧ UPS (sb_ s 9) ∧ RR (sb_ s 42) (t 1) R T
theorem QN.bad {g : Nat → Int32} {t : st_} {A : Option (Int32 ⊕ Nat)} {B : Option (st_ × Int32)} {y : Int32} (c : Nat) (hA : A = some (.inr c)) (hB : B = some (pt_ t 0 6 (g c), y)) (hc : g c ≠ 0) : QN g t A B := ⟨.inr c, _, y, hA, hB, ⟨pt_a, hc⟩, MI.t6⟩
theorem QN.good {g : Nat → Int32} {t t' : st_} {A : Option (Int32 ⊕ Nat)} {B : Option (st_ × Int32)} {v : Int32} (hA : A = some (.inl v)) (hB : B = some (t', v)) (h6 : t' 0 6 = 0) (hM : MI t t') : QN g t A B := ⟨.inl v, t', v, hA, hB, ⟨h6, rfl⟩, hM⟩
theorem idxC (x : Int32) (n : Nat) (hn : n < 2147483648) : (∃ k, k < n ∧ x = nI k) ∨ ¬ (0 ≤ x ∧ x < nI n) := by
  by_cases h : 0 ≤ x ∧ x < nI n
  · obtain ⟨j, hj, rfl⟩ := nI_of (Int32.not_lt.mpr h.1)
    exact Or.inl ⟨j, (nI_ltI hj (by omega)).mp h.2, rfl⟩
  · exact Or.inr h
theorem inIdx_t {k n : Nat} (h : k < n) (hn : n < 1073741824) : fX8_in (Int32.toInt64 (nI k)) (0 : Int64) (Int32.toInt64 (nI n - (1 : Int32))) = some 1 := by
  rw [show nI n - (1 : Int32) = nI (n - 1) from pk_sub (b := 1) (by omega)]
  exact in_t (lo := 0) ⟨nI_pos' (by omega), nI_le (by omega) (by omega)⟩
theorem inIdx_f {x : Int32} {n : Nat} (h : ¬ (0 ≤ x ∧ x < nI n)) (hn : n < 1073741824) : fX8_in (Int32.toInt64 x) (0 : Int64) (Int32.toInt64 (nI n - (1 : Int32))) = some 0 := by
  refine in_f (lo := 0) (fun z => h ⟨z.1, ?_⟩)
  have h1 := Int32.le_iff_toInt_le.mp z.2
  have h2 : (nI n - (1 : Int32)).toInt = (n : Int) - 1 := pk_sub_toInt (b := 1) (by omega) (by omega)
  rw [Int32.lt_iff_toInt_lt, nI_toInt (by omega)]
  omega
section ASKS
variable {s t : st_} {C R n T : Nat}
theorem HH.t6 (h : HH s t C R n T) {v : Int32} : HH s (pt_ t 0 6 v) C R n T := by
  unfold HH at h ⊢
  rw [pt_o (by decide)]
  exact h

theorem setting_p (h : HH s t C R n T) (i0 : Int32) : QN g1_ t (fX7_setting s i0) (fX8_setting t i0) := by
  obtain ⟨⟨⟨⟨hC2, hC, hS0, hw0, hR1, hR6, hS4, hw4, hS2, hS3, hw2, hw3, hk⟩, a1, a2, k1, k2, k3, k4, eta, etar, foe, foer, ak, akr, asks, base, root, bud, rv, rvr, rvk⟩, ⟨v1, v2, v3, v4, v5, v6, v7, v8, v9, v10, v11⟩, -⟩, -⟩ := h
  unfold fX7_setting fX8_setting fX8_setting_j18 fX8_setting_j46
  by_cases hx : 0 ≤ i0 ∧ i0 ≤ 14
  · have hmod : ∀ k, k ≠ 6 → i0 = nI k → k < 15 → (bn_ (fX8_in (Int32.toInt64 i0) (0 : Int64) (14 : Int64)) fun r1 => if r1 = (0 : Int32) then (fX8_setting_j18 t i0 (1 : Int32)) else (fX8_setting_j18 t i0 (0 : Int32))) = some (pt_ t 0 6 0, t 1 k) := fun k h6 e hk => by
      unfold fX8_setting_j18 fX8_setting_j46
      have n6 : ¬ i0 = (6 : Int32) := fun z => h6 ((nI_eq (b := 6) (by omega) (by omega)).mp (e.symm.trans z))
      rw [bn_e (show fX8_in (Int32.toInt64 i0) (0 : Int64) (14 : Int64) = some 1 from in_t (lo := 0) (hi := 14) hx), if_neg (by decide), bn_e wrong_0, if_pos rfl, if_neg n6, e, gd_t (ib_n (by omega) (by omega)), ix_n (by omega)]
      show some (pt_ t 0 6 0, pt_ t 0 6 0 1 k) = _
      rw [pt_oo (by decide)]
    unfold fX8_setting_j18 fX8_setting_j46 at hmod
    obtain ⟨k, _, hk14, e⟩ := ((rg_iff (lo := 0) (hi := 14) (by omega) (by omega)).mpr hx).ex
    rcases (show k = 0 ∨ k = 1 ∨ k = 2 ∨ k = 3 ∨ k = 4 ∨ k = 5 ∨ k = 6 ∨ k = 7 ∨ k = 8 ∨ k = 9 ∨ k = 10 ∨ k = 11 ∨ k = 12 ∨ k = 13 ∨ k = 14 by omega) with rfl | rfl | rfl | rfl | rfl | rfl | rfl | rfl | rfl | rfl | rfl | rfl | rfl | rfl | rfl
    · have ev : s 10 0 = t 1 0 := hS0.trans hw0.symm
      refine QN.good (v := t 1 0) ?_ (hmod 0 (by decide) e (by omega)) pt_a MI.t6
      rw [e, if_pos (show nI 0 = (0 : Int32) from rfl), ev]
    · have ev : s 10 1 = t 1 1 := a1
      refine QN.good (v := t 1 1) ?_ (hmod 1 (by decide) e (by omega)) pt_a MI.t6
      rw [e, if_neg (by decide), if_pos (show nI 1 = (1 : Int32) from rfl), ev]
    · have ev : s 10 2 = t 1 2 := hS2
      refine QN.good (v := t 1 2) ?_ (hmod 2 (by decide) e (by omega)) pt_a MI.t6
      rw [e, if_neg (by decide), if_neg (by decide), if_pos (show nI 2 = (2 : Int32) from rfl), ev]
    · have ev : s 10 3 = t 1 3 := hS3
      refine QN.good (v := t 1 3) ?_ (hmod 3 (by decide) e (by omega)) pt_a MI.t6
      rw [e, if_neg (by decide), if_neg (by decide), if_neg (by decide), if_pos (show nI 3 = (3 : Int32) from rfl), ev]
    · have ev : s 10 4 = t 1 4 := hS4.trans hw4.symm
      refine QN.good (v := t 1 4) ?_ (hmod 4 (by decide) e (by omega)) pt_a MI.t6
      rw [e, if_neg (by decide), if_neg (by decide), if_neg (by decide), if_neg (by decide), if_pos (show nI 4 = (4 : Int32) from rfl), ev]
    · have ev : s 10 7 = t 1 5 := k1
      refine QN.good (v := t 1 5) ?_ (hmod 5 (by decide) e (by omega)) pt_a MI.t6
      rw [e, if_neg (by decide), if_neg (by decide), if_neg (by decide), if_neg (by decide), if_neg (by decide), if_pos (show nI 5 = (5 : Int32) from rfl), ev]
    · by_cases h5 : t 1 5 = 2
      · have ev : s 10 8 = t 1 6 := (k3 h5).1
        refine QN.good (v := t 1 6) ?_ ?_ pt_a MI.t6
        · rw [e, if_neg (by decide), if_neg (by decide), if_neg (by decide), if_neg (by decide), if_neg (by decide), if_neg (by decide), if_pos (show nI 6 = (6 : Int32) from rfl), ev]
        · rw [bn_e (show fX8_in (Int32.toInt64 i0) (0 : Int64) (14 : Int64) = some 1 from in_t (lo := 0) (hi := 14) hx), if_neg (by decide), bn_e wrong_0, if_pos rfl, e, if_pos (show nI 6 = (6 : Int32) from rfl), gd_t b5_, i5_]
          dsimp only
          rw [if_pos (show pt_ t 0 6 0 1 5 = 2 from (pt_oo (by decide)).trans h5), gd_t (ib_n (by omega) (by omega)), ix_n (by omega), pt_oo (by decide)]
      · have ev : s 10 8 = -1 := k4 h5
        refine QN.good (v := -1) ?_ ?_ pt_a MI.t6
        · rw [e, if_neg (by decide), if_neg (by decide), if_neg (by decide), if_neg (by decide), if_neg (by decide), if_neg (by decide), if_pos (show nI 6 = (6 : Int32) from rfl), ev]
        · rw [bn_e (show fX8_in (Int32.toInt64 i0) (0 : Int64) (14 : Int64) = some 1 from in_t (lo := 0) (hi := 14) hx), if_neg (by decide), bn_e wrong_0, if_pos rfl, e, if_pos (show nI 6 = (6 : Int32) from rfl), gd_t b5_, i5_]
          dsimp only
          rw [if_neg (show ¬ pt_ t 0 6 0 1 5 = 2 from fun z => h5 ((pt_oo (by decide)).symm.trans z))]
    · have ev : s 10 9 = t 1 7 := eta
      refine QN.good (v := t 1 7) ?_ (hmod 7 (by decide) e (by omega)) pt_a MI.t6
      rw [e, if_neg (by decide), if_neg (by decide), if_neg (by decide), if_neg (by decide), if_neg (by decide), if_neg (by decide), if_neg (by decide), if_pos (show nI 7 = (7 : Int32) from rfl), ev]
    · have ev : s 9 7 = t 1 8 := v1
      refine QN.good (v := t 1 8) ?_ (hmod 8 (by decide) e (by omega)) pt_a MI.t6
      rw [e, if_neg (by decide), if_neg (by decide), if_neg (by decide), if_neg (by decide), if_neg (by decide), if_neg (by decide), if_neg (by decide), if_neg (by decide), if_pos (show nI 8 = (8 : Int32) from rfl), ev]
    · have ev : s 10 11 = t 1 9 := foe
      refine QN.good (v := t 1 9) ?_ (hmod 9 (by decide) e (by omega)) pt_a MI.t6
      rw [e, if_neg (by decide), if_neg (by decide), if_neg (by decide), if_neg (by decide), if_neg (by decide), if_neg (by decide), if_neg (by decide), if_neg (by decide), if_neg (by decide), if_pos (show nI 9 = (9 : Int32) from rfl), ev]
    · have ev : s 10 12 = t 1 10 := ak
      refine QN.good (v := t 1 10) ?_ (hmod 10 (by decide) e (by omega)) pt_a MI.t6
      rw [e, if_neg (by decide), if_neg (by decide), if_neg (by decide), if_neg (by decide), if_neg (by decide), if_neg (by decide), if_neg (by decide), if_neg (by decide), if_neg (by decide), if_neg (by decide), if_pos (show nI 10 = (10 : Int32) from rfl), ev]
    · have ev : s 10 17 = t 1 11 := base
      refine QN.good (v := t 1 11) ?_ (hmod 11 (by decide) e (by omega)) pt_a MI.t6
      rw [e, if_neg (by decide), if_neg (by decide), if_neg (by decide), if_neg (by decide), if_neg (by decide), if_neg (by decide), if_neg (by decide), if_neg (by decide), if_neg (by decide), if_neg (by decide), if_neg (by decide), if_pos (show nI 11 = (11 : Int32) from rfl), ev]
    · have ev : s 10 18 = t 1 12 := root
      refine QN.good (v := t 1 12) ?_ (hmod 12 (by decide) e (by omega)) pt_a MI.t6
      rw [e, if_neg (by decide), if_neg (by decide), if_neg (by decide), if_neg (by decide), if_neg (by decide), if_neg (by decide), if_neg (by decide), if_neg (by decide), if_neg (by decide), if_neg (by decide), if_neg (by decide), if_neg (by decide), if_pos (show nI 12 = (12 : Int32) from rfl), ev]
    · have ev : s 10 16 = t 1 13 := bud
      refine QN.good (v := t 1 13) ?_ (hmod 13 (by decide) e (by omega)) pt_a MI.t6
      rw [e, if_neg (by decide), if_neg (by decide), if_neg (by decide), if_neg (by decide), if_neg (by decide), if_neg (by decide), if_neg (by decide), if_neg (by decide), if_neg (by decide), if_neg (by decide), if_neg (by decide), if_neg (by decide), if_neg (by decide), if_pos (show nI 13 = (13 : Int32) from rfl), ev]
    · have ev : s 9 11 = t 1 14 := v9
      refine QN.good (v := t 1 14) ?_ (hmod 14 (by decide) e (by omega)) pt_a MI.t6
      rw [e, if_neg (by decide), if_neg (by decide), if_neg (by decide), if_neg (by decide), if_neg (by decide), if_neg (by decide), if_neg (by decide), if_neg (by decide), if_neg (by decide), if_neg (by decide), if_neg (by decide), if_neg (by decide), if_neg (by decide), if_neg (by decide), if_pos (show nI 14 = (14 : Int32) from rfl), ev]
  · refine QN.bad 1 (y := 0) ?_ ?_ (by decide)
    · rw [if_neg (fun e => hx (by rw [e]; decide)), if_neg (fun e => hx (by rw [e]; decide)), if_neg (fun e => hx (by rw [e]; decide)), if_neg (fun e => hx (by rw [e]; decide)), if_neg (fun e => hx (by rw [e]; decide)), if_neg (fun e => hx (by rw [e]; decide)), if_neg (fun e => hx (by rw [e]; decide)), if_neg (fun e => hx (by rw [e]; decide)), if_neg (fun e => hx (by rw [e]; decide)), if_neg (fun e => hx (by rw [e]; decide)), if_neg (fun e => hx (by rw [e]; decide)), if_neg (fun e => hx (by rw [e]; decide)), if_neg (fun e => hx (by rw [e]; decide)), if_neg (fun e => hx (by rw [e]; decide)), if_neg (fun e => hx (by rw [e]; decide))]
    · rw [bn_e (show fX8_in (Int32.toInt64 i0) (0 : Int64) (14 : Int64) = some 0 from in_f (lo := 0) (hi := 14) hx), if_pos rfl, bn_e wrong_1, if_neg (show ¬ (1 : Int32) = 0 by decide)]
      rfl
theorem rule_p (h : HH s t C R n T) (i0 i1 : Int32) : QN g2_ t (fX7_rule s i0 i1) (fX8_rule t i0 i1) := by
  obtain ⟨⟨⟨⟨hC2, hC, hS0, hw0, hR1, hR6, hS4, hw4, hS2, hS3, hw2, hw3, hk⟩, -⟩, ⟨v1, v2, v3, v4, v5, v6, v7, v8, v9, v10, v11⟩, hA⟩, -, ⟨⟨-, -, -, -, hRC, -⟩, -⟩⟩ := h
  unfold fX7_rule fX8_rule
  rcases ruleC (R := R) i0 hR6 with ⟨r, hr, rfl⟩ | hxr
  · rw [bn_e (reqRule_t hS4 hr hR6), tb_l, bn_e (noRule_t hw4 hr hR6), if_pos rfl]
    by_cases hx : 0 ≤ i1 ∧ i1 ≤ 5
    · obtain ⟨k, _, hk5, rfl⟩ := ((rg_iff (lo := 0) (hi := 5) (by omega) (by omega)).mpr hx).ex
      rw [bn_e (show fX8_in (Int32.toInt64 (nI k)) (0 : Int64) (5 : Int64) = some 1 from in_t (lo := 0) (hi := 5) hx), if_neg (show ¬ (1 : Int32) = 0 by decide)]
      unfold fX8_rule_j26 fX8_rule_j59
      rw [bn_e (thr_0 pt_a), if_pos rfl]
      dsimp only
      have hof : ∀ j, j < 5 → fX8_of (pt_ t 0 6 0) (nI r) (nI j) = some (t 1 (26 + 5 * r + j)) := fun j hj => by rw [of_e (by omega) hj, pt_oo (by decide)]
      have e3 : 9 + (3 * r + 15) = 3 * r + 24 := by omega
      have p5 : s (3 * r + 24) 5 = t 1 (ab_ r + 3) := by
        have h0 : s (9 + (3 * r + 15)) 5 = t 1 (ab_ r + 3) := (hA.2.2.1 r hr).1.2.2.2.1
        rw [e3] at h0
        exact h0
      rcases (show k = 0 ∨ k = 1 ∨ k = 2 ∨ k = 3 ∨ k = 4 ∨ k = 5 by omega) with rfl | rfl | rfl | rfl | rfl | rfl
      · have ev : sb_ s 10 1 r = t 1 (26 + 5 * r + 0) := (hk r hr).1
        refine QN.good (v := t 1 (26 + 5 * r + 0)) ?_ ?_ pt_a MI.t6
        · rw [if_pos (show nI 0 = (0 : Int32) from rfl), bn_e (kindOf_t (S := sb_ s 10) hS4 hr hR6), ev]
        · rw [if_neg (by decide), if_neg (by decide), bn_e (show fX8_of (pt_ t 0 6 0) (nI r) (nI 0) = _ from hof 0 (by omega))]
      · have ev : sb_ s 10 2 r = t 1 (26 + 5 * r + 1) := (hk r hr).2.1
        refine QN.good (v := t 1 (26 + 5 * r + 1)) ?_ ?_ pt_a MI.t6
        · rw [if_neg (by decide), if_pos (show nI 1 = (1 : Int32) from rfl), bn_e (widthOf_t (S := sb_ s 10) hS4 hr hR6), ev]
        · rw [if_neg (by decide), if_neg (by decide), bn_e (show fX8_of (pt_ t 0 6 0) (nI r) (nI 1) = _ from hof 1 (by omega))]
      · have ev : s 21 r = t 1 (26 + 5 * r + 2) := (v11 r hr).1
        refine QN.good (v := t 1 (26 + 5 * r + 2)) ?_ ?_ pt_a MI.t6
        · rw [if_neg (by decide), if_neg (by decide), if_pos (show nI 2 = (2 : Int32) from rfl), gd_t (ib_n (by omega) (by omega)), ix_n (by omega), ev]
        · rw [if_neg (by decide), if_neg (by decide), bn_e (show fX8_of (pt_ t 0 6 0) (nI r) (nI 2) = _ from hof 2 (by omega))]
      · have ev : s 52 r = t 1 (26 + 5 * r + 3) := (hRC r hr).1
        refine QN.good (v := t 1 (26 + 5 * r + 3)) ?_ ?_ pt_a MI.t6
        · rw [if_neg (by decide), if_neg (by decide), if_neg (by decide), if_pos (show nI 3 = (3 : Int32) from rfl), gd_t (ib_n (by omega) (by omega)), ix_n (by omega), ev]
        · rw [if_neg (by decide), if_neg (by decide), bn_e (show fX8_of (pt_ t 0 6 0) (nI r) (nI 3) = _ from hof 3 (by omega))]
      · refine QN.good (v := t 1 (ab_ r + 3)) ?_ ?_ pt_a MI.t6
        · rw [if_neg (by decide), if_neg (by decide), if_neg (by decide), if_neg (by decide), if_pos (show nI 4 = (4 : Int32) from rfl), gd_t (ib_n (by omega) (by omega)), ix_n (by omega), p5]
        · rw [if_pos (show nI 4 = (4 : Int32) from rfl), bn_e (armOf_3 (by omega)), pt_oo (by decide)]
      · have ev : s 53 r = t 1 (26 + 5 * r + 4) := (hRC r hr).2.1
        refine QN.good (v := t 1 (26 + 5 * r + 4)) ?_ ?_ pt_a MI.t6
        · rw [if_neg (by decide), if_neg (by decide), if_neg (by decide), if_neg (by decide), if_neg (by decide), if_pos (show nI 5 = (5 : Int32) from rfl), gd_t (ib_n (by omega) (by omega)), ix_n (by omega), ev]
        · rw [if_neg (by decide), if_pos (show nI 5 = (5 : Int32) from rfl), bn_e (show fX8_of (pt_ t 0 6 0) (nI r) (4 : Int32) = _ from hof 4 (by omega))]
    · rw [bn_e (show fX8_in (Int32.toInt64 i1) (0 : Int64) (5 : Int64) = some 0 from in_f (lo := 0) (hi := 5) hx), if_pos rfl]
      unfold fX8_rule_j26
      rw [bn_e (thr_1 pt_a (by decide)), if_neg (show ¬ (1 : Int32) = 0 by decide)]
      dsimp only
      rw [pt_pt]
      refine QN.bad 1 (y := 0) ?_ rfl (by decide)
      rw [if_neg (fun e => hx (by rw [e]; decide)), if_neg (fun e => hx (by rw [e]; decide)), if_neg (fun e => hx (by rw [e]; decide)), if_neg (fun e => hx (by rw [e]; decide)), if_neg (fun e => hx (by rw [e]; decide)), if_neg (fun e => hx (by rw [e]; decide))]
  · rw [bn_e (reqRule_f hS4 hR6 hxr), tb_r, bn_e (noRule_f hw4 hR1 hR6 hxr), if_neg (show ¬ (1 : Int32) = 0 by decide)]
    exact QN.bad 0 (y := 0) rfl rfl (by decide)
theorem ask_p (h : HH s t C R n T) (i0 : Int32) : QV t (fX7_ask s i0) (fX8_ask t i0) := by
  obtain ⟨⟨⟨-, a1, a2, k1, k2, k3, k4, eta, etar, foe, foer, ak, akr, asks, base, root, bud, rv, rvr, rvk⟩, -⟩, -⟩ := h
  obtain ⟨K, _, hK, eK⟩ := akr.ex
  have ak' : s 10 12 = nI K := ak.trans eK
  have ek10 : ix_ (t 1 10) = K := by rw [eK]; exact ix_n (by omega)
  unfold fX7_ask fX8_ask fX5_askAt fX5_askAt_j21
  have e12 : sb_ s 10 0 12 = nI K := ak'
  rw [e12, bd_e, gd_t b10_, i10_, pt_oo (by decide), eK]
  rcases idxC i0 K (by omega) with ⟨k, hk, rfl⟩ | hx
  · rw [bn_e (inIdx_t hk (by omega)), if_neg (nI_pos (by omega)), if_neg (nI_ge hk (by omega)), gd_t (ib_n (by omega) (by omega)), ix_n (by omega), bn_s, if_neg (show ¬ (1 : Int32) = 0 by decide)]
    have ev : sb_ s 10 3 k = t 1 (56 + k) := (asks k (by omega)).1
    have e5 : (56 : Int32) + nI k = nI (56 + k) := nI_add 56 k
    rw [ev, e5, gd_t (ib_n (by omega) (by omega)), ix_n (by omega), pt_oo (by decide)]
    exact ⟨_, _, rfl, rfl, MI.t6⟩
  · rw [bn_e (inIdx_f hx (by omega)), if_pos rfl]
    refine ⟨-1, _, ?_, rfl, MI.t6⟩
    by_cases h0 : i0 < 0
    · rw [if_pos h0, bn_s]
    · rw [if_neg h0, if_pos (Int32.not_lt.mp (fun z => hx ⟨Int32.not_lt.mp h0, z⟩)), bn_s]
theorem arm_p (h : HH s t C R n T) (i0 i1 : Int32) : QN g2_ t (fX7_arm s i0 i1) (fX8_arm t i0 i1) := by
  obtain ⟨hD, -, -⟩ := h
  have hB := hD.rb
  unfold fX7_arm fX8_arm fX8_arm_j33
  rcases armX (C := C) (R := R) i0 hB.1.1 hB.1.2.1 with ⟨o, m, hm, ho, et, hc, eo, hA, hq, hn⟩ | ⟨hq, hn⟩
  · obtain ⟨A, I⟩ := hA _ _ _ hD.2.2
    rw [bn_e (hq s hB.1.2.2.1), tb_l, bn_e (hn t hB.1.2.2.2), if_pos rfl, bn_e (eo (sb_ s 9) hB.1.2.2.1)]
    by_cases hx : 0 ≤ i1 ∧ i1 ≤ 6
    · obtain ⟨k, _, hk6, rfl⟩ := ((rg_iff (lo := 0) (hi := 6) (by omega) (by omega)).mpr hx).ex
      rw [bn_e (show fX8_in (Int32.toInt64 (nI k)) (0 : Int64) (6 : Int64) = some 1 from in_t (lo := 0) (hi := 6) hx), if_neg (show ¬ (1 : Int32) = 0 by decide)]
      unfold fX8_arm_j26
      rw [bn_e (thr_0 pt_a), if_pos rfl, bn_e et]
      dsimp only
      rw [bn_e (armOf_e hm (show k < 47 by omega)), pt_oo (by decide)]
      obtain ⟨b0, b1, b2, b3, b4, b5, b6, -⟩ := A
      refine QN.good (v := t 1 (ab_ m + k)) ?_ rfl pt_a MI.t6
      rcases (show k = 0 ∨ k = 1 ∨ k = 2 ∨ k = 3 ∨ k = 4 ∨ k = 5 ∨ k = 6 by omega) with rfl | rfl | rfl | rfl | rfl | rfl | rfl
      · have ev : s (9 + o) 0 = t 1 (ab_ m + 0) := b0
        rw [if_pos (show nI 0 = (0 : Int32) from rfl), ev]
      · have ev : s (9 + o) 1 = t 1 (ab_ m + 1) := b1
        rw [if_neg (by decide), if_pos (show nI 1 = (1 : Int32) from rfl), ev]
        rcases I.2.2.1 with hu | hu
        · rw [hu, if_pos rfl]
        · rw [hu, if_neg (by decide)]
      · have ev : s (9 + o) 2 = t 1 (ab_ m + 2) := b2
        rw [if_neg (by decide), if_neg (by decide), if_pos (show nI 2 = (2 : Int32) from rfl), ev]
      · have ev : s (9 + o) 5 = t 1 (ab_ m + 3) := b3
        rw [if_neg (by decide), if_neg (by decide), if_neg (by decide), if_pos (show nI 3 = (3 : Int32) from rfl), ev]
      · have ev : s (9 + o) 6 = t 1 (ab_ m + 4) := b4
        rw [if_neg (by decide), if_neg (by decide), if_neg (by decide), if_neg (by decide), if_pos (show nI 4 = (4 : Int32) from rfl), ev]
      · have ev : s (9 + o) 7 = t 1 (ab_ m + 5) := b5
        rw [if_neg (by decide), if_neg (by decide), if_neg (by decide), if_neg (by decide), if_neg (by decide), if_pos (show nI 5 = (5 : Int32) from rfl), ev]
      · have ev : s (9 + o) 8 = t 1 (ab_ m + 6) := b6
        rw [if_neg (by decide), if_neg (by decide), if_neg (by decide), if_neg (by decide), if_neg (by decide), if_neg (by decide), if_pos (show nI 6 = (6 : Int32) from rfl), ev]
    · rw [bn_e (show fX8_in (Int32.toInt64 i1) (0 : Int64) (6 : Int64) = some 0 from in_f (lo := 0) (hi := 6) hx), if_pos rfl]
      unfold fX8_arm_j26 fX8_arm_j33
      rw [bn_e (thr_1 pt_a (by decide)), if_neg (show ¬ (1 : Int32) = 0 by decide)]
      dsimp only
      rw [pt_pt]
      refine QN.bad 1 (y := 0) ?_ rfl (by decide)
      rw [if_neg (fun e => hx (by rw [e]; decide)), if_neg (fun e => hx (by rw [e]; decide)), if_neg (fun e => hx (by rw [e]; decide)), if_neg (fun e => hx (by rw [e]; decide)), if_neg (fun e => hx (by rw [e]; decide)), if_neg (fun e => hx (by rw [e]; decide)), if_neg (fun e => hx (by rw [e]; decide))]
  · rw [bn_e (hq s hB.1.2.2.1), tb_r, bn_e (hn t hB.1.2.2.2), if_neg (show ¬ (1 : Int32) = 0 by decide)]
    exact QN.bad 0 (y := 0) rfl rfl (by decide)
theorem waiting_p (h : HH s t C R n T) (i0 i1 i2 : Int32) : QN g2_ t (fX7_waiting s i0 i1 i2) (fX8_waiting t i0 i1 i2) := by
  obtain ⟨hD, -, -⟩ := h
  have hB := hD.rb
  unfold fX7_waiting fX8_waiting
  rcases armX (C := C) (R := R) i0 hB.1.1 hB.1.2.1 with ⟨o, m, hm, ho, et, hc, eo, hA, hq, hn⟩ | ⟨hq, hn⟩
  · obtain ⟨A, I⟩ := hA _ _ _ hD.2.2
    have hab := ab_b hm
    have h20 := I.2.2.2.2.1
    have hwn : t 1 (ab_ m + 2) = nI n := I.2.2.2.1
    rw [bn_e (hq s hB.1.2.2.1), tb_l, bn_e (hn t hB.1.2.2.2), if_pos rfl]
    by_cases hx : 0 ≤ i2 ∧ i2 ≤ 1
    · obtain ⟨k, _, hk1, rfl⟩ := ((rg_iff (lo := 0) (hi := 1) (by omega) (by omega)).mpr hx).ex
      rw [bn_e (within_t (lo := 0) (hi := 1) hx), tb_l, bn_e (eo (sb_ s 9) hB.1.2.2.1), bn_e (show fX8_in (Int32.toInt64 (nI k)) (0 : Int64) (1 : Int64) = some 1 from in_t (lo := 0) (hi := 1) hx), if_neg (show ¬ (1 : Int32) = 0 by decide)]
      unfold fX8_waiting_j24
      rw [bn_e (thr_0 pt_a), if_pos rfl, bn_e et]
      dsimp only
      rw [bn_e (armOf_2 hm), pt_oo (by decide), hwn]
      obtain ⟨b0, b1, b2, b3, b4, b5, b6, bj⟩ := A
      have e2 : s (9 + o) 2 = nI n := b2.trans hwn
      rw [e2]
      rcases idxC i1 n (by omega) with ⟨j, hj, rfl⟩ | hxj
      · obtain ⟨c1, c2⟩ := bj j hj
        have c1' : s (9 + o + 1) j = t 1 (ab_ m + 7 + 2 * j) := c1
        have c2' : s (9 + o + 2) j = t 1 (ab_ m + 7 + 2 * j + 1) := c2
        have ei : nI (ab_ m) + (7 : Int32) + (2 : Int32) * nI j + nI k = nI (ab_ m + 7 + 2 * j + k) := by
          show nI (ab_ m) + nI 7 + nI 2 * nI j + nI k = _
          rw [pk_mul, nI_add, nI_add, nI_add]
        rw [if_neg (nI_pos (by omega)), if_pos (nI_lt hj (by omega)), bn_e (inIdx_t hj (by omega)), if_neg (show ¬ (1 : Int32) = 0 by decide), bn_e et, bn_e armAt_e, ei, gd_t (ib_n (k := ab_ m + 7 + 2 * j + k) (N := 12584) (by omega) (by omega)), ix_n (k := ab_ m + 7 + 2 * j + k) (by omega), ix_n (k := j) (by omega), pt_oo (by decide)]
        refine QN.good (v := t 1 (ab_ m + 7 + 2 * j + k)) ?_ rfl pt_a MI.t6
        rcases (show k = 0 ∨ k = 1 by omega) with rfl | rfl
        · rw [if_pos (show nI 0 = (0 : Int32) from rfl), gd_t (ib_n (by omega) (by omega)), c1']
          rfl
        · rw [if_neg (by decide), gd_t (ib_n (by omega) (by omega)), c2']
      · rw [bn_e (inIdx_f hxj (by omega)), if_pos rfl]
        refine QN.good (v := -1) ?_ rfl pt_a MI.t6
        by_cases h0 : i1 < 0
        · rw [if_pos h0]
        · rw [if_neg h0, if_neg (fun z => hxj ⟨Int32.not_lt.mp h0, z⟩)]
    · rw [bn_e (within_f (lo := 0) (hi := 1) hx), tb_r, bn_e (show fX8_in (Int32.toInt64 i2) (0 : Int64) (1 : Int64) = some 0 from in_f (lo := 0) (hi := 1) hx), if_pos rfl]
      unfold fX8_waiting_j24
      rw [bn_e (thr_1 pt_a (by decide)), if_neg (show ¬ (1 : Int32) = 0 by decide)]
      dsimp only
      rw [pt_pt]
      exact QN.bad 1 (y := 0) rfl rfl (by decide)
  · rw [bn_e (hq s hB.1.2.2.1), tb_r, bn_e (hn t hB.1.2.2.2), if_neg (show ¬ (1 : Int32) = 0 by decide)]
    exact QN.bad 0 (y := 0) rfl rfl (by decide)
end ASKS
