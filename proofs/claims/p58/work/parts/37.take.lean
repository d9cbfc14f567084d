/-! the rules that are taken -/
section TAKE
variable {d t : st_} {C R n : Nat}
/-- the class: the master's rule, then the rival's -/
theorem take_p (h : DD d (t 1) C R n) : ∃ d' t2 r9 rv, fX1_takeRules d = some d' ∧ r9 < R ∧ d' 0 12 = nI r9 ∧ (∀ o, o ≠ 0 → d' o = d o) ∧ fX8_round_j11 t = bn_ (fX8_round_l79 (nI r9) FU_ ((0 : Int32), t2)) (fX8_round_k79 (nI r9) (t2, rv)) ∧ mo_ t t2 ∧ (∀ i, i ≠ 8 → i ≠ 23 → i ≠ 25 → t2 1 i = t 1 i) ∧ DD d' (t2 1) C R n ∧ ((t 1 21 = -1 ∧ rv = -1) ∨ (¬ t 1 21 = -1 ∧ ∃ rr, rr < R ∧ rv = nI rr ∧ d' 0 13 = nI rr)) := by
  have hB := h.rb
  have hR6 := hB.1.2.1
  obtain ⟨hRS, a1, a2, k1, k2, k3, k4, eta, etar, foe, foer, ak, akr, asks, base, root, bud, rv, rvr, rvk⟩ := id h.1
  obtain ⟨v1, v2, v3, v4, v5, v6, v7, v8, v9, v10, v11⟩ := id h.2.1
  -- the master's seed
  obtain ⟨sd, hsd, ed, et⟩ : ∃ sd : Int32, rg_ sd 0 32767 ∧ fX1_takeRules d = fX1_takeRules_j21 (pt_ d 0 7 sd) ∧ fX8_round_j11 t = fX8_round_j38 (pt_ t 1 8 sd) := by
    unfold fX1_takeRules fX8_round_j11
    rw [i5_, i8_, gd_t b5_, gd_t b8_, k1]
    by_cases hk : t 1 5 = 0
    · obtain ⟨x, _, hx, hxe⟩ := v2.ex
      refine ⟨nI ((1103 * x + 12345) % 32768), rg_n (Nat.zero_le _) (by omega) (by omega), ?_, ?_⟩
      · rw [if_pos hk, v1, hxe, bn_e (seedBehind_e hx), bd_e]
      · rw [if_pos hk, hxe, bn_e (drawn_e hx), gd_t b8_, bd_e]
    · refine ⟨t 1 8, v2, ?_, ?_⟩
      · rw [if_neg hk]
        congr 1
        funext o j
        rw [pt_ap]
        by_cases h1 : o = 0
        · subst h1
          by_cases h2 : j = 7
          · subst h2; rw [if_pos rfl, if_pos rfl, v1]
          · rw [if_pos rfl, if_neg h2]
        · rw [if_neg h1]
      · rw [if_neg hk]
        congr 1
        funext o j
        rw [pt_ap]
        by_cases h1 : o = 1
        · subst h1
          by_cases h2 : j = 8
          · subst h2; rw [if_pos rfl, if_pos rfl]
          · rw [if_pos rfl, if_neg h2]
        · rw [if_neg h1]
  generalize hd1 : pt_ d 0 7 sd = d1 at ed
  generalize ht1 : pt_ t 1 8 sd = t1 at et
  have d1o : ∀ o, o ≠ 0 → d1 o = d o := fun o ho => by rw [← hd1]; exact pt_o ho
  have d10 : ∀ j, j ≠ 7 → d1 0 j = d 0 j := fun j hj => by rw [← hd1]; exact pt_r hj
  have d17 : d1 0 7 = sd := by rw [← hd1]; exact pt_a
  have t1i : ∀ i, i ≠ 8 → t1 1 i = t 1 i := fun i hi => by rw [← ht1]; exact pt_r hi
  have t18 : t1 1 8 = sd := by rw [← ht1]; exact pt_a
  have hmo1 : mo_ t t1 := by rw [← ht1]; exact mo_p1
  obtain ⟨⟨h1, h6, hdR, hwR⟩, -, -, hwt, hp⟩ := id hB
  have hdR1 : d1 1 4 = nI R := by rw [d1o 1 (by decide)]; exact hdR
  have hwR1 : t1 1 4 = nI R := by rw [t1i 4 (by decide)]; exact hwR
  have hwt1 : ∀ r, r < R → d1 12 r = t1 1 (26 + 5 * r + 2) ∧ rg_ (t1 1 (26 + 5 * r + 2)) 1 1000000 := fun r hr => by
    rw [d1o 12 (by decide), t1i _ (by omega)]
    exact hwt r hr
  have hp1 : ∀ r, r < R → d1 (3 * r + 15) 5 = t1 1 (ab_ r + 3) := fun r hr => by
    rw [d1o _ (by omega), t1i _ (by unfold ab_; omega)]
    exact hp r hr
  obtain ⟨r9, hr9, e9, m9⟩ := ruleBy_p (d := d1) (t := t1) (kind := t 1 5) (kc := d 1 8) (km := t 1 6) (s := sd) hdR1 hwR1 h1 h6 hwt1 hp1 k2 k3 hsd
  have hj21 : fX1_takeRules_j21 d1 = (if d1 1 14 = 0 then bn_ (fX1_seedBehind (d1 0 8)) fun r21 => bd_ (pt_ (pt_ d1 0 12 (nI r9)) 0 8 r21) fun s25 => fX1_takeRules_j68 s25 else fX1_takeRules_j68 (pt_ d1 0 12 (nI r9))) := by
    unfold fX1_takeRules_j21
    rw [d17, d1o 1 (by decide), k1, bn_e e9, bd_e]
    have q1 : pt_ d1 0 12 (nI r9) 1 14 = d 1 14 := by rw [pt_oo (by decide), d1o 1 (by decide)]
    have q2 : pt_ d1 0 12 (nI r9) 0 8 = d1 0 8 := pt_r (by decide)
    rw [q1, q2]
  have hj38 : fX8_round_j38 t1 = bn_ (fX8_rivalTakes t1) fun r13 => bn_ (fX8_round_l79 (nI r9) FU_ ((0 : Int32), r13.1)) (fX8_round_k79 (nI r9) r13) := by
    unfold fX8_round_j38
    rw [i5_, i6_, i8_, gd_t b5_, gd_t b6_, gd_t b8_, t1i 5 (by decide), t1i 6 (by decide), t18, bn_e m9]
    congr 1
  rw [ed, et, hj21, hj38]
  generalize hd2 : pt_ d1 0 12 (nI r9) = d2
  have d2o : ∀ o, o ≠ 0 → d2 o = d o := fun o ho => by rw [← hd2, pt_o ho, d1o o ho]
  have d2j : ∀ j, j ≠ 7 → j ≠ 12 → d2 0 j = d 0 j := fun j h1 h2 => by rw [← hd2, pt_r h2, d10 j h1]
  have d27 : d2 0 7 = sd := by rw [← hd2, pt_r (by decide), d17]
  have d212 : d2 0 12 = nI r9 := by rw [← hd2]; exact pt_a
  -- all but the rival's: in order
  have fin : ∀ (d3 t3 : st_) (s8 s13 : Int32), (∀ o, o ≠ 0 → d3 o = d o) → (∀ j, j ≠ 7 → j ≠ 12 → j ≠ 8 → j ≠ 13 → d3 0 j = d 0 j) → d3 0 7 = sd → d3 0 8 = s8 → d3 0 13 = s13 → (∀ i, i ≠ 8 → i ≠ 23 → i ≠ 25 → t3 1 i = t 1 i) → t3 1 8 = sd → t3 1 23 = s8 → t3 1 25 = s13 → rg_ s8 0 32767 → DD d3 (t3 1) C R n := by
    intro d3 t3 s8 s13 f1 f2 f3 f4 f5 f6 f7 f8 f9 f10
    refine ⟨h.1.of (fun o h1 _ => f1 o (by omega)) (fun i hi => f6 i (by unfold sI_ at hi; omega) (by unfold sI_ at hi; omega) (by unfold sI_ at hi; omega)), ?_, (h.2.2.dext h6 (fun o ho => f1 o (by omega))).wext h6 (fun i hi => f6 i (by omega) (by omega) (by omega))⟩
    unfold DV
    rw [f3, f4, f5, f2 9 (by decide) (by decide) (by decide) (by decide), f2 10 (by decide) (by decide) (by decide) (by decide), f2 11 (by decide) (by decide) (by decide) (by decide), f1 12 (by decide), f7, f8, f9, f6 16 (by decide) (by decide) (by decide), f6 15 (by decide) (by decide) (by decide), f6 10 (by decide) (by decide) (by decide), f6 14 (by decide) (by decide) (by decide)]
    refine ⟨rfl, hsd, rfl, f10, v5, v6, v7, v8, v9, rfl, fun r hr => ?_⟩
    rw [f6 _ (by omega) (by omega) (by omega)]
    exact v11 r hr
  by_cases hr : t 1 21 = -1
  · -- no rival
    have hne : ¬ t 1 21 = 0 := by rw [hr]; decide
    have em : fX8_rivalTakes t1 = some (t1, -1) := by
      unfold fX8_rivalTakes
      rw [i21_, gd_t b21_, t1i 21 (by decide), if_pos hr]
    have ec : fX1_takeRules_j68 d2 = some d2 := by
      unfold fX1_takeRules_j68
      have q : sb_ d2 1 0 14 = -1 := by
        show d2 1 14 = -1
        rw [d2o 1 (by decide), rv, hr]
      rw [bn_e hasRival_e, q, if_pos rfl, if_pos rfl]
    rw [d1o 1 (by decide), rv, if_neg hne, ec, bn_e em]
    exact ⟨d2, t1, r9, -1, rfl, hr9, d212, d2o, rfl, hmo1, fun i h1 _ _ => t1i i h1, fin d2 t1 (t 1 23) (t 1 25) d2o (fun j a b c e => d2j j a b) d27 (by rw [d2j 8 (by decide) (by decide), v3]) (by rw [d2j 13 (by decide) (by decide), v10]) (fun i a b c => t1i i a) t18 (t1i 23 (by decide)) (t1i 25 (by decide)) v4, Or.inl ⟨hr, rfl⟩⟩
  · have hrk : rg_ (t 1 21) 0 2 := by
      rcases rvr with h | h
      · exact absurd h hr
      · exact h
    -- the rival's seed
    obtain ⟨s8, hs8, ec8, em8⟩ : ∃ s8 : Int32, rg_ s8 0 32767 ∧ (if d1 1 14 = 0 then bn_ (fX1_seedBehind (d1 0 8)) fun r21 => bd_ (pt_ d2 0 8 r21) fun s25 => fX1_takeRules_j68 s25 else fX1_takeRules_j68 d2) = fX1_takeRules_j68 (pt_ d2 0 8 s8) ∧ fX8_rivalTakes t1 = fX8_rivalTakes_j41 (pt_ t1 1 23 s8) := by
      unfold fX8_rivalTakes
      rw [i21_, i23_, gd_t b21_, gd_t b21_, gd_t b23_, t1i 21 (by decide), if_neg hr, d1o 1 (by decide), rv, d10 8 (by decide), v3, t1i 23 (by decide)]
      by_cases h0 : t 1 21 = 0
      · obtain ⟨x, _, hx, hxe⟩ := v4.ex
        refine ⟨nI ((1103 * x + 12345) % 32768), rg_n (Nat.zero_le _) (by omega) (by omega), ?_, ?_⟩
        · rw [if_pos h0, hxe, bn_e (seedBehind_e hx), bd_e]
        · rw [if_pos h0, hxe, bn_e (drawn_e hx), gd_t b23_, bd_e]
      · refine ⟨t 1 23, v4, ?_, ?_⟩
        · rw [if_neg h0]
          congr 1
          funext o j
          rw [pt_ap]
          by_cases h1 : o = 0
          · subst h1
            by_cases h2 : j = 8
            · subst h2; rw [if_pos rfl, if_pos rfl, d2j 8 (by decide) (by decide), v3]
            · rw [if_pos rfl, if_neg h2]
          · rw [if_neg h1]
        · rw [if_neg h0]
          congr 1
          funext o j
          rw [pt_ap]
          by_cases h1 : o = 1
          · subst h1
            by_cases h2 : j = 23
            · subst h2; rw [if_pos rfl, if_pos rfl, t1i 23 (by decide)]
            · rw [if_pos rfl, if_neg h2]
          · rw [if_neg h1]
    rw [ec8, em8]
    generalize hd3 : pt_ d2 0 8 s8 = d3
    generalize ht3 : pt_ t1 1 23 s8 = t3
    have d3o : ∀ o, o ≠ 0 → d3 o = d o := fun o ho => by rw [← hd3, pt_o ho, d2o o ho]
    have d3j : ∀ j, j ≠ 8 → d3 0 j = d2 0 j := fun j h1 => by rw [← hd3, pt_r h1]
    have d38 : d3 0 8 = s8 := by rw [← hd3]; exact pt_a
    have t3i : ∀ i, i ≠ 8 → i ≠ 23 → t3 1 i = t 1 i := fun i h1 h2 => by rw [← ht3, pt_r h2, t1i i h1]
    have t38 : t3 1 8 = sd := by rw [← ht3, pt_r (by decide), t18]
    have t323 : t3 1 23 = s8 := by rw [← ht3]; exact pt_a
    have hmo3 : mo_ t t3 := by rw [← ht3]; exact hmo1.tr mo_p1
    obtain ⟨rr, hrr, er, mr⟩ := ruleBy_p (d := d3) (t := t3) (kind := t 1 21) (kc := d 1 15) (km := t 1 22) (s := s8) (by rw [d3o 1 (by decide)]; exact hdR) (by rw [t3i 4 (by decide) (by decide)]; exact hwR) h1 h6 (fun r hr => by
      rw [d3o 12 (by decide), t3i _ (by omega) (by omega)]
      exact hwt r hr) (fun r hr => by
      rw [d3o _ (by omega), t3i _ (by unfold ab_; omega) (by unfold ab_; omega)]
      exact hp r hr) hrk rvk hs8
    have ec : fX1_takeRules_j68 d3 = some (pt_ d3 0 13 (nI rr)) := by
      unfold fX1_takeRules_j68
      have q : sb_ d3 1 0 14 = t 1 21 := by
        show d3 1 14 = _
        rw [d3o 1 (by decide), rv]
      rw [bn_e hasRival_e, q, if_neg hr, if_neg (show ¬ (1 : Int32) = 0 by decide), d3o 1 (by decide), rv, d38, bn_e er, bd_e]
    have em : fX8_rivalTakes_j41 t3 = some (pt_ t3 1 25 (nI rr), nI rr) := by
      unfold fX8_rivalTakes_j41
      rw [i21_, i22_, i23_, i25_, gd_t b21_, gd_t b22_, gd_t b23_, t3i 21 (by decide) (by decide), t3i 22 (by decide) (by decide), t323, bn_e mr, gd_t b25_, bd_e, gd_t b25_, pt_a]
    rw [ec, bn_e em]
    refine ⟨_, pt_ t3 1 25 (nI rr), r9, nI rr, rfl, hr9, ?_, fun o ho => by rw [pt_o ho]; exact d3o o ho, rfl, hmo3.tr mo_p1, fun i a b c => by rw [pt_r c]; exact t3i i a b, ?_, Or.inr ⟨hr, rr, hrr, rfl, pt_a⟩⟩
    · rw [pt_r (by decide), d3j 12 (by decide), d212]
    · refine fin _ _ s8 (nI rr) (fun o ho => by rw [pt_o ho]; exact d3o o ho) (fun j a b c e => by rw [pt_r e, d3j j c, d2j j a b]) (by rw [pt_r (by decide), d3j 7 (by decide), d27]) (by rw [pt_r (by decide), d38]) pt_a (fun i a b c => by rw [pt_r c]; exact t3i i a b) (by rw [pt_r (by decide), t38]) (by rw [pt_r (by decide), t323]) pt_a hs8
end TAKE
