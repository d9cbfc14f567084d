/-! predictions with other settings, a breach, the rule that comes, the optimum -/
section PRED58
variable {s s' t t' t2 g x y d d' r : st_} {C R n n' T K k v : Nat}
theorem CD.one (hc : CD r d) (hx : ∀ o, o < 33 → o ≠ 1 → x o = r o) (hy : ∀ o, o < 33 → o ≠ 1 → y o = d o) (h1 : ∀ j, (x 1 j = r 1 j ∧ y 1 j = d 1 j) ∨ x 1 j = y 1 j) : CD x y := by
  obtain ⟨⟨cs0, cs1, cs3⟩, c5, c8, cr, c12, c0⟩ := hc
  refine ⟨⟨fun j hj a b c => ?_, fun j hj => ?_, fun j hj => ?_⟩, c5.ext (fun q hq => by rw [sb_ap, sb_ap, hx _ (by omega) (by omega)]) (fun q hq => by rw [sb_ap, sb_ap, hy _ (by omega) (by omega)]), c8.ext (fun q hq => by rw [sb_ap, sb_ap, hx _ (by omega) (by omega)]) (fun q hq => by rw [sb_ap, sb_ap, hy _ (by omega) (by omega)]), fun q hq => (cr q hq).ext (fun q hq => by rw [sb_ap, sb_ap, hx _ (by omega) (by omega)]) (fun q hq => by rw [sb_ap, sb_ap, hy _ (by omega) (by omega)]), fun j hj => by rw [hx 12 (by omega) (by omega), hy 12 (by omega) (by omega)]; exact c12 j hj, fun j a b => by rw [hx 0 (by omega) (by omega), hy 0 (by omega) (by omega)]; exact c0 j a b⟩
  · rcases h1 j with ⟨e1, e2⟩ | e
    · show x 1 j = y 1 j
      rw [e1, e2]
      exact cs0 j hj a b c
    · exact e
  · show x 2 j = y 2 j ∧ x 3 j = y 3 j
    rw [hx 2 (by omega) (by omega), hy 2 (by omega) (by omega), hx 3 (by omega) (by omega), hy 3 (by omega) (by omega)]
    exact cs1 j hj
  · show x 4 j = y 4 j
    rw [hx 4 (by omega) (by omega), hy 4 (by omega) (by omega)]
    exact cs3 j hj
theorem p_keeping (h : HH s t C R n T) (h2 : HH (msr_ s 2 v) t2 C R n T) (hv : v < R) (h1 : 1 ≤ k) (hk : k ≤ 200) (er : fX8_rounds t2 (nI k) = some t') : ∃ s', gX7_regretKeeping s (nI v) (nI k) = some (s', rg0_ (t' 1) R) ∧ ∀ o, o < 83 → s' o = s o := by
  have hB := h.1.rb
  obtain ⟨r, e1, hc⟩ := duelCopy_w (s := sb_ s 83) h.2.1
  obtain ⟨m1, m2, m3, m4⟩ := mast_h (s := mg_ s 83 33 r) (a := 83) (b := 84) (kind := nI 2) (y := if nI 2 = 2 then nI v else -1) rfl
  obtain ⟨p1, p2, p3, p4⟩ := mast_h (s := s) (a := 9) (b := 10) (kind := nI 2) (y := if nI 2 = 2 then nI v else -1) rfl
  have et : fX5_takeMaster (sb_ (mg_ s 83 33 r) 84) (2 : Int32) (nI v) = some (pt_ (pt_ (sb_ (mg_ s 83 33 r) 84) 0 7 (nI 2)) 0 8 (if nI 2 = 2 then nI v else -1)) := takeMaster_e
  generalize hz : mg_ (mg_ s 83 33 r) 84 4 (pt_ (pt_ (sb_ (mg_ s 83 33 r) 84) 0 7 (nI 2)) 0 8 (if nI 2 = 2 then nI v else -1)) = z at m1 m2 m3 m4
  have hcd : CD (sb_ z 83) (sb_ (msr_ s 2 v) 9) := hc.one (fun o ho h1 => by
      rw [sb_ap, m1 _ (by omega), mg_i (by omega) (by omega)]
      congr 1
      omega) (fun o ho h1 => by
      rw [sb_ap, sb_ap]
      exact p1 _ (by omega)) (fun j => by
      by_cases h7 : j = 7
      · subst h7
        exact Or.inr (m3.trans p3.symm)
      · by_cases h8 : j = 8
        · subst h8
          exact Or.inr (m4.trans p4.symm)
        · refine Or.inl ⟨?_, p2 j h7 h8⟩
          show z 84 j = r 1 j
          rw [m2 j h7 h8, mg_i (by omega) (by omega)])
  obtain ⟨d', t3, n', f1, f2, -, hD, -⟩ := passes_p (h2.1.ce hcd) h2.2.2.1.1.2.2.1 (k := k) (by have := h.2.2.1.1.2.2.2; omega)
  cases er.symm.trans f2
  have e3 : fX1_regretNow (sb_ (mg_ z 83 33 d') 83) = some (rg0_ (t' 1) R) := (hD.x33 (fun o ho => by rw [sb_ap, mg_i (by omega) (by omega), Nat.add_sub_cancel_left])).reg
  refine ⟨mg_ z 83 33 d', ?_, fun o ho => by rw [mg_o (by omega), m1 _ (by omega), mg_o (by omega)]⟩
  unfold gX7_regretKeeping
  rw [bn_e (gRule hB.1.2.2.1 hv hB.1.2.1), bn_e (p_within h1 hk), bn_e e1, bd_e, bn_e et, bd_e, hz, bn_e f1, bd_e, bn_e e3]
theorem p_against (h : HH s t C R n T) (h2 : HH (pt_ s 10 11 (nI v)) t2 C R n T) (hv : v ≤ 5) (h1 : 1 ≤ k) (hk : k ≤ 200) (er : fX8_rounds t2 (nI k) = some t') : ∃ s', gX7_regretAgainst s (nI v) (nI k) = some (s', rg0_ (t' 1) R) ∧ ∀ o, o < 83 → s' o = s o := by
  have hB := h.1.rb
  obtain ⟨r, e1, hc⟩ := duelCopy_w (s := sb_ s 83) h.2.1
  have hcd : CD (sb_ (pt_ (mg_ s 83 33 r) 84 11 (nI v)) 83) (sb_ (pt_ s 10 11 (nI v)) 9) := hc.one (fun o ho h1 => by
      rw [sb_ap, pt_o (by omega), mg_i (by omega) (by omega)]
      congr 1
      omega) (fun o ho h1 => by
      rw [sb_ap, sb_ap, pt_o (by omega)]) (fun j => by
      by_cases h7 : j = 11
      · subst h7
        refine Or.inr ?_
        show pt_ (mg_ s 83 33 r) 84 11 (nI v) 84 11 = pt_ s 10 11 (nI v) 10 11
        rw [pt_a, pt_a]
      · refine Or.inl ⟨?_, ?_⟩
        · show pt_ (mg_ s 83 33 r) 84 11 (nI v) 84 j = r 1 j
          rw [pt_r h7, mg_i (by omega) (by omega)]
        · show pt_ s 10 11 (nI v) 10 j = s 10 j
          rw [pt_r h7])
  obtain ⟨d', t3, n', f1, f2, -, hD, -⟩ := passes_p (h2.1.ce hcd) h2.2.2.1.1.2.2.1 (k := k) (by have := h.2.2.1.1.2.2.2; omega)
  cases er.symm.trans f2
  have e3 : fX1_regretNow (sb_ (mg_ (pt_ (mg_ s 83 33 r) 84 11 (nI v)) 83 33 d') 83) = some (rg0_ (t' 1) R) := (hD.x33 (fun o ho => by rw [sb_ap, mg_i (by omega) (by omega), Nat.add_sub_cancel_left])).reg
  have ew : gX7_requireWithin (nI v) (0 : Int32) (5 : Int32) = some () := gWithin (nI_pos' (by omega)) (nI_le (b := 5) hv (by omega))
  refine ⟨mg_ (pt_ (mg_ s 83 33 r) 84 11 (nI v)) 83 33 d', ?_, fun o ho => by rw [mg_o (by omega), pt_o (by omega), mg_o (by omega)]⟩
  unfold gX7_regretAgainst
  rw [bn_e ew, bn_e (p_within h1 hk), bn_e e1, bd_e, bd_e, bn_e f1, bd_e, bn_e e3]
/-- a round of the model, told as one of many -/
theorem rounds_1 (h : fX8_round t = some t') : fX8_rounds t (nI 1) = some t' := by
  have e1 : tn t 1 = t' := by
    show (fX8_round t).getD t = t'
    rw [h]
    rfl
  rw [← e1]
  refine rounds_e (k := 1) (fun i hi => ?_) (by omega)
  have : i = 0 := by omega
  subst this
  rw [e1]
  exact h
/-- a breach, foretold: at once, or not at once -/
theorem p_breachIn (h : HH s t C R n T) (hT : T ≤ 1000) (hn : ¬ t 1 11 = -1) (er : fX8_round t = some t') (hn' : t' 1 11 = t 1 11) : ∃ s' x, gX7_breachIn s = some (s', x) ∧ (x = 1 ↔ bnd_ (t' 1) (T + 1) < rg0_ (t' 1) R) ∧ ∀ o, o < 83 → s' o = s o := by
  have hb : s 10 17 = t 1 11 := h.base.1
  obtain ⟨r, e1, hc⟩ := duelCopy_w (s := sb_ s 83) h.2.1
  have hD : DD (sb_ (mg_ s 83 33 r) 83) (t 1) C R n := (h.1.ce hc).x33 (fun o ho => by rw [sb_ap, mg_i (by omega) (by omega)]; congr 1; omega)
  have h16 := h.2.2.1.1.2.2.1
  have e1t : tn t 1 = t' := by
    show (fX8_round t).getD t = t'
    rw [er]
    rfl
  suffices hw : wp_ (gX7_breachIn s) (fun y => (y.2 = 1 ↔ bnd_ (t' 1) (T + 1) < rg0_ (t' 1) R) ∧ ∀ o, o < 83 → y.1 o = s o) by
    obtain ⟨⟨s', x⟩, e, e2, e3⟩ := hw
    exact ⟨s', x, e, e2, e3⟩
  unfold gX7_breachIn gX7_breachIn_l35
  refine wp_if' (by rw [hb]; exact hn) (wp_bne e1 (wp_bd (wp_bn (Q := fun x => Sum.elim (fun z : Int32 × st_ => (z.1 = 1 ↔ bnd_ (t' 1) (T + 1) < rg0_ (t' 1) R) ∧ ∀ o, o < 83 → z.2 o = s o) (fun z : st_ => ¬ bnd_ (t' 1) (T + 1) < rg0_ (t' 1) R ∧ ∀ o, o < 83 → z o = s o) x) ?_ (fun x hx => ?_))))
  · refine wp_up (fun j v => v.1 = nI (j + 1) ∧ (∃ n', DD (sb_ v.2 83) (tn t j 1) C R n') ∧ tn t j 1 16 = nI (T + j) ∧ (∀ o, o < 83 → v.2 o = s o) ∧ (0 < j → ¬ bnd_ (t' 1) (T + 1) < rg0_ (t' 1) R)) 0 200 (Nat.zero_le _) (by omega) ⟨rfl, ⟨n, hD⟩, h16, fun o ho => mg_o (by omega), fun z => absurd z (by omega)⟩ (fun j v hj _ hv => ?_) (fun v hv => ?_)
    · obtain ⟨v1, z⟩ := v
      obtain ⟨a1, ⟨n', hD'⟩, h17, hzo, hnb⟩ := hv
      dsimp only at a1 hD' hzo
      subst a1
      obtain ⟨d3, t3, n3, f1, f2, -, hD3, h18, -, br, hbr, -⟩ := step_p hD' h17 (by omega)
      have et : tn t (j + 1) = t3 := by
        show (fX8_round (tn t j)).getD (tn t j) = t3
        rw [f2]
        rfl
      have hD4 : DD (sb_ (mg_ z 83 33 d3) 83) (t3 1) C R n3 := hD3.x33 (fun o ho => by rw [sb_ap, mg_i (by omega) (by omega), Nat.add_sub_cancel_left])
      have eb := hbr _ _ hD4
      show wp_ (gX7_breachIn_b35 (nI (j + 1)) z) _
      unfold gX7_breachIn_b35
      refine wp_if' (nI_nlt (a := 200) (by omega) (by omega)) (wp_bne (letPass1 f1) (wp_bd (wp_bne eb ?_)))
      by_cases h0 : j = 0
      · subst h0
        have et3 : t3 = t' := et.symm.trans e1t
        subst et3
        have hB := hD4.rb
        have hx := breach_x (T := T + 1) hD4.2.2 hB.1.2.2.1 hB.1.2.2.2 hB.1.1 hB.1.2.1 hD4.1.2.2.2.2.2.2.2.2.2.2.2.2.2.2.1 hD4.1.2.2.2.2.2.2.2.2.2.2.2.2.2.2.2.1 (hD4.mk.trans h18) (by omega) (by rw [hn']; exact hn)
        have ebr := Option.some.inj (eb.symm.trans hx)
        refine wp_if (fun hc => wp_l ⟨nI_1 _, ⟨n3, by rw [et]; exact hD4⟩, by rw [et]; exact h18, fun o ho => (mg_o (by omega)).trans (hzo o ho), fun _ hbad => ?_⟩) (fun hc => wp_r ⟨⟨fun _ => ?_, fun _ => rfl⟩, fun o ho => (mg_o (by omega)).trans (hzo o ho)⟩)
        · rw [if_pos hbad] at ebr
          rw [hc] at ebr
          exact absurd ebr (by decide)
        · by_cases hbad : bnd_ (t3 1) (T + 1) < rg0_ (t3 1) R
          · exact hbad
          · rw [if_neg hbad] at ebr
            exact absurd ebr hc
      · refine wp_if (fun hc => wp_l ⟨nI_1 _, ⟨n3, by rw [et]; exact hD4⟩, by rw [et]; exact h18, fun o ho => (mg_o (by omega)).trans (hzo o ho), fun _ => hnb (by omega)⟩) (fun hc => wp_r ⟨⟨fun z1 => ?_, fun z1 => absurd z1 (hnb (by omega))⟩, fun o ho => (mg_o (by omega)).trans (hzo o ho)⟩)
        have z1 : nI (j + 1) = (1 : Int32) := z1
        have := (nI_eq (b := 1) (by omega) (by omega)).mp z1
        omega
    · obtain ⟨v1, z⟩ := v
      obtain ⟨a1, -, -, hzo, hnb⟩ := hv
      dsimp only at a1 hzo
      subst a1
      show wp_ (gX7_breachIn_b35 (nI (200 + 1)) z) _
      unfold gX7_breachIn_b35
      exact wp_it (show (200 : Int32) < nI (200 + 1) by decide) (wp_r ⟨hnb (by omega), hzo⟩)
  · unfold gX7_breachIn_k35
    cases x with
    | inl z => exact wp_s hx
    | inr z => exact wp_s ⟨⟨fun z1 => absurd (show (-1 : Int32) = 1 from z1) (by decide), fun z1 => absurd z1 hx.1⟩, hx.2⟩
end PRED58
