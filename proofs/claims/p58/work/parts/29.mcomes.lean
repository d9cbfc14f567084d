/-! a request comes for all arms of the row -/
/-- whether there is an arm -/
def th_ (w : Nat → Int32) (R m : Nat) : Bool := decide (m < R) || (decide (m = 6) || (decide (m = 7) && decide (¬ w 21 = -1)))
def cw_ (w : Nat → Int32) (R n : Nat) (q : Int32) (K i : Nat) : Int32 := if 72 ≤ i ∧ i < 448 ∧ (i - 72) / 47 < K ∧ th_ w R ((i - 72) / 47) = true then (if (i - 72) % 47 = 2 then nI (n + 1) else if (i - 72) % 47 = 7 + 2 * n then q else if (i - 72) % 47 = 7 + 2 * n + 1 then w 16 else w i) else w i
section MCOMES
variable {t d : st_} {w : Nat → Int32} {m n C R K : Nat} {q : Int32}
theorem isThere_e (hR : t 1 4 = nI R) (hR6 : R ≤ 6) (hm : m < 8) : fX8_isThere t (nI m) = some (if th_ (t 1) R m = true then 1 else 0) := by
  unfold fX8_isThere fX8_isThere_j33 fX8_isThere_j37 th_
  rw [gd_t b4_, i4_, gd_t b21_, i21_, hR]
  rcases Nat.lt_or_ge m R with h | h
  · rw [if_pos (nI_lt h (by omega)), if_pos (by simp [h])]
  · rw [if_neg (nI_nlt h (by omega))]
    have hmR : ¬ m < R := by omega
    by_cases h6 : m = 6
    · subst h6
      rw [if_pos (show nI 6 = 6 from rfl), if_pos (by simp)]
    · rw [if_neg (show ¬ nI m = 6 from fun z => h6 ((nI_eq (a := m) (b := 6) (by omega) (by omega)).mp z))]
      by_cases h7 : m = 7
      · subst h7
        rw [if_pos (show nI 7 = 7 from rfl)]
        by_cases hr : t 1 21 = -1
        · rw [if_pos hr, if_neg (by simp [hmR, hr])]
        · rw [if_neg hr, if_pos (by simp [hr])]
      · rw [if_neg (show ¬ nI m = 7 from fun z => h7 ((nI_eq (a := m) (b := 7) (by omega) (by omega)).mp z)), if_neg (by simp [hmR, h6, h7])]
theorem cw_0 : cw_ w R n q 0 = w := by
  funext i
  unfold cw_
  rw [if_neg (by omega)]
theorem cw_out {i : Nat} (h : i < 72 ∨ 448 ≤ i) : cw_ w R n q K i = w i := by
  unfold cw_
  rw [if_neg (by omega)]
theorem cw_not (h : th_ w R K = false) : cw_ w R n q (K + 1) = cw_ w R n q K := by
  funext i
  unfold cw_
  by_cases hk : (i - 72) / 47 = K
  · rw [if_neg (fun z => by rw [hk, h] at z; exact absurd z.2.2.2 (by decide)), if_neg (fun z => by omega)]
  · by_cases hc : 72 ≤ i ∧ i < 448 ∧ (i - 72) / 47 < K + 1 ∧ th_ w R ((i - 72) / 47) = true
    · have hc2 : 72 ≤ i ∧ i < 448 ∧ (i - 72) / 47 < K ∧ th_ w R ((i - 72) / 47) = true := ⟨hc.1, hc.2.1, by omega, hc.2.2.2⟩
      rw [if_pos hc, if_pos hc2]
    · rw [if_neg hc, if_neg (fun z => hc ⟨z.1, z.2.1, by omega, z.2.2.2⟩)]
theorem cw_in (hK : K < 8) {j : Nat} (hj : j < 47) : cw_ w R n q K (ab_ K + j) = w (ab_ K + j) := by
  unfold cw_ ab_
  rw [if_neg (by omega)]
theorem comes_w (hR : t 1 4 = nI R) (hR6 : R ≤ 6) (hn : ∀ m, m < 8 → th_ (t 1) R m = true → t 1 (ab_ m + 2) = nI n) (h20 : n < 20) : wp_ (fX8_comes t q) (fun t' => mo_ t t' ∧ t' 1 = cw_ (t 1) R n q 8) := by
  unfold fX8_comes fX8_comes_l2
  refine wp_bn (Q := fun t' => mo_ t t' ∧ t' 1 = cw_ (t 1) R n q 8) ?_ (fun t' ht' => wp_s ht')
  refine wp_up (fun k v => v.1 = nI k ∧ mo_ t v.2 ∧ v.2 1 = cw_ (t 1) R n q k) 0 8 (by omega) (by omega) ⟨rfl, mo_r, cw_0.symm⟩ (fun k v hk _ hv => ?_) (fun v hv => ?_)
  · obtain ⟨v2, s⟩ := v
    obtain ⟨e, hmo, hw⟩ := hv
    dsimp only at e hmo hw
    subst e
    have hab := ab_b hk
    unfold fX8_comes_b2
    dsimp only
    refine wp_if' (nI_ge (b := 8) hk (by omega)) ?_
    have e4 : s 1 4 = nI R := by rw [hw, cw_out (by omega), hR]
    refine wp_bne (isThere_e e4 hR6 hk) ?_
    have eth : th_ (s 1) R k = th_ (t 1) R k := by
      unfold th_
      rw [hw, cw_out (by omega)]
    rw [eth]
    by_cases hth : th_ (t 1) R k = true
    · refine wp_if' (by rw [if_pos hth]; decide) ?_
      have hnk := hn k hk hth
      have s2 : s 1 (ab_ k + 2) = nI n := by rw [hw, cw_in hk (by omega), hnk]
      have x2 : nI (ab_ k) + (2 : Int32) = nI (ab_ k + 2) := nI_add _ 2
      have xk : nI (ab_ k) + (7 : Int32) + (2 : Int32) * nI n = nI (ab_ k + 7 + 2 * n) := by
        show nI (ab_ k) + nI 7 + nI 2 * nI n = _
        rw [pk_mul, nI_add, nI_add]
      have xk1 : nI (ab_ k + 7 + 2 * n) + (1 : Int32) = nI (ab_ k + 7 + 2 * n + 1) := nI_1 _
      have y2 : ix_ (nI (ab_ k + 2)) = ab_ k + 2 := ix_n (by omega)
      have yk : ix_ (nI (ab_ k + 7 + 2 * n)) = ab_ k + 7 + 2 * n := ix_n (by omega)
      have yk1 : ix_ (nI (ab_ k + 7 + 2 * n + 1)) = ab_ k + 7 + 2 * n + 1 := ix_n (by omega)
      refine wp_bne armAt_e (wp_bne (armOf_2 hk) ?_)
      rw [s2]
      simp only [xk, xk1, yk, yk1, i16_]
      refine wp_gd (ib_n (by omega) (by omega)) (wp_bd (wp_gd b16_ (wp_gd (ib_n (by omega) (by omega)) (wp_bd (wp_bne armAt_e ?_)))))
      simp only [x2, y2]
      refine wp_gd (ib_n (by omega) (by omega)) (wp_gd (ib_n (by omega) (by omega)) (wp_bd (wp_l ⟨nI_1 k, ((hmo.tr mo_p1).tr mo_p1).tr mo_p1, ?_⟩)))
      dsimp only
      funext i
      have s16 : s 1 16 = t 1 16 := by rw [hw, cw_out (by omega)]
      by_cases h2 : i = ab_ k + 2
      · subst h2
        simp (disch := omega) only [pt_a, pt_rr]
        rw [s2, nI_1]
        unfold cw_ ab_
        rw [if_pos ⟨by omega, by omega, by omega, by rw [show (72 + 47 * k + 2 - 72) / 47 = k from by omega]; exact hth⟩, if_pos (by omega)]
      · by_cases h7 : i = ab_ k + 7 + 2 * n
        · subst h7
          simp (disch := omega) only [pt_a, pt_rr]
          unfold cw_ ab_
          rw [if_pos ⟨by omega, by omega, by omega, by rw [show (72 + 47 * k + 7 + 2 * n - 72) / 47 = k from by omega]; exact hth⟩, if_neg (by omega), if_pos (by omega)]
        · by_cases h8 : i = ab_ k + 7 + 2 * n + 1
          · subst h8
            simp (disch := omega) only [pt_a, pt_rr]
            rw [s16]
            unfold cw_ ab_
            rw [if_pos ⟨by omega, by omega, by omega, by rw [show (72 + 47 * k + 7 + 2 * n + 1 - 72) / 47 = k from by omega]; exact hth⟩, if_neg (by omega), if_neg (by omega), if_pos (by omega)]
          · simp (disch := omega) only [pt_a, pt_rr]
            rw [hw]
            unfold cw_
            unfold ab_ at h2 h7 h8 hab
            by_cases hkk : (i - 72) / 47 = k
            · rw [if_neg (by omega)]
              by_cases hc : 72 ≤ i ∧ i < 448 ∧ (i - 72) / 47 < k + 1 ∧ th_ (t 1) R ((i - 72) / 47) = true
              · rw [if_pos hc, if_neg (by omega), if_neg (by omega), if_neg (by omega)]
              · rw [if_neg hc]
            · by_cases hc : 72 ≤ i ∧ i < 448 ∧ (i - 72) / 47 < k ∧ th_ (t 1) R ((i - 72) / 47) = true
              · have hc2 : 72 ≤ i ∧ i < 448 ∧ (i - 72) / 47 < k + 1 ∧ th_ (t 1) R ((i - 72) / 47) = true := ⟨hc.1, hc.2.1, by omega, hc.2.2.2⟩
                rw [if_pos hc, if_pos hc2]
              · rw [if_neg hc, if_neg (fun z => hc ⟨z.1, z.2.1, by omega, z.2.2.2⟩)]
    · have hf : th_ (t 1) R k = false := by
        cases h : th_ (t 1) R k
        · rfl
        · exact absurd h hth
      refine wp_it (by rw [if_neg hth]) (wp_l ⟨nI_1 k, hmo, ?_⟩)
      rw [cw_not hf]
      exact hw
  · obtain ⟨v2, s⟩ := v
    obtain ⟨e, hmo, hw⟩ := hv
    dsimp only at e hmo hw
    subst e
    unfold fX8_comes_b2
    exact wp_it (Int32.le_refl _) (wp_r ⟨hmo, hw⟩)
theorem cw_cb (hm : m < 8) (hth : th_ w R m = true) (h20 : n < 20) : CB w (cw_ w R n q 8) m n q := by
  have hab := ab_b hm
  refine ⟨?_, ?_, ?_, fun i h1 h2 h3 h4 h5 => ?_⟩
  · unfold cw_ ab_
    rw [if_pos ⟨by omega, by omega, by omega, by rw [show (72 + 47 * m + 2 - 72) / 47 = m from by omega]; exact hth⟩, if_pos (by omega)]
  · unfold cw_ ab_
    rw [if_pos ⟨by omega, by omega, by omega, by rw [show (72 + 47 * m + 7 + 2 * n - 72) / 47 = m from by omega]; exact hth⟩, if_neg (by omega), if_pos (by omega)]
  · unfold cw_ ab_
    rw [if_pos ⟨by omega, by omega, by omega, by rw [show (72 + 47 * m + 7 + 2 * n + 1 - 72) / 47 = m from by omega]; exact hth⟩, if_neg (by omega), if_neg (by omega), if_pos (by omega)]
  · unfold ab_ at h1 h2 h3 h4 h5 hab
    unfold cw_
    by_cases hc : 72 ≤ i ∧ i < 448 ∧ (i - 72) / 47 < 8 ∧ th_ w R ((i - 72) / 47) = true
    · rw [if_pos hc, if_neg (by omega), if_neg (by omega), if_neg (by omega)]
    · rw [if_neg hc]
/-- the arms of the duel and of the row -/
def DA (d : st_) (w : Nat → Int32) (C R n : Nat) : Prop := AR (sb_ d 5) w 6 n ∧ AI w 6 n C ∧ (∀ r, r < R → AR (sb_ d (3 * r + 15)) w r n ∧ AI w r n C) ∧ (¬ w 21 = -1 → AR (sb_ d 8) w 7 n ∧ AI w 7 n C)
theorem DA.th (h : DA d w C R n) (hm : m < 8) (ht : th_ w R m = true) : AI w m n C := by
  obtain ⟨h1, h2, h3, h4⟩ := h
  unfold th_ at ht
  rw [Bool.or_eq_true, Bool.or_eq_true, Bool.and_eq_true] at ht
  rcases ht with ht | ht | ⟨ht, hr⟩
  · exact (h3 m (of_decide_eq_true ht)).2
  · have e := of_decide_eq_true ht
    subst e
    exact h2
  · have e := of_decide_eq_true ht
    subst e
    exact (h4 (of_decide_eq_true hr)).2
theorem comes_p (hD : DA d (t 1) C R n) (hR : t 1 4 = nI R) (hdR : d 1 4 = nI R) (hR6 : R ≤ 6) (hmk : d 0 9 = t 1 16) (hrv : d 1 14 = t 1 21) (h20 : n < 20) (hq : rg_ q 0 (C - 1)) : ∃ d' t', fX1_addForAll d q = some d' ∧ fX8_comes t q = some t' ∧ mo_ t t' ∧ DA d' (t' 1) C R (n + 1) ∧ (∀ o, (o < 5 ∨ (11 ≤ o ∧ o < 15)) → d' o = d o) ∧ t' 1 = cw_ (t 1) R n q 8 ∧ OK_ d d' R := by
  have hth : ∀ m, m < 8 → th_ (t 1) R m = true → t 1 (ab_ m + 2) = nI n := fun m hm h => (hD.th hm h).2.2.2.1
  have eR : ∀ r, r < R → th_ (t 1) R r = true := fun r hr => by unfold th_; simp [hr]
  have e6 : th_ (t 1) R 6 = true := by unfold th_; simp
  have e7 : ¬ t 1 21 = -1 → th_ (t 1) R 7 = true := fun h => by unfold th_; simp [h]
  obtain ⟨h1, h2, h3, h4⟩ := id hD
  obtain ⟨d', ed, do_, d5, dr, d8, dk⟩ := addForAll_w (d := d) (q := q) hdR hR6 (h1.2.2.1.trans h2.2.2.2.1) (fun r hr => ((h3 r hr).1.2.2.1.trans (h3 r hr).2.2.2.2.1)) (fun h => by
    rw [hrv] at h
    exact (h4 h).1.2.2.1.trans (h4 h).2.2.2.2.1) h20
  obtain ⟨t', et, hmo, hw⟩ := comes_w (q := q) hR hR6 hth h20
  refine ⟨d', t', ed, et, hmo, ?_, do_, hw, dk⟩
  rw [hw]
  have e21 : cw_ (t 1) R n q 8 21 = t 1 21 := cw_out (by omega)
  have p6 := recv_p (q := q) (mk := d 0 9) h1 h2 (cw_cb (by omega) e6 h20) h20 hq hmk
  refine ⟨p6.1.ext d5, p6.2, fun r hr => ?_, fun h => ?_⟩
  · have p := recv_p (q := q) (mk := d 0 9) (h3 r hr).1 (h3 r hr).2 (cw_cb (by omega) (eR r hr) h20) h20 hq hmk
    exact ⟨p.1.ext (dr r hr), p.2⟩
  · rw [e21] at h
    have p := recv_p (q := q) (mk := d 0 9) (h4 h).1 (h4 h).2 (cw_cb (by omega) (e7 h) h20) h20 hq hmk
    rw [hrv] at d8
    exact ⟨p.1.ext (d8 h), p.2⟩
end MCOMES
