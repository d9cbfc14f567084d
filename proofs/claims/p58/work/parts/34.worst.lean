/-! the reference foresees: hurts, the worst cylinder -/
def hc_ (w w1 : Nat → Int32) (R n K i : Nat) : Int32 := if 72 ≤ i ∧ i < 448 ∧ (i - 72) / 47 < K ∧ th_ w R ((i - 72) / 47) = true ∧ (i - 72) % 47 = 2 then nI n else w1 i
section WORST
variable {d t a S : st_} {w w' w1 : Nat → Int32} {m C R n r q : Nat}
theorem EQn.ai (h : EQn w w' n) (hI : AI w m n C) : AI w' m n C := by
  obtain ⟨hm, hc, hu, hn, h20, hq⟩ := hI
  have e : ∀ j, j < 7 → w' (ab_ m + j) = w (ab_ m + j) := fun j hj => h _ (Or.inr (Or.inr (by
    have e : (ab_ m + j - 72) % 47 = j := by unfold ab_; omega
    rw [e]
    omega)))
  refine ⟨hm, by have := e 0 (by omega); rw [Nat.add_zero] at this; rw [this]; exact hc, by rw [e 1 (by omega)]; exact hu, by rw [e 2 (by omega)]; exact hn, h20, fun j hj => ?_⟩
  rw [h _ (by unfold ab_; omega)]
  exact hq j hj
theorem EQn.ar (h : EQn w w' n) (hm : m < 8) (h20 : n ≤ 20) (hA : AR a w m n) : AR a w' m n := by
  obtain ⟨a0, a1, a2, a3, a4, a5, a6, aj⟩ := hA
  have e : ∀ j, j < 7 → w' (ab_ m + j) = w (ab_ m + j) := fun j hj => h _ (Or.inr (Or.inr (by
    have e : (ab_ m + j - 72) % 47 = j := by unfold ab_; omega
    rw [e]
    omega)))
  refine ⟨by have := e 0 (by omega); rw [Nat.add_zero] at this; rw [this]; exact a0, by rw [e 1 (by omega)]; exact a1, by rw [e 2 (by omega)]; exact a2, by rw [e 3 (by omega)]; exact a3, by rw [e 4 (by omega)]; exact a4, by rw [e 5 (by omega)]; exact a5, by rw [e 6 (by omega)]; exact a6, fun j hj => ?_⟩
  rw [h _ (by unfold ab_; omega), h _ (by unfold ab_; omega)]
  exact aj j hj
theorem EQn.da (h : EQn w w' n) (hD : DA d w C R n) (hR6 : R ≤ 6) : DA d w' C R n := by
  obtain ⟨h1, h2, h3, h4⟩ := hD
  have h20 := h2.2.2.2.2.1
  refine ⟨h.ar (by omega) h20 h1, h.ai h2, fun r hr => ⟨h.ar (by omega) h20 (h3 r hr).1, h.ai (h3 r hr).2⟩, fun h7 => ?_⟩
  rw [h 21 (by omega)] at h7
  exact ⟨h.ar (by omega) h20 (h4 h7).1, h.ai (h4 h7).2⟩
theorem EQn.rb (h : EQn w w' n) (hB : RB d w R) : RB d w' R := hB.of (fun i hi => h i (by omega))
theorem EQn.rs (h : EQn w w' n) (hS : RS S w C R) : RS S w' C R := hS.of (fun _ _ => rfl) (fun i hi => h i (by unfold sI_ at hi; omega))
theorem hurts_p (hD : DA d (t 1) C R n) (hS : RS (sb_ d 1) (t 1) C R) (hB : RB d (t 1) R) (hrv : d 1 14 = t 1 21) (h20 : n < 20) (hq : q < C) : ∃ r0 z, r0 < R ∧ fX1_comingRule d = some (nI r0) ∧ fX8_hurts t (nI q) = some z ∧ mo_ t z.1 ∧ EQn (t 1) (z.1 1) n ∧ z.2 = hurt_f d n R r0 q := by
  have hR6 := hB.1.2.1
  have hw4 := hB.1.2.2.2
  have hth : ∀ m, m < 8 → th_ (t 1) R m = true → t 1 (ab_ m + 2) = nI n := fun m hm h => (hD.th hm h).2.2.2.1
  obtain ⟨t1, et, hmo, hw⟩ := comes_w (q := nI q) hw4 hR6 hth h20
  obtain ⟨r0, z, hr0, ec, ez, hmz, hwz, hzv⟩ := regretThen_w hD hS hB hrv h20 hq hw
  suffices h : wp_ (fX8_hurts t (nI q)) (fun x => mo_ t x.1 ∧ EQn (t 1) (x.1 1) n ∧ x.2 = hurt_f d n R r0 q) by
    obtain ⟨x, ex, h1, h2, h3⟩ := h
    exact ⟨r0, x, hr0, ec, ex, h1, h2, h3⟩
  unfold fX8_hurts
  refine wp_bne et (wp_bne ez ?_)
  unfold fX8_hurts_l12
  refine wp_bn (Q := fun s => mo_ t s ∧ s 1 = hc_ (t 1) (t1 1) R n 8) ?_ (fun s hs => ?_)
  · refine wp_up (fun k v => v.1 = nI k ∧ mo_ t v.2 ∧ v.2 1 = hc_ (t 1) (t1 1) R n k) 0 8 (by omega) (by omega) ⟨rfl, hmo.tr hmz, ?_⟩ (fun k v hk _ hv => ?_) (fun v hv => ?_)
    · dsimp only
      rw [hwz]
      funext i
      unfold hc_
      rw [if_neg (by omega)]
    · obtain ⟨v3, s⟩ := v
      obtain ⟨e, hms, hs⟩ := hv
      dsimp only at e hms hs
      subst e
      have hab := ab_b hk
      have s4 : s 1 4 = nI R := by
        rw [hs]
        unfold hc_
        rw [if_neg (by omega), hw, cw_out (by omega), hw4]
      have s21 : s 1 21 = t 1 21 := by
        rw [hs]
        unfold hc_
        rw [if_neg (by omega), hw, cw_out (by omega)]
      have eth : th_ (s 1) R k = th_ (t 1) R k := by
        unfold th_
        rw [s21]
      unfold fX8_hurts_b12
      dsimp only
      refine wp_if' (nI_ge (b := 8) hk (by omega)) (wp_bne (isThere_e s4 hR6 hk) ?_)
      rw [eth]
      by_cases hth2 : th_ (t 1) R k = true
      · have x2 : nI (ab_ k) + (2 : Int32) = nI (ab_ k + 2) := nI_add _ 2
        have y2 : ix_ (nI (ab_ k + 2)) = ab_ k + 2 := ix_n (by omega)
        have hcb := cw_cb (w := t 1) (q := nI q) hk hth2 h20
        have s2 : s 1 (ab_ k + 2) = nI (n + 1) := by
          rw [hs]
          unfold hc_
          rw [if_neg (by unfold ab_; omega), hw]
          exact hcb.1
        refine wp_if' (by rw [if_pos hth2]; decide) (wp_bne armAt_e ?_)
        simp only [x2, y2, s2]
        refine wp_gd (ib_n (by omega) (by omega)) (wp_gd (ib_n (by omega) (by omega)) (wp_bd (wp_l ⟨nI_1 k, hms.tr mo_p1, ?_⟩)))
        dsimp only
        funext i
        rw [nI_pred]
        by_cases hi : i = ab_ k + 2
        · subst hi
          rw [pt_a]
          unfold hc_ ab_
          rw [if_pos ⟨by omega, by omega, by omega, by rw [show (72 + 47 * k + 2 - 72) / 47 = k from by omega]; exact hth2, by omega⟩]
        · rw [pt_r hi, hs]
          unfold hc_
          unfold ab_ at hi hab
          by_cases hc : 72 ≤ i ∧ i < 448 ∧ (i - 72) / 47 < k ∧ th_ (t 1) R ((i - 72) / 47) = true ∧ (i - 72) % 47 = 2
          · have hc2 : 72 ≤ i ∧ i < 448 ∧ (i - 72) / 47 < k + 1 ∧ th_ (t 1) R ((i - 72) / 47) = true ∧ (i - 72) % 47 = 2 := ⟨hc.1, hc.2.1, by omega, hc.2.2.2⟩
            rw [if_pos hc, if_pos hc2]
          · rw [if_neg hc, if_neg (fun z => hc ⟨z.1, z.2.1, by omega, z.2.2.2⟩)]
      · refine wp_it (by rw [if_neg hth2]) (wp_l ⟨nI_1 k, hms, ?_⟩)
        dsimp only
        rw [hs]
        funext i
        unfold hc_
        by_cases hkk : (i - 72) / 47 = k
        · rw [if_neg (by omega), if_neg (fun z => hth2 (by rw [← hkk]; exact z.2.2.2.1))]
        · by_cases hc : 72 ≤ i ∧ i < 448 ∧ (i - 72) / 47 < k ∧ th_ (t 1) R ((i - 72) / 47) = true ∧ (i - 72) % 47 = 2
          · have hc2 : 72 ≤ i ∧ i < 448 ∧ (i - 72) / 47 < k + 1 ∧ th_ (t 1) R ((i - 72) / 47) = true ∧ (i - 72) % 47 = 2 := ⟨hc.1, hc.2.1, by omega, hc.2.2.2⟩
            rw [if_pos hc, if_pos hc2]
          · rw [if_neg hc, if_neg (fun z => hc ⟨z.1, z.2.1, by omega, z.2.2.2⟩)]
    · obtain ⟨v3, s⟩ := v
      obtain ⟨e, hms, hs⟩ := hv
      dsimp only at e hms hs
      subst e
      unfold fX8_hurts_b12
      exact wp_it (Int32.le_refl _) (wp_r ⟨hms, hs⟩)
  · obtain ⟨hms, hs⟩ := hs
    unfold fX8_hurts_k12 fX8_hurts_x12_47
    refine wp_s ⟨hms, fun i hi => ?_, hzv⟩
    dsimp only
    rw [hs]
    unfold hc_
    by_cases hc : 72 ≤ i ∧ i < 448 ∧ (i - 72) / 47 < 8 ∧ th_ (t 1) R ((i - 72) / 47) = true ∧ (i - 72) % 47 = 2
    · rw [if_pos hc]
      have h := hth _ hc.2.2.1 hc.2.2.2.1
      have e : ab_ ((i - 72) / 47) + 2 = i := by unfold ab_; omega
      rw [e] at h
      exact h.symm
    · rw [if_neg hc, hw]
      unfold cw_
      by_cases hc2 : 72 ≤ i ∧ i < 448 ∧ (i - 72) / 47 < 8 ∧ th_ (t 1) R ((i - 72) / 47) = true
      · rw [if_pos hc2, if_neg (fun z => hc ⟨hc2.1, hc2.2.1, hc2.2.2.1, hc2.2.2.2, z⟩), if_neg (by omega), if_neg (by omega)]
      · rw [if_neg hc2]
theorem worstOf_p (hD : DA d (t 1) C R n) (hS : RS (sb_ d 1) (t 1) C R) (hB : RB d (t 1) R) (hrv : d 1 14 = t 1 21) (h20 : n < 20) : ∃ r0 z, r0 < R ∧ fX1_comingRule d = some (nI r0) ∧ fX8_worstOf t = some z ∧ mo_ t z.1 ∧ EQn (t 1) (z.1 1) n ∧ z.2 = nI (wst (hurt_f d n R r0) (C - 1)) := by
  have hC2 := hS.1
  have hC := hS.2.1
  have hw0 := hS.2.2.2.1
  have hR6 := hB.1.2.1
  obtain ⟨r0, z0, hr0, ec, -, -, -, -⟩ := hurts_p (q := 0) hD hS hB hrv h20 (by omega)
  suffices h : wp_ (fX8_worstOf t) (fun x => mo_ t x.1 ∧ EQn (t 1) (x.1 1) n ∧ x.2 = nI (wst (hurt_f d n R r0) (C - 1))) by
    obtain ⟨x, ex, h1, h2, h3⟩ := h
    exact ⟨r0, x, hr0, ec, ex, h1, h2, h3⟩
  generalize hf : hurt_f d n R r0 = f
  unfold fX8_worstOf fX8_worstOf_l6
  refine wp_bn (Q := fun x => x.1 = nI (wst f (C - 1)) ∧ mo_ t x.2 ∧ EQn (t 1) (x.2 1) n) ?_ (fun x hx => wp_s ⟨hx.2.1, hx.2.2, hx.1⟩)
  refine wp_up (fun k v => v.2.2.1 = nI k ∧ mo_ t v.2.2.2 ∧ EQn (t 1) (v.2.2.2 1) n ∧ (k = 0 → v.1 = -1) ∧ (0 < k → v.1 = nI (wst f (k - 1)) ∧ v.2.1 = f (wst f (k - 1)))) 0 C (Nat.zero_le _) (by omega) ⟨rfl, mo_r, fun _ _ => rfl, fun _ => rfl, fun h => absurd h (Nat.lt_irrefl _)⟩ (fun k v hk _ hv => ?_) (fun v hv => ?_)
  · obtain ⟨v1, v2, v3, s⟩ := v
    obtain ⟨e, hmo, hE, hv0, hv1⟩ := hv
    dsimp only at e hmo hE hv0 hv1
    subst e
    have s0 : s 1 0 = nI C := by rw [hE 0 (by omega), hw0]
    obtain ⟨r1, z, hr1, ec1, ez, hmz, hEz, hzv⟩ := hurts_p (t := s) (q := k) (hE.da hD hR6) (hE.rs hS) (hE.rb hB) (by rw [hE 21 (by omega)]; exact hrv) h20 hk
    have er : r1 = r0 := by
      have h := ec1.symm.trans ec
      exact (nI_eq (by omega) (by omega)).mp (Option.some.inj h)
    subst er
    unfold fX8_worstOf_b6
    simp only [i0_]
    refine wp_gd b0_ (wp_if' (by rw [s0]; exact nI_ge hk (by omega)) (wp_bne ez ?_))
    rw [hf] at hzv
    by_cases hk0 : k = 0
    · subst hk0
      refine wp_it (hv0 rfl) (wp_l ⟨nI_1 0, hmo.tr hmz, hE.tr hEz, fun h => absurd h (by omega), fun _ => ⟨rfl, hzv⟩⟩)
    · obtain ⟨e1, e2⟩ := hv1 (by omega)
      have hb := wst_le (f := f) (k - 1)
      refine wp_if' (by rw [e1]; exact nI_ne1 (by omega)) ?_
      rw [e2, hzv, e1]
      obtain ⟨y, rfl⟩ : ∃ y, k = y + 1 := ⟨k - 1, by omega⟩
      rw [Nat.add_sub_cancel]
      refine wp_if (fun h => ?_) (fun h => ?_)
      · refine wp_l ⟨nI_1 _, hmo.tr hmz, hE.tr hEz, fun h => absurd h (by omega), fun _ => ?_⟩
        dsimp only
        rw [Nat.add_sub_cancel]
        rw [show wst f (y + 1) = y + 1 from by rw [wst, if_neg (Int32.not_le.mpr h)]]
        exact ⟨rfl, hzv⟩
      · refine wp_l ⟨nI_1 _, hmo.tr hmz, hE.tr hEz, fun h => absurd h (by omega), fun _ => ?_⟩
        dsimp only
        rw [Nat.add_sub_cancel]
        rw [show wst f (y + 1) = wst f y from by rw [wst, if_pos (Int32.not_lt.mp h)]]
        exact ⟨rfl, rfl⟩
  · obtain ⟨v1, v2, v3, s⟩ := v
    obtain ⟨e, hmo, hE, hv0, hv1⟩ := hv
    dsimp only at e hmo hE hv0 hv1
    subst e
    have s0 : s 1 0 = nI C := by rw [hE 0 (by omega), hw0]
    unfold fX8_worstOf_b6
    simp only [i0_]
    exact wp_gd b0_ (wp_it (by rw [s0]; exact Int32.le_refl _) (wp_r ⟨(hv1 (by omega)).1, hmo, hE⟩))
end WORST
