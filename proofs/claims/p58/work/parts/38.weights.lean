/-! weights are lost -/
def nw_ (wt eta cost W : Int32) : Int32 := Int64.toInt32 (if ((Int32.toInt64 wt) - ((((Int32.toInt64 wt) * (Int32.toInt64 eta)) * (Int32.toInt64 cost)) / ((1000 : Int64) * (Int32.toInt64 W)))) < (1 : Int64) then (1 : Int64) else ((Int32.toInt64 wt) - ((((Int32.toInt64 wt) * (Int32.toInt64 eta)) * (Int32.toInt64 cost)) / ((1000 : Int64) * (Int32.toInt64 W)))))
theorem nw_rg {wt eta cost W : Int32} (h1 : rg_ wt 1 1000000) (h2 : rg_ eta 1 500) (h3 : rg_ cost 0 9900) (h4 : rg_ W 1 9900) : rg_ (nw_ wt eta cost W) 1 1000000 := by
  obtain ⟨a, a1, a2, rfl⟩ := h1.ex
  obtain ⟨b, b1, b2, rfl⟩ := h2.ex
  obtain ⟨c, c1, c2, rfl⟩ := h3.ex
  obtain ⟨x, x1, x2, rfl⟩ := h4.ex
  unfold nw_
  rw [nI_l (by omega), nI_l (by omega), nI_l (by omega), nI_l (by omega)]
  have e : (1000 : Int64) * lN x = lN (1000 * x) := lN_mul 1000 x
  have hab : a * b ≤ 1000000 * 500 := Nat.mul_le_mul a2 b2
  have habc : a * b * c ≤ 1000000 * 500 * 9900 := Nat.mul_le_mul hab c2
  rw [e, lN_mul, lN_mul, pk_lDiv (by omega) (by omega) (by omega)]
  generalize hq : a * b * c / (1000 * x) = q
  rcases Nat.lt_or_ge q a with h | h
  · rw [lN_sub (by omega), if_neg (show ¬ lN (a - q) < 1 from fun z => by have := (pk_lLT (a := a - q) (b := 1) (by omega) (by omega)).mp z; omega), lN_i]
    exact rg_n (by omega) (by omega) (by omega)
  · have hq63 : q < 2 ^ 63 := by
      rw [← hq]
      have := Nat.div_le_self (a * b * c) (1000 * x)
      omega
    rw [if_pos]
    · exact rg_n (k := 1) (by omega) (by omega) (by omega)
    · apply Int64.lt_iff_toInt_lt.mpr
      have e1 : (1 : Int64).toInt = 1 := by decide
      have ea : (lN a).toInt = (a : Int) := pk_lT (by omega)
      have eq : (lN q).toInt = (q : Int) := pk_lT hq63
      rw [e1, Int64.toInt_sub, ea, eq, Int.bmod_def]
      omega
def gmx (f : Nat → Int32) : Nat → Int32
  | 0 => 0
  | k + 1 => if gmx f k < f k then f k else gmx f k
theorem gmx_ge {f : Nat → Int32} : ∀ k r, r < k → f r ≤ gmx f k
  | k + 1, r, h => by
    unfold gmx
    by_cases hk : gmx f k < f k
    · rw [if_pos hk]
      rcases Nat.lt_or_ge r k with h2 | h2
      · exact Int32.le_trans (gmx_ge k r h2) (Int32.le_of_lt hk)
      · have e : r = k := by omega
        subst e
        exact Int32.le_refl _
    · rw [if_neg hk]
      rcases Nat.lt_or_ge r k with h2 | h2
      · exact gmx_ge k r h2
      · have e : r = k := by omega
        subst e
        exact Int32.not_lt.mp hk
def fw_ (f : Nat → Int32) (R r : Nat) : Int32 := if 1000 ≤ gmx f R then f r else f r * 1000
theorem fw_rg {f : Nat → Int32} {R r : Nat} (hr : r < R) (hf : ∀ r, r < R → rg_ (f r) 1 1000000) : rg_ (fw_ f R r) 1 1000000 := by
  unfold fw_
  by_cases h : (1000 : Int32) ≤ gmx f R
  · rw [if_pos h]
    exact hf r hr
  · rw [if_neg h]
    obtain ⟨x, x1, x2, hx⟩ := (hf r hr).ex
    have h1 := gmx_ge (f := f) R r hr
    have h2 : f r < 1000 := Int32.lt_of_le_of_lt h1 (Int32.not_le.mp h)
    rw [hx] at h2
    have h3 : x < 1000 := (nI_ltI (b := 1000) (by omega) (by omega)).mp h2
    rw [hx]
    show rg_ (nI x * nI 1000) 1 1000000
    rw [pk_mul]
    exact rg_n (by omega) (by omega) (by omega)
section LOSE
variable {d t : st_} {C R : Nat} {W : Int32} {f : Nat → Int32}
theorem loseWeights_w (hR : d 1 4 = nI R) (h6 : R ≤ 6) (hC : d 1 0 = nI C) (hC2 : 2 ≤ C) (hC100 : C ≤ 100) (hW : pr_ (d 1 2) (d 1 3) 0 (C - 1) = W) (hWr : rg_ W 1 9900) (hf : ∀ r, r < R → f r = nw_ (d 12 r) (d 1 9) (d (3 * r + 15) 9) W) : wp_ (fX1_loseWeights d) (fun d' => (∀ o, o ≠ 12 → d' o = d o) ∧ ∀ r, r < R → d' 12 r = fw_ f R r) := by
  unfold fX1_loseWeights
  have e1 : nI C - (1 : Int32) = nI (C - 1) := pk_sub (b := 1) (by omega)
  rw [hC, e1]
  obtain ⟨x, x1, x2, hx⟩ := hWr.ex
  have hpos : (0 : Int64) < (1000 : Int64) * Int32.toInt64 W := by
    rw [hx, nI_l (by omega)]
    show lN 0 < lN 1000 * lN x
    rw [lN_mul]
    exact (pk_lLT (by omega) (by omega)).mpr (by omega)
  have hnz : nzl_ ((1000 : Int64) * Int32.toInt64 W) = true := by
    unfold nzl_
    refine decide_eq_true (fun z => ?_)
    rw [z] at hpos
    exact absurd hpos (by decide)
  refine wp_bne (show fX5_priceOf (sb_ d 1) (0 : Int32) (nI (C - 1)) = some W from by rw [← hW]; exact price_e (S := sb_ d 1) (c := 0) (by omega) (by omega)) ?_
  refine wp_it ((lg_cmp_gt _ _).mpr hpos) ?_
  unfold fX1_loseWeights_l35
  refine wp_bn (Q := fun x => x.1 = gmx f R ∧ (∀ o, o ≠ 12 → x.2 o = d o) ∧ ∀ r, x.2 12 r = if r < R then f r else d 12 r) ?_ (fun y hy => ?_)
  · refine wp_up (fun k v => v.2.1 = nI k ∧ v.1 = gmx f k ∧ (∀ o, o ≠ 12 → v.2.2 o = d o) ∧ ∀ r, v.2.2 12 r = if r < k then f r else d 12 r) 0 R (Nat.zero_le _) (by omega) ⟨rfl, rfl, fun _ _ => rfl, fun r => by rw [if_neg (by omega)]⟩ (fun k v hk _ hv => ?_) (fun v hv => ?_)
    · obtain ⟨v3, v4, s⟩ := v
      obtain ⟨e, e3, ho, hs⟩ := hv
      dsimp only at e e3 ho hs
      subst e e3
      have i1 : ix_ (nI k) = k := ix_n (by omega)
      have q1 : s 12 k = d 12 k := by rw [hs, if_neg (by omega)]
      have q2 : s 1 9 = d 1 9 := by rw [ho 1 (by decide)]
      have q3 : s (3 * k + 15) 9 = d (3 * k + 15) 9 := by rw [ho _ (by omega)]
      unfold fX1_loseWeights_b35
      simp only [i1, q1, q2, q3]
      refine wp_if' (by rw [ho 1 (by decide), hR]; exact nI_ge hk (by omega)) (wp_gd (ib_n (by omega) (by omega)) (wp_gd (ib_n (by omega) (by omega)) (wp_gd hnz (wp_gd (ib_n (by omega) (by omega)) (wp_gd (ib_n (by omega) (by omega)) (wp_bd (wp_gd (ib_n (by omega) (by omega)) ?_)))))))
      rw [pt_a]
      have e : nw_ (d 12 k) (d 1 9) (d (3 * k + 15) 9) W = f k := (hf k hk).symm
      unfold nw_ at e
      rw [e]
      refine wp_l ⟨nI_1 k, rfl, fun o ho2 => ?_, fun r => ?_⟩
      · show pt_ s 12 k (f k) o = _
        rw [pt_o ho2]
        exact ho o ho2
      · show pt_ s 12 k (f k) 12 r = _
        by_cases hr : r = k
        · subst hr
          rw [pt_a, if_pos (by omega)]
        · rw [pt_r hr, hs]
          by_cases h : r < k
          · rw [if_pos h, if_pos (by omega)]
          · rw [if_neg h, if_neg (by omega)]
    · obtain ⟨v3, v4, s⟩ := v
      obtain ⟨e, e3, ho, hs⟩ := hv
      dsimp only at e e3 ho hs
      subst e e3
      unfold fX1_loseWeights_b35
      dsimp only
      exact wp_it (by rw [ho 1 (by decide), hR]; exact Int32.le_refl _) (wp_r ⟨rfl, ho, hs⟩)
  · obtain ⟨y1, s0⟩ := y
    obtain ⟨e, ho, hs⟩ := hy
    dsimp only at e ho hs
    subst e
    unfold fX1_loseWeights_k35 fX1_loseWeights_x35_121 fX1_loseWeights_l124
    dsimp only
    refine wp_bn (Q := fun z => (∀ o, o ≠ 12 → z o = d o) ∧ ∀ r, r < R → z 12 r = fw_ f R r) ?_ (fun z hz => wp_s hz)
    by_cases hg : (1000 : Int32) ≤ gmx f R
    · refine wp_lo (fun m v => m = 0 ∧ v = ((0 : Int32), s0)) FU_ 0 _ (Nat.le_of_ble_eq_true rfl) ⟨rfl, rfl⟩ (fun m v _ hv => ?_)
      obtain ⟨-, rfl⟩ := hv
      unfold fX1_loseWeights_b124
      have fin : (∀ o, o ≠ 12 → s0 o = d o) ∧ ∀ r, r < R → s0 12 r = fw_ f R r := ⟨ho, fun r hr => by
        rw [hs, if_pos hr]
        unfold fw_
        rw [if_pos hg]⟩
      refine wp_if (fun _ => wp_r fin) (fun _ => wp_it hg (wp_r fin))
    · refine wp_up (fun k v => v.1 = nI k ∧ (∀ o, o ≠ 12 → v.2 o = d o) ∧ ∀ r, r < R → v.2 12 r = if r < k then fw_ f R r else f r) 0 R (Nat.zero_le _) (by omega) ⟨rfl, ho, fun r hr => by dsimp only; rw [if_neg (by omega), hs, if_pos hr]⟩ (fun k v hk _ hv => ?_) (fun v hv => ?_)
      · obtain ⟨v4, s⟩ := v
        obtain ⟨e, ho2, hs2⟩ := hv
        dsimp only at e ho2 hs2
        subst e
        have i1 : ix_ (nI k) = k := ix_n (by omega)
        have q1 : s 12 k = f k := by rw [hs2 k hk, if_neg (by omega)]
        unfold fX1_loseWeights_b124
        simp only [i1, q1]
        refine wp_if' (by rw [ho2 1 (by decide), hR]; exact nI_ge hk (by omega)) (wp_if' hg (wp_gd (ib_n (by omega) (by omega)) (wp_gd (ib_n (by omega) (by omega)) (wp_bd (wp_l ⟨nI_1 k, fun o h => ?_, fun r hr => ?_⟩)))))
        · show pt_ s 12 k _ o = _
          rw [pt_o h]
          exact ho2 o h
        · show pt_ s 12 k (f k * 1000) 12 r = _
          by_cases hrk : r = k
          · subst hrk
            rw [pt_a, if_pos (by omega)]
            unfold fw_
            rw [if_neg hg]
          · rw [pt_r hrk, hs2 r hr]
            by_cases h : r < k
            · rw [if_pos h, if_pos (by omega)]
            · rw [if_neg h, if_neg (by omega)]
      · obtain ⟨v4, s⟩ := v
        obtain ⟨e, ho2, hs2⟩ := hv
        dsimp only at e ho2 hs2
        subst e
        unfold fX1_loseWeights_b124
        dsimp only
        exact wp_it (by rw [ho2 1 (by decide), hR]; exact Int32.le_refl _) (wp_r ⟨ho2, fun r hr => by rw [hs2 r hr, if_pos hr]⟩)
theorem weighs_w {T : Nat} (hR : t 1 4 = nI R) (h6 : R ≤ 6) (hW : t 1 2 + t 1 3 * (t 1 0 - 1) = W) (hWr : rg_ W 1 9900) (hT : t 1 16 = nI T) (hT2 : T < 1200) (hf : ∀ r, r < R → f r = nw_ (t 1 (26 + 5 * r + 2)) (t 1 7) (t 1 (2948 + 1200 * r + T)) W) : wp_ (fX8_weighs t) (fun t' => mo_ t t' ∧ (∀ r, r < R → t' 1 (26 + 5 * r + 2) = fw_ f R r) ∧ ∀ i, (∀ r, r < R → i ≠ 26 + 5 * r + 2) → t' 1 i = t 1 i) := by
  obtain ⟨x, x1, x2, hx⟩ := hWr.ex
  have hnz : nzl_ ((1000 : Int64) * Int32.toInt64 W) = true := by
    unfold nzl_
    refine decide_eq_true (fun z => ?_)
    rw [hx, nI_l (by omega)] at z
    have z2 : lN (1000 * x) = lN 0 := by rw [← lN_mul]; exact z
    have := (pk_lEQ (by omega) (by omega)).mp z2
    omega
  unfold fX8_weighs
  refine wp_gd b2_ (wp_gd b3_ (wp_gd b0_ ?_))
  unfold fX8_weighs_l29
  refine wp_bn (Q := fun x => x.1 = gmx f R ∧ mo_ t x.2 ∧ ∀ i, x.2 1 i = if 26 ≤ i ∧ i < 56 ∧ (i - 26) % 5 = 2 ∧ (i - 26) / 5 < R then f ((i - 26) / 5) else t 1 i) ?_ (fun y hy => ?_)
  · refine wp_up (fun k v => v.2.1 = nI k ∧ v.1 = gmx f k ∧ mo_ t v.2.2 ∧ ∀ i, v.2.2 1 i = if 26 ≤ i ∧ i < 56 ∧ (i - 26) % 5 = 2 ∧ (i - 26) / 5 < k then f ((i - 26) / 5) else t 1 i) 0 R (Nat.zero_le _) (by omega) ⟨rfl, rfl, mo_r, fun i => by rw [if_neg (by omega)]⟩ (fun k v hk _ hv => ?_) (fun v hv => ?_)
    · obtain ⟨v3, v4, s⟩ := v
      obtain ⟨e, e3, hmo, hs⟩ := hv
      dsimp only at e e3 hmo hs
      subst e e3
      have xi : (26 : Int32) + (5 : Int32) * nI k + (2 : Int32) = nI (26 + 5 * k + 2) := by
        show nI 26 + nI 5 * nI k + nI 2 = _
        rw [pk_mul, nI_add, nI_add]
      have xc : (2948 : Int32) + (1200 : Int32) * nI k + nI T = nI (2948 + 1200 * k + T) := by
        show nI 2948 + nI 1200 * nI k + nI T = _
        rw [pk_mul, nI_add, nI_add]
      have yi : ix_ (nI (26 + 5 * k + 2)) = 26 + 5 * k + 2 := ix_n (by omega)
      have yc : ix_ (nI (2948 + 1200 * k + T)) = 2948 + 1200 * k + T := ix_n (by omega)
      have q16 : s 1 16 = nI T := by rw [hs, if_neg (by omega), hT]
      have q4 : s 1 4 = nI R := by rw [hs, if_neg (by omega), hR]
      have q7 : s 1 7 = t 1 7 := by rw [hs, if_neg (by omega)]
      have qw : s 1 (26 + 5 * k + 2) = t 1 (26 + 5 * k + 2) := by rw [hs, if_neg (by omega)]
      have qc : s 1 (2948 + 1200 * k + T) = t 1 (2948 + 1200 * k + T) := by rw [hs, if_neg (by omega)]
      unfold fX8_weighs_b29
      simp only [i4_, i7_, i16_, i2_, i3_, i0_, q16, xi, xc, yi, yc, q7, qc]
      rw [hW]
      refine wp_gd b4_ (wp_if' (by rw [q4]; exact nI_ge hk (by omega)) (wp_bne (of_2 (by omega)) (wp_gd b7_ (wp_gd b16_ (wp_gd (ib_n (by omega) (by omega)) (wp_gd hnz (wp_gd (ib_n (by omega) (by omega)) (wp_bd ?_))))))))
      rw [qw]
      have e : nw_ (t 1 (26 + 5 * k + 2)) (t 1 7) (t 1 (2948 + 1200 * k + T)) W = f k := (hf k hk).symm
      unfold nw_ at e
      rw [e]
      refine wp_bne (of_2 (by omega)) ?_
      rw [pt_a]
      refine wp_l ⟨nI_1 k, rfl, hmo.tr mo_p1, fun i => ?_⟩
      dsimp only
      by_cases hi : i = 26 + 5 * k + 2
      · subst hi
        rw [pt_a, if_pos (by omega)]
        congr 1
        omega
      · rw [pt_r hi, hs]
        by_cases hc : 26 ≤ i ∧ i < 56 ∧ (i - 26) % 5 = 2 ∧ (i - 26) / 5 < k
        · rw [if_pos hc, if_pos (by omega)]
        · rw [if_neg hc, if_neg (by omega)]
    · obtain ⟨v3, v4, s⟩ := v
      obtain ⟨e, e3, hmo, hs⟩ := hv
      dsimp only at e e3 hmo hs
      subst e e3
      have q4 : s 1 4 = nI R := by rw [hs, if_neg (by omega), hR]
      unfold fX8_weighs_b29
      simp only [i4_]
      exact wp_gd b4_ (wp_it (by rw [q4]; exact Int32.le_refl _) (wp_r ⟨rfl, hmo, hs⟩))
  · obtain ⟨y1, s0⟩ := y
    obtain ⟨e, hmo, hs⟩ := hy
    dsimp only at e hmo hs
    subst e
    unfold fX8_weighs_k29 fX8_weighs_x29_136 fX8_weighs_l139
    dsimp only
    have out : ∀ s : st_, (∀ i, s 1 i = if 26 ≤ i ∧ i < 56 ∧ (i - 26) % 5 = 2 ∧ (i - 26) / 5 < R then fw_ f R ((i - 26) / 5) else t 1 i) → (∀ r, r < R → s 1 (26 + 5 * r + 2) = fw_ f R r) ∧ ∀ i, (∀ r, r < R → i ≠ 26 + 5 * r + 2) → s 1 i = t 1 i := fun s h => by
      refine ⟨fun r hr => ?_, fun i hi => ?_⟩
      · rw [h, if_pos (by omega)]
        congr 1
        omega
      · rw [h, if_neg (fun z => hi ((i - 26) / 5) z.2.2.2 (by omega))]
    refine wp_bn (Q := fun z => mo_ t z ∧ (∀ r, r < R → z 1 (26 + 5 * r + 2) = fw_ f R r) ∧ ∀ i, (∀ r, r < R → i ≠ 26 + 5 * r + 2) → z 1 i = t 1 i) ?_ (fun z hz => wp_s hz)
    by_cases hg : (1000 : Int32) ≤ gmx f R
    · refine wp_lo (fun m v => m = 0 ∧ v = ((0 : Int32), s0)) FU_ 0 _ (Nat.le_of_ble_eq_true rfl) ⟨rfl, rfl⟩ (fun m v _ hv => ?_)
      obtain ⟨-, rfl⟩ := hv
      unfold fX8_weighs_b139
      have fin := out s0 (fun i => by
        rw [hs]
        by_cases hc : 26 ≤ i ∧ i < 56 ∧ (i - 26) % 5 = 2 ∧ (i - 26) / 5 < R
        · rw [if_pos hc, if_pos hc]
          unfold fw_
          rw [if_pos hg]
        · rw [if_neg hc, if_neg hc])
      refine wp_gd b4_ (wp_if (fun _ => wp_r ⟨hmo, fin⟩) (fun _ => wp_it hg (wp_r ⟨hmo, fin⟩)))
    · refine wp_up (fun k v => v.1 = nI k ∧ mo_ t v.2 ∧ ∀ i, v.2 1 i = if 26 ≤ i ∧ i < 56 ∧ (i - 26) % 5 = 2 ∧ (i - 26) / 5 < R then (if (i - 26) / 5 < k then fw_ f R ((i - 26) / 5) else f ((i - 26) / 5)) else t 1 i) 0 R (Nat.zero_le _) (by omega) ⟨rfl, hmo, fun i => by dsimp only; rw [hs, if_neg (show ¬ (i - 26) / 5 < 0 by omega)]⟩ (fun k v hk _ hv => ?_) (fun v hv => ?_)
      · obtain ⟨v4, s⟩ := v
        obtain ⟨e, hmo2, hs2⟩ := hv
        dsimp only at e hmo2 hs2
        subst e
        have xi : (26 : Int32) + (5 : Int32) * nI k + (2 : Int32) = nI (26 + 5 * k + 2) := by
          show nI 26 + nI 5 * nI k + nI 2 = _
          rw [pk_mul, nI_add, nI_add]
        have yi : ix_ (nI (26 + 5 * k + 2)) = 26 + 5 * k + 2 := ix_n (by omega)
        have q4 : s 1 4 = nI R := by rw [hs2, if_neg (by omega), hR]
        have ek : (26 + 5 * k + 2 - 26) / 5 = k := by omega
        have qw : s 1 (26 + 5 * k + 2) = f k := by rw [hs2, if_pos (by omega), ek, if_neg (Nat.lt_irrefl _)]
        unfold fX8_weighs_b139
        simp only [i4_, xi, yi, qw]
        refine wp_gd b4_ (wp_if' (by rw [q4]; exact nI_ge hk (by omega)) (wp_if' hg (wp_gd (ib_n (by omega) (by omega)) (wp_gd (ib_n (by omega) (by omega)) (wp_bd (wp_l ⟨nI_1 k, hmo2.tr mo_p1, fun i => ?_⟩))))))
        dsimp only
        by_cases hi : i = 26 + 5 * k + 2
        · subst hi
          rw [pt_a, if_pos (by omega), ek, if_pos (by omega)]
          unfold fw_
          rw [if_neg hg]
        · rw [pt_r hi, hs2]
          by_cases hc : 26 ≤ i ∧ i < 56 ∧ (i - 26) % 5 = 2 ∧ (i - 26) / 5 < R
          · rw [if_pos hc, if_pos hc]
            by_cases h : (i - 26) / 5 < k
            · rw [if_pos h, if_pos (by omega)]
            · rw [if_neg h, if_neg (by omega)]
          · rw [if_neg hc, if_neg hc]
      · obtain ⟨v4, s⟩ := v
        obtain ⟨e, hmo2, hs2⟩ := hv
        dsimp only at e hmo2 hs2
        subst e
        have q4 : s 1 4 = nI R := by rw [hs2, if_neg (by omega), hR]
        unfold fX8_weighs_b139
        simp only [i4_]
        refine wp_gd b4_ (wp_it (by rw [q4]; exact Int32.le_refl _) (wp_r ⟨hmo2, out s (fun i => ?_)⟩))
        rw [hs2]
        by_cases hc : 26 ≤ i ∧ i < 56 ∧ (i - 26) % 5 = 2 ∧ (i - 26) / 5 < R
        · rw [if_pos hc, if_pos hc, if_pos hc.2.2.2]
        · rw [if_neg hc, if_neg hc]
end LOSE
