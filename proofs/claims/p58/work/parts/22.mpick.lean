/-! the reference's row: accessors; its searches -/
def ab_ (m : Nat) : Nat := 72 + 47 * m
theorem ab_b {m : Nat} (h : m < 8) : 72 ≤ ab_ m ∧ ab_ m + 47 ≤ 448 := by unfold ab_; omega
theorem pt_pt {s : st_} {o j : Nat} {x y : Int32} : pt_ (pt_ s o j x) o j y = pt_ s o j y := by
  funext q r
  rw [pt_ap, pt_ap, pt_ap]
  by_cases h : q = o
  · by_cases h2 : r = j
    · simp [h, h2]
    · simp [h, h2]
  · simp [h]
section MROW
variable {t : st_} {m k c q : Nat}
theorem of_e {r j : Nat} (hr : r < 6) (hj : j < 5) : fX8_of t (nI r) (nI j) = some (t 1 (26 + 5 * r + j)) := by
  show gd_ (ib_ ((nI 26 + nI 5 * nI r) + nI j) 12584) (some (t 1 (ix_ ((nI 26 + nI 5 * nI r) + nI j)))) = _
  rw [pk_mul, nI_add, nI_add, gd_t (ib_n (by omega) (by omega)), ix_n (by omega)]
theorem of_0 {r : Nat} (hr : r < 6) : fX8_of t (nI r) (0 : Int32) = some (t 1 (26 + 5 * r)) := of_e (j := 0) hr (by omega)
theorem of_1 {r : Nat} (hr : r < 6) : fX8_of t (nI r) (1 : Int32) = some (t 1 (26 + 5 * r + 1)) := of_e (j := 1) hr (by omega)
theorem of_2 {r : Nat} (hr : r < 6) : fX8_of t (nI r) (2 : Int32) = some (t 1 (26 + 5 * r + 2)) := of_e (j := 2) hr (by omega)
theorem armAt_e : fX8_armAt (nI m) = some (nI (ab_ m)) := by
  show some (nI 72 + nI 47 * nI m) = some (nI (72 + 47 * m))
  rw [pk_mul, nI_add]
theorem armOf_e {j : Nat} (hm : m < 8) (hj : j < 47) : fX8_armOf t (nI m) (nI j) = some (t 1 (ab_ m + j)) := by
  have hab := ab_b hm
  unfold fX8_armOf
  rw [bn_e armAt_e, nI_add, gd_t (ib_n (by omega) (by omega)), ix_n (by omega)]
theorem armOf_0 (hm : m < 8) : fX8_armOf t (nI m) (0 : Int32) = some (t 1 (ab_ m)) := armOf_e (j := 0) hm (by omega)
theorem armOf_1 (hm : m < 8) : fX8_armOf t (nI m) (1 : Int32) = some (t 1 (ab_ m + 1)) := armOf_e (j := 1) hm (by omega)
theorem armOf_2 (hm : m < 8) : fX8_armOf t (nI m) (2 : Int32) = some (t 1 (ab_ m + 2)) := armOf_e (j := 2) hm (by omega)
theorem armOf_3 (hm : m < 8) : fX8_armOf t (nI m) (3 : Int32) = some (t 1 (ab_ m + 3)) := armOf_e (j := 3) hm (by omega)
theorem cylOf_e (hm : m < 8) (hk : k < 20) : fX8_cylinderOf t (nI m) (nI k) = some (t 1 (ab_ m + 7 + 2 * k)) := by
  have hab := ab_b hm
  unfold fX8_cylinderOf
  rw [bn_e armAt_e]
  show gd_ (ib_ ((nI (ab_ m) + nI 7) + nI 2 * nI k) 12584) (some (t 1 (ix_ ((nI (ab_ m) + nI 7) + nI 2 * nI k)))) = _
  rw [pk_mul, nI_add, nI_add, gd_t (ib_n (by omega) (by omega)), ix_n (by omega)]
theorem farOf_e (hm : m < 8) (hk : k < 20) (hc : t 1 (ab_ m) = nI c) (hq : t 1 (ab_ m + 7 + 2 * k) = nI q) (h1 : c < 100) (h2 : q < 100) : fX8_farOf t (nI m) (nI k) = some (nI (ds_ c q)) := by
  unfold fX8_farOf
  rw [bn_e (cylOf_e hm hk), bn_e (armOf_0 hm), hc, hq, abs_ds (by omega) (by omega)]
end MROW
/-- an arm of the reference's row: where it stands, how many wait, for which cylinders -/
def AW (w : Nat → Int32) (m c n : Nat) (Q : Nat → Nat) : Prop := m < 8 ∧ w (ab_ m) = nI c ∧ w (ab_ m + 2) = nI n ∧ n ≤ 20 ∧ c < 100 ∧ ∀ j, j < n → w (ab_ m + 7 + 2 * j) = nI (Q j) ∧ Q j < 100
theorem k1_lt {c q q' : Nat} : k1_ c q < k1_ c q' ↔ ds_ c q < ds_ c q' ∨ (ds_ c q = ds_ c q' ∧ q < q') := by
  unfold k1_ ds_
  split <;> split <;> omega
section MPICK
variable {t : st_} {m c n : Nat} {Q : Nat → Nat} {i1 wd : Int32} {p : Nat → Prop}
theorem near_j95 {v3 v4 : Int32} : fX8_nearestOn_j95 v3 v4 = some (.inl (v4, v4 + 1)) := by
  unfold fX8_nearestOn_j95 fX8_nearestOn_j100
  rw [if_neg (by decide)]
  rfl
theorem near_j99 {v3 v4 : Int32} : fX8_nearestOn_j99 v3 v4 = some (.inl (v3, v4 + 1)) := by
  unfold fX8_nearestOn_j99 fX8_nearestOn_j100
  rw [if_pos rfl]
  rfl
theorem near_w (A : AW (t 1) m c n Q) (hp : ∀ j, j < n → ((0 : Int32) ≤ (nI (Q j) - nI c) * i1 ↔ p j)) : wp_ (fX8_nearestOn t (nI m) i1) (fun i => (i = -1 ∧ ∀ j, j < n → ¬ p j) ∨ ∃ k, i = nI k ∧ fmp_ p (fun j => k1_ c (Q j)) n k) := by
  obtain ⟨hm, hc, hn, h20, h1, hQ⟩ := A
  unfold fX8_nearestOn fX8_nearestOn_l5
  refine wp_bn (Q := fun i => (i = -1 ∧ ∀ j, j < n → ¬ p j) ∨ ∃ k, i = nI k ∧ fmp_ p (fun j => k1_ c (Q j)) n k) ?_ (fun i hi => wp_s hi)
  refine wp_up (fun k v => v.2 = nI k ∧ ((v.1 = -1 ∧ ∀ j, j < k → ¬ p j) ∨ ∃ mm, v.1 = nI mm ∧ fmp_ p (fun j => k1_ c (Q j)) k mm)) 0 n (Nat.zero_le _) (by omega) ⟨rfl, Or.inl ⟨rfl, fun j hj => absurd hj (Nat.not_lt_zero _)⟩⟩ (fun k v hkn _ hv => ?_) (fun v hv => ?_)
  · obtain ⟨v3, v4⟩ := v
    obtain ⟨e5, hmm⟩ := hv
    dsimp only at e5 hmm
    subst e5
    unfold fX8_nearestOn_b5
    obtain ⟨hqe, hq⟩ := hQ k hkn
    refine wp_bne (armOf_2 hm) ?_
    refine wp_if' (by rw [hn]; exact nI_ge (by omega) (by omega)) ?_
    refine wp_bne (cylOf_e hm (by omega)) (wp_bne (armOf_0 hm) ?_)
    rw [hqe, hc]
    by_cases hpk : p k
    · refine wp_it ((hp k hkn).mpr hpk) ?_
      rcases hmm with ⟨e, hno⟩ | ⟨mm, e, hf⟩
      · refine wp_it e ?_
        rw [near_j95]
        exact wp_l ⟨nI_1 k, Or.inr ⟨k, rfl, fmp_1 hno hpk⟩⟩
      · have hmk := hf.1
        obtain ⟨hqe', hq'⟩ := hQ mm (by omega)
        have f1 := farOf_e (t := t) hm (by omega : k < 20) hc hqe h1 hq
        have f2 := farOf_e (t := t) hm (by omega : mm < 20) hc hqe' h1 hq'
        have d1 : ds_ c (Q k) < 100 := by unfold ds_; omega
        have d2 : ds_ c (Q mm) < 100 := by unfold ds_; omega
        refine wp_if' (by rw [e]; exact nI_ne1 (by omega)) ?_
        rw [e]
        refine wp_bne f1 (wp_bne f2 ?_)
        rcases Nat.lt_or_ge (ds_ c (Q k)) (ds_ c (Q mm)) with h | h
        · refine wp_it (nI_lt h (by omega)) ?_
          rw [near_j95]
          exact wp_l ⟨nI_1 k, Or.inr ⟨k, rfl, fmp_take hf hpk (k1_lt.mpr (Or.inl h))⟩⟩
        · refine wp_if' (nI_nlt h (by omega)) (wp_bne f1 (wp_bne f2 ?_))
          by_cases he : ds_ c (Q k) = ds_ c (Q mm)
          · refine wp_it (by rw [he]) (wp_bne (cylOf_e hm (by omega)) (wp_bne (cylOf_e hm (by omega)) ?_))
            rw [hqe, hqe']
            rcases Nat.lt_or_ge (Q k) (Q mm) with h3 | h3
            · refine wp_if' (nI_ge h3 (by omega)) ?_
              rw [near_j95]
              exact wp_l ⟨nI_1 k, Or.inr ⟨k, rfl, fmp_take hf hpk (k1_lt.mpr (Or.inr ⟨he, h3⟩))⟩⟩
            · refine wp_it (nI_le h3 (by omega)) ?_
              rw [near_j99]
              exact wp_l ⟨nI_1 k, Or.inr ⟨mm, rfl, fmp_keep hf (fun _ => Nat.not_lt.mp (fun z => by
                rcases k1_lt.mp z with a | ⟨a, b⟩ <;> omega))⟩⟩
          · refine wp_if' (fun z => he ((nI_eq (by omega) (by omega)).mp z)) ?_
            rw [near_j99]
            exact wp_l ⟨nI_1 k, Or.inr ⟨mm, rfl, fmp_keep hf (fun _ => Nat.not_lt.mp (fun z => by
              rcases k1_lt.mp z with a | ⟨a, b⟩ <;> omega))⟩⟩
    · refine wp_if' (fun z => hpk ((hp k hkn).mp z)) ?_
      refine wp_l ⟨nI_1 k, ?_⟩
      rcases hmm with ⟨e, hno⟩ | ⟨mm, e, hf⟩
      · refine Or.inl ⟨e, fun j hj => ?_⟩
        rcases Nat.lt_or_ge j k with h | h
        · exact hno j h
        · have ej : j = k := by omega
          rw [ej]; exact hpk
      · exact Or.inr ⟨mm, e, fmp_keep hf (fun z => absurd z hpk)⟩
  · obtain ⟨v3, v4⟩ := v
    obtain ⟨e5, hmm⟩ := hv
    dsimp only at e5 hmm
    subst e5
    unfold fX8_nearestOn_b5
    exact wp_bne (armOf_2 hm) (wp_it (by rw [hn]; exact Int32.le_refl _) (wp_r hmm))
theorem low_w (A : AW (t 1) m c n Q) (h0 : 0 < n) : wp_ (fX8_lowestOf t (nI m)) (fun i => ∃ k, i = nI k ∧ fm_ Q n k) := by
  obtain ⟨hm, hc, hn, h20, h1, hQ⟩ := A
  unfold fX8_lowestOf fX8_lowestOf_l4
  refine wp_bn (Q := fun i => ∃ k, i = nI k ∧ fm_ Q n k) ?_ (fun i hi => wp_s hi)
  refine wp_up (fun k v => v.2 = nI k ∧ ∃ mm, v.1 = nI mm ∧ fm_ Q k mm) 1 n h0 (by omega) ⟨rfl, 0, rfl, fm_0⟩ (fun k v hkn _ hv => ?_) (fun v hv => ?_)
  · obtain ⟨v3, v4⟩ := v
    obtain ⟨e5, mm, e, hf⟩ := hv
    dsimp only at e5 e
    subst e5 e
    have hmk := hf.1
    unfold fX8_lowestOf_b4
    refine wp_bne (armOf_2 hm) ?_
    refine wp_if' (by rw [hn]; exact nI_ge (by omega) (by omega)) ?_
    refine wp_bne (cylOf_e hm (by omega)) (wp_bne (cylOf_e hm (by omega)) ?_)
    obtain ⟨q1, q2⟩ := hQ k hkn
    obtain ⟨q3, q4⟩ := hQ mm (by omega)
    rw [q1, q3]
    rcases Nat.lt_or_ge (Q k) (Q mm) with h | h
    · exact wp_if' (nI_ge h (by omega)) (wp_l ⟨nI_1 k, k, rfl, fm_take hf h⟩)
    · exact wp_it (nI_le h (by omega)) (wp_l ⟨nI_1 k, mm, rfl, fm_keep hf h⟩)
  · obtain ⟨v3, v4⟩ := v
    obtain ⟨e5, hmm⟩ := hv
    dsimp only at e5 hmm
    subst e5
    unfold fX8_lowestOf_b4
    exact wp_bne (armOf_2 hm) (wp_it (by rw [hn]; exact Int32.le_refl _) (wp_r hmm))
theorem within_w (A : AW (t 1) m c n Q) (h0 : 0 < n) : wp_ (fX8_within t (nI m) wd) (fun i => ∃ k, i = nI k ∧ fm_ (fun j => if wd < nI (ds_ c (Q j)) then 1000 else 0) n k) := by
  obtain ⟨hm, hc, hn, h20, h1, hQ⟩ := A
  unfold fX8_within fX8_within_l2
  refine wp_bn (Q := fun i => ∃ k, k ≤ n ∧ i = nI k ∧ (∀ j, j < k → wd < nI (ds_ c (Q j))) ∧ (k < n → ¬ wd < nI (ds_ c (Q k)))) ?_ (fun i hi => ?_)
  · refine wp_up (fun k v => v = nI k ∧ ∀ j, j < k → wd < nI (ds_ c (Q j))) 0 n (Nat.zero_le _) (by omega) ⟨rfl, fun j hj => absurd hj (Nat.not_lt_zero _)⟩ (fun k v hkn _ hv => ?_) (fun v hv => ?_)
    · obtain ⟨rfl, hall⟩ := hv
      unfold fX8_within_b2
      refine wp_bne (armOf_2 hm) ?_
      refine wp_if' (by rw [hn]; exact nI_ge (by omega) (by omega)) ?_
      obtain ⟨q1, q2⟩ := hQ k hkn
      refine wp_bne (farOf_e hm (by omega) hc q1 h1 q2) ?_
      by_cases h : wd < nI (ds_ c (Q k))
      · refine wp_if' (Int32.not_le.mpr h) (wp_l ⟨nI_1 k, fun j hj => ?_⟩)
        rcases Nat.lt_or_ge j k with h2 | h2
        · exact hall j h2
        · have ej : j = k := by omega
          rw [ej]; exact h
      · exact wp_it (Int32.not_lt.mp h) (wp_r ⟨k, by omega, rfl, hall, fun _ => h⟩)
    · obtain ⟨rfl, hall⟩ := hv
      unfold fX8_within_b2
      exact wp_bne (armOf_2 hm) (wp_it (by rw [hn]; exact Int32.le_refl _) (wp_r ⟨n, Nat.le_refl _, rfl, hall, fun z => absurd z (Nat.lt_irrefl _)⟩))
  · obtain ⟨k, hk, rfl, hall, hlt⟩ := hi
    unfold fX8_within_k2 fX8_within_x2_28
    refine wp_bne (armOf_2 hm) ?_
    rcases Nat.lt_or_ge k n with h | h
    · refine wp_if' (by rw [hn]; exact nI_ge h (by omega)) (wp_s ⟨k, rfl, h, fun j hj => ?_⟩)
      dsimp only
      rw [if_neg (hlt h)]
      rcases Nat.lt_or_ge j k with h2 | h2
      · rw [if_pos (hall j h2)]; omega
      · split <;> omega
    · have ek : k = n := by omega
      subst ek
      refine wp_it (by rw [hn]; exact Int32.le_refl _) (wp_s ⟨0, rfl, h0, fun j hj => ?_⟩)
      dsimp only
      rw [if_pos (hall 0 h0), if_pos (hall j hj)]
      omega
end MPICK
theorem side_0 {x : Int32} : (0 : Int32) ≤ x * 0 ↔ True := ⟨fun _ => trivial, fun _ => by rw [Int32.mul_zero]; exact Int32.le_refl _⟩
theorem side_1 {c q : Nat} (hc : c < 100) (hq : q < 100) : (0 : Int32) ≤ (nI q - nI c) * 1 ↔ c ≤ q := by
  rw [Int32.mul_one]
  rcases Nat.lt_or_ge q c with h | h
  · exact ⟨fun z => absurd z (Int32.not_le.mpr (pk_sneg (by omega) h)), fun z => by omega⟩
  · rw [sub_up h]
    exact ⟨fun _ => h, fun _ => nI_pos' (by unfold ds_; omega)⟩
theorem side_m {c q : Nat} (hc : c < 100) (hq : q < 100) : (0 : Int32) ≤ (nI q - nI c) * (-1) ↔ q ≤ c := by
  have e : (nI q - nI c) * (-1) = (nI c - nI q) * 1 := by rw [Int32.mul_neg, Int32.mul_one, Int32.mul_one, Int32.neg_sub]
  rw [e]
  exact side_1 hq hc
theorem rk_20 {c q : Nat} {wd : Int32} : rk_ 2 wd 0 c q = if c < q then ds_ c q + 1000 else ds_ c q := by rw [rk_2, if_pos rfl]
theorem rk_21 {c q : Nat} {wd : Int32} : rk_ 2 wd 1 c q = if q < c then ds_ c q + 1000 else ds_ c q := by rw [rk_2]; exact if_neg (by decide)
section MPICK2
variable {t : st_} {m c n r kind : Nat} {Q : Nat → Nat} {wd u : Int32}
theorem fm_eq {κ κ' : Nat → Nat} {k : Nat} (h : fm_ κ n k) (he : ∀ j, κ' j = κ j) : fm_ κ' n k := ⟨h.1, fun j hj => by rw [he, he]; exact h.2 j hj⟩
theorem AW.mv {w w' : Nat → Int32} (h : AW w m c n Q) (e : w' = w) : AW w' m c n Q := by rw [e]; exact h
/-- scanned: on this side, or else on the other, and it turns -/
theorem scan_w {z0 : Int32} {p p' : Nat → Prop} (A : AW (t 1) m c n Q) (h0 : 0 < n) (hp : ∀ j, j < n → ((0 : Int32) ≤ (nI (Q j) - nI c) * z0 ↔ p j)) (hp' : ∀ j, j < n → ((0 : Int32) ≤ (nI (Q j) - nI c) * (-z0) ↔ p' j)) (hpp : ∀ j, j < n → ¬ p j → p' j) : wp_ (fX8_scanned_j15 t (nI m) z0) (fun z => ∃ k, z.2 = nI k ∧ ((z.1 = pt_ t 0 15 0 ∧ fmp_ p (fun j => k1_ c (Q j)) n k) ∨ (z.1 = pt_ t 0 15 1 ∧ (∀ j, j < n → ¬ p j) ∧ fmp_ p' (fun j => k1_ c (Q j)) n k))) := by
  have hn20 := A.2.2.2.1
  unfold fX8_scanned_j15
  refine wp_bn (near_w A hp) (fun i hi => ?_)
  rcases hi with ⟨e, hno⟩ | ⟨k, e, hf⟩
  · refine wp_it e ?_
    unfold fX8_scanned_j34
    refine wp_gd (by decide) (wp_bd ?_)
    have e1 : pt_ t 0 15 1 0 15 = 1 := pt_a
    refine wp_if' (by rw [e1]; decide) ?_
    refine wp_bn (near_w (AW.mv A (pt_o (by decide))) hp') (fun i' hi' => ?_)
    rcases hi' with ⟨e', hno'⟩ | ⟨k, e', hf⟩
    · exact absurd (hpp 0 h0 (hno 0 h0)) (hno' 0 h0)
    · exact wp_s ⟨k, e', Or.inr ⟨rfl, hno, hf⟩⟩
  · have := hf.1
    refine wp_if' (by rw [e]; exact nI_ne1 (by omega)) ?_
    unfold fX8_scanned_j34
    refine wp_gd (by decide) (wp_bd ?_)
    have e1 : pt_ t 0 15 0 0 15 = 0 := pt_a
    exact wp_it e1 (wp_s ⟨k, e, Or.inl ⟨rfl, hf⟩⟩)
theorem picks_w (A : AW (t 1) m c n Q) (hr : r < 6) (hkd : t 1 (26 + 5 * r) = nI kind) (hk : kind ≤ 4) (hwd : t 1 (26 + 5 * r + 1) = wd) (hu : t 1 (ab_ m + 1) = u) (hu2 : u = 0 ∨ u = 1) : wp_ (fX8_picks t (nI m) (nI r)) (fun z => ∃ tu, z.1 = pt_ t 0 15 tu ∧ ((n = 0 ∧ z.2 = -1 ∧ tu = 0) ∨ ∃ k, z.2 = nI k ∧ fm_ (fun j => rk_ kind wd u c (Q j)) n k ∧ tu = (if kind = 2 ∧ 1000 ≤ rk_ kind wd u c (Q k) then 1 else 0))) := by
  have hn20 := A.2.2.2.1
  have hc100 := A.2.2.2.2.1
  have hQ : ∀ j, j < n → Q j < 100 := fun j hj => (A.2.2.2.2.2 j hj).2
  have hm := A.1
  unfold fX8_picks
  refine wp_bd ?_
  have e1 : (pt_ t 0 15 0) 1 = t 1 := pt_o (by decide)
  have A1 : AW ((pt_ t 0 15 0) 1) m c n Q := AW.mv A e1
  refine wp_bne (armOf_2 hm) ?_
  rw [e1, A.2.2.1]
  rcases Nat.eq_zero_or_pos n with hz | h0
  · exact wp_it (by rw [hz]; rfl) (wp_s ⟨0, rfl, Or.inl ⟨hz, rfl, rfl⟩⟩)
  refine wp_if' (nI_ne0 h0 (by omega)) ?_
  refine wp_bne (of_0 hr) ?_
  rw [e1, hkd]
  have hk5 : kind = 0 ∨ kind = 1 ∨ kind = 2 ∨ kind = 3 ∨ kind = 4 := by omega
  rcases hk5 with rfl | rfl | rfl | rfl | rfl
  · refine wp_it (by decide) (wp_s ⟨0, rfl, Or.inr ⟨0, rfl, ⟨h0, fun j hj => ?_⟩, by rw [if_neg (by omega)]⟩⟩)
    dsimp only
    rw [rk_0, rk_0]
    omega
  · refine wp_if' (by decide) (wp_it (by decide) ?_)
    refine wp_bn (near_w (p := fun _ => True) A1 (fun j hj => side_0)) (fun i hi => ?_)
    rcases hi with ⟨e, hno⟩ | ⟨k, e, hf⟩
    · exact absurd trivial (hno 0 h0)
    · refine wp_s ⟨0, rfl, Or.inr ⟨k, e, ⟨hf.1, fun j hj => ?_⟩, by rw [if_neg (by omega)]⟩⟩
      dsimp only
      rw [rk_1, rk_1]
      exact hf.2.2 j hj trivial
  · refine wp_if' (by decide) (wp_if' (by decide) (wp_it (by decide) ?_))
    have fin : ∀ z : st_ × Int32, (∃ tu, z.1 = pt_ (pt_ t 0 15 0) 0 15 tu ∧ ∃ k, z.2 = nI k ∧ fm_ (fun j => rk_ 2 wd u c (Q j)) n k ∧ tu = (if 1000 ≤ rk_ 2 wd u c (Q k) then 1 else 0)) → ∃ tu, z.1 = pt_ t 0 15 tu ∧ ((n = 0 ∧ z.2 = -1 ∧ tu = 0) ∨ ∃ k, z.2 = nI k ∧ fm_ (fun j => rk_ 2 wd u c (Q j)) n k ∧ tu = (if 2 = 2 ∧ 1000 ≤ rk_ 2 wd u c (Q k) then 1 else 0)) := by
      intro z ⟨tu, h1, k, h2, h3, h4⟩
      refine ⟨tu, by rw [h1, pt_pt], Or.inr ⟨k, h2, h3, ?_⟩⟩
      rw [h4]
      by_cases h : 1000 ≤ rk_ 2 wd u c (Q k)
      · rw [if_pos h, if_pos ⟨rfl, h⟩]
      · rw [if_neg h, if_neg (fun z => h z.2)]
    unfold fX8_scanned
    refine wp_bn (Q := fun z => ∃ tu, z.1 = pt_ (pt_ t 0 15 0) 0 15 tu ∧ ∃ k, z.2 = nI k ∧ fm_ (fun j => rk_ 2 wd u c (Q j)) n k ∧ tu = (if 1000 ≤ rk_ 2 wd u c (Q k) then 1 else 0)) ?_ (fun z hz => wp_s (fin z hz))
    refine wp_bne (armOf_1 hm) ?_
    rw [e1, hu]
    rcases hu2 with hu2 | hu2
    · subst hu2
      refine wp_if' (by decide) (wp_m (scan_w (p := fun j => Q j ≤ c) (p' := fun j => c ≤ Q j) A1 h0 (fun j hj => side_m hc100 (hQ j hj)) (fun j hj => side_1 hc100 (hQ j hj)) (fun j hj h => by omega)) (fun z hz => ?_))
      obtain ⟨k, h2, hz⟩ := hz
      rcases hz with ⟨h3, hf⟩ | ⟨h3, hno, hf⟩
      · have hkq := hf.2.1
        have hqk := hQ k hf.1
        refine ⟨0, h3, k, h2, ⟨hf.1, fun j hj => ?_⟩, ?_⟩
        · have h5 := hf.2.2 j hj
          dsimp only at h5
          have hqj := hQ j hj
          dsimp only
          rw [rk_20, rk_20]
          unfold k1_ ds_ at h5
          unfold ds_
          rw [if_pos hkq] at h5
          rw [if_neg (Nat.not_lt.mpr hkq)]
          by_cases hj2 : c < Q j
          · rw [if_pos hj2]; omega
          · rw [if_neg hj2]
            rw [if_pos (by omega)] at h5
            have := h5 (by omega)
            omega
        · have e : rk_ 2 wd 0 c (Q k) = ds_ c (Q k) := by rw [rk_20, if_neg (Nat.not_lt.mpr hkq)]
          rw [e, if_neg (by unfold ds_; omega)]
      · have hqk := hQ k hf.1
        have hkq := hno k hf.1
        refine ⟨1, h3, k, h2, ⟨hf.1, fun j hj => ?_⟩, ?_⟩
        · have hjq := hno j hj
          have h5 := hf.2.2 j hj (by omega)
          dsimp only at h5
          have hqj := hQ j hj
          dsimp only
          rw [rk_20, rk_20, if_pos (by omega), if_pos (by omega)]
          unfold k1_ ds_ at h5
          unfold ds_
          rw [if_neg (by omega), if_neg (by omega)] at h5
          omega
        · have e : rk_ 2 wd 0 c (Q k) = ds_ c (Q k) + 1000 := by rw [rk_20, if_pos (by omega)]
          rw [e, if_pos (by omega)]
    · subst hu2
      refine wp_it (by decide) (wp_m (scan_w (p := fun j => c ≤ Q j) (p' := fun j => Q j ≤ c) A1 h0 (fun j hj => side_1 hc100 (hQ j hj)) (fun j hj => side_m hc100 (hQ j hj)) (fun j hj h => by omega)) (fun z hz => ?_))
      obtain ⟨k, h2, hz⟩ := hz
      rcases hz with ⟨h3, hf⟩ | ⟨h3, hno, hf⟩
      · have hkq := hf.2.1
        have hqk := hQ k hf.1
        refine ⟨0, h3, k, h2, ⟨hf.1, fun j hj => ?_⟩, ?_⟩
        · have h5 := hf.2.2 j hj
          dsimp only at h5
          have hqj := hQ j hj
          dsimp only
          rw [rk_21, rk_21]
          unfold k1_ ds_ at h5
          unfold ds_
          rw [if_neg (Nat.not_lt.mpr hkq)]
          by_cases hj2 : Q j < c
          · rw [if_pos hj2]; omega
          · rw [if_neg hj2]
            have h6 := h5 (by omega)
            split at h6 <;> split at h6 <;> omega
        · have e : rk_ 2 wd 1 c (Q k) = ds_ c (Q k) := by rw [rk_21, if_neg (Nat.not_lt.mpr hkq)]
          rw [e, if_neg (by unfold ds_; omega)]
      · have hqk := hQ k hf.1
        have hkq := hno k hf.1
        refine ⟨1, h3, k, h2, ⟨hf.1, fun j hj => ?_⟩, ?_⟩
        · have hjq := hno j hj
          have h5 := hf.2.2 j hj (by omega)
          dsimp only at h5
          have hqj := hQ j hj
          dsimp only
          rw [rk_21, rk_21, if_pos (by omega), if_pos (by omega)]
          unfold k1_ ds_ at h5
          unfold ds_
          rw [if_pos (by omega), if_pos (by omega)] at h5
          omega
        · have e : rk_ 2 wd 1 c (Q k) = ds_ c (Q k) + 1000 := by rw [rk_21, if_pos (by omega)]
          rw [e, if_pos (by omega)]
  · refine wp_if' (by decide) (wp_if' (by decide) (wp_if' (by decide) (wp_it (by decide) ?_)))
    refine wp_bn (near_w (p := fun j => c ≤ Q j) A1 (fun j hj => side_1 hc100 (hQ j hj))) (fun i hi => ?_)
    rcases hi with ⟨e, hno⟩ | ⟨k, e, hf⟩
    · refine wp_it e (wp_bn (low_w A1 h0) (fun i' hi' => ?_))
      obtain ⟨k, e', hf⟩ := hi'
      refine wp_s ⟨0, rfl, Or.inr ⟨k, e', ⟨hf.1, fun j hj => ?_⟩, by rw [if_neg (by omega)]⟩⟩
      have h5 := hf.2 j hj
      have h6 := hno j hj
      have h7 := hno k hf.1
      dsimp only
      rw [rk_3, rk_3, if_pos (by omega), if_pos (by omega)]
      omega
    · have hkq := hf.2.1
      have := hf.1
      have hqk := hQ k hf.1
      refine wp_if' (by rw [e]; exact nI_ne1 (by omega)) (wp_s ⟨0, rfl, Or.inr ⟨k, e, ⟨hf.1, fun j hj => ?_⟩, by rw [if_neg (by omega)]⟩⟩)
      have h5 := hf.2.2 j hj
      dsimp only at h5
      have hqj := hQ j hj
      dsimp only
      rw [rk_3, rk_3, if_neg (Nat.not_lt.mpr hkq)]
      unfold k1_ ds_ at h5
      by_cases hj2 : Q j < c
      · rw [if_pos hj2]; omega
      · rw [if_neg hj2]
        have h6 := h5 (by omega)
        split at h6 <;> split at h6 <;> omega
  · refine wp_if' (by decide) (wp_if' (by decide) (wp_if' (by decide) (wp_if' (by decide) ?_)))
    refine wp_bne (of_1 hr) ?_
    rw [e1, hwd]
    refine wp_bn (within_w A1 h0) (fun i hi => ?_)
    obtain ⟨k, e, hf⟩ := hi
    exact wp_s ⟨0, rfl, Or.inr ⟨k, e, fm_eq hf (fun j => rk_4), by rw [if_neg (by omega)]⟩⟩
end MPICK2
