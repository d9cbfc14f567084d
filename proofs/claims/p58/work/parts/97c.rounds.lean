/-! the law's areRoundsRight -/
section ROUNDSR
variable {s t z : st_} {C R n T K k : Nat}
theorem least_w (h : HH s t C R n T) (hk : k < T) (hz : ∀ r, r < R → z 0 r = nI (nsm (cs_ (t 1) r) k)) : wp_ (fL_areRoundsRight_l76 s R (nI R) (nI k) FU_ ((2147483647 : Int32), (0 : Int32), z)) (fun x => x.1 = nI (nsm (cs_ (t 1) (bst (fun r => nI (nsm (cs_ (t 1) r) (k + 1))) (R - 1))) (k + 1)) ∧ ∀ r, r < R → x.2 0 r = nI (nsm (cs_ (t 1) r) (k + 1))) := by
  have hB := h.1.rb
  have h1 := hB.1.1
  have h6 := hB.1.2.1
  unfold fL_areRoundsRight_l76
  refine wp_up (fun r v => v.2.1 = nI r ∧ (r = 0 → v.1 = 2147483647) ∧ (0 < r → v.1 = nI (nsm (cs_ (t 1) (bst (fun r => nI (nsm (cs_ (t 1) r) (k + 1))) (r - 1))) (k + 1))) ∧ (∀ q, q < R → v.2.2 0 q = if q < r then nI (nsm (cs_ (t 1) q) (k + 1)) else nI (nsm (cs_ (t 1) q) k))) 0 R (Nat.zero_le _) (by omega) ⟨rfl, fun _ => rfl, fun y => absurd y (by omega), fun q hq => (hz q hq).trans (if_neg (by omega)).symm⟩ (fun r v hr _ hv => ?_) (fun v hv => ?_)
  · obtain ⟨v1, v2, v3⟩ := v
    obtain ⟨e2, em, en, ez⟩ := hv
    dsimp only at e2 em en ez
    subst e2
    have ei : ix_ (nI r) = r := ix_n (by omega)
    have ec : t 1 (2948 + 1200 * r + k) = nI (cs_ (t 1) r k) := ((h.2.2.1.2.2.1 r (Or.inl hr)).2.1 k hk).1
    have ev := v_cost h (m := r) (k := k) (Or.inl hr) hk
    unfold xa_ at ev
    rw [if_neg (by omega), ec] at ev
    have en2 : v3 0 r + nI (cs_ (t 1) r k) = nI (nsm (cs_ (t 1) r) (k + 1)) := by
      rw [ez r hr, if_neg (by omega), nI_add]
      rfl
    unfold fL_areRoundsRight_b76
    dsimp only
    simp only [ei]
    refine wp_if' (nI_ge hr (by omega)) (wp_gd (ib_n hr (by omega)) (wp_bne ev (wp_gd (ib_n hr (by omega)) (wp_bd (wp_gd (ib_n hr (by omega)) (wp_l ⟨nI_1 r, fun y => absurd y (by omega), fun _ => ?_, fun q hq => ?_⟩))))))
    · dsimp only
      rw [pt_a, en2, Nat.add_sub_cancel]
      by_cases h0 : r = 0
      · subst h0
        rw [em rfl]
        have := h.nb (m := 0) (k := k + 1) (Or.inl hr) (by omega)
        exact if_pos (show nI (nsm (cs_ (t 1) 0) (k + 1)) < (2147483647 : Int32) from nI_lt (b := 2147483647) (by omega) (by omega))
      · obtain ⟨p, rfl⟩ : ∃ p, r = p + 1 := ⟨r - 1, by omega⟩
        rw [en (by omega), Nat.add_sub_cancel]
        have eb : bst (fun r => nI (nsm (cs_ (t 1) r) (k + 1))) (p + 1) = if nI (nsm (cs_ (t 1) (bst (fun r => nI (nsm (cs_ (t 1) r) (k + 1))) p)) (k + 1)) ≤ nI (nsm (cs_ (t 1) (p + 1)) (k + 1)) then bst (fun r => nI (nsm (cs_ (t 1) r) (k + 1))) p else p + 1 := rfl
        rw [eb]
        by_cases hc : nI (nsm (cs_ (t 1) (bst (fun r => nI (nsm (cs_ (t 1) r) (k + 1))) p)) (k + 1)) ≤ nI (nsm (cs_ (t 1) (p + 1)) (k + 1))
        · rw [if_pos hc, if_neg (Int32.not_lt.mpr hc)]
        · rw [if_neg hc, if_pos (Int32.not_le.mp hc)]
    · dsimp only
      by_cases hqr : q = r
      · subst hqr
        rw [pt_a, en2, if_pos (by omega)]
      · rw [pt_r hqr, ez q hq]
        by_cases hlt : q < r
        · rw [if_pos hlt, if_pos (by omega)]
        · rw [if_neg hlt, if_neg (by omega)]
  · obtain ⟨v1, v2, v3⟩ := v
    obtain ⟨e2, em, en, ez⟩ := hv
    dsimp only at e2 em en ez
    subst e2
    unfold fL_areRoundsRight_b76
    dsimp only
    exact wp_it (Int32.le_refl _) (wp_r ⟨en (by omega), fun r hr => (ez r hr).trans (if_pos hr)⟩)
theorem isq_le {V a : Nat} (h : a * a ≤ V) : a ≤ isq_ V := by
  rcases Nat.lt_or_ge (isq_ V) a with hlt | hge
  · have h1 := (isq_h V).2
    have h2 : (isq_ V + 1) * (isq_ V + 1) ≤ a * a := Nat.mul_le_mul hlt hlt
    omega
  · exact hge
theorem root_w (hk : k < 1000) : wp_ (fL_areRoundsRight_l119 (nI k) FU_ (0 : Int32)) (fun x => x = nI (isq_ (k + 1))) := by
  have hq := isq_h (k + 1)
  have hs : isq_ (k + 1) ≤ 40 := by
    rcases Nat.lt_or_ge 40 (isq_ (k + 1)) with hlt | hge
    · have : 41 * 41 ≤ isq_ (k + 1) * isq_ (k + 1) := Nat.mul_le_mul hlt hlt
      omega
    · exact hge
  unfold fL_areRoundsRight_l119
  refine wp_up (fun j v => v = nI j) 0 (isq_ (k + 1)) (Nat.zero_le _) (by omega) rfl (fun j v hj _ hv => ?_) (fun v hv => ?_)
  · subst hv
    have h1 : (j + 1) * (j + 1) ≤ isq_ (k + 1) * isq_ (k + 1) := Nat.mul_le_mul hj hj
    unfold fL_areRoundsRight_b119
    rw [nI_1, nI_1, pk_mul]
    exact wp_if' (nI_nlt (by omega) (by omega)) (wp_l rfl)
  · subst hv
    have h2 : (isq_ (k + 1) + 1) * (isq_ (k + 1) + 1) ≤ 41 * 41 := Nat.mul_le_mul (by omega) (by omega)
    unfold fL_areRoundsRight_b119
    rw [nI_1, nI_1, pk_mul]
    exact wp_it (nI_lt hq.2 (by omega)) (wp_r rfl)
theorem YY.round1 (h : YY s t C R n T K) (hT : T ≤ 1000) (hk : k < T) (hz : ∀ r, r < R → z 0 r = nI (nsm (cs_ (t 1) r) k)) : wp_ (fL_areRoundsRight_b18 s R (nI R) (nI (swc_ (fun k => t 1 (548 + k)) k)) (mxr_ (t 1) R k) (nI (brc_ (t 1) R k)) (nI (nsm (cs_ (t 1) 6) k)) (nI k) z) (fun x => ∃ z', (∀ r, r < R → z' 0 r = nI (nsm (cs_ (t 1) r) (k + 1))) ∧ x = .inl (nI (swc_ (fun k => t 1 (548 + k)) (k + 1)), mxr_ (t 1) R (k + 1), nI (brc_ (t 1) R (k + 1)), nI (nsm (cs_ (t 1) 6) (k + 1)), nI (k + 1), z')) := by
  have ev := v_cost h.1 (m := 6) (k := k) (Or.inr rfl) hk
  have ec : t 1 (2948 + 1200 * 6 + k) = nI (cs_ (t 1) 6 k) := ((h.1.2.2.1.2.2.1 6 (Or.inr rfl)).2.1 k hk).1
  rw [ec] at ev
  have e11 : gX7_setting s (11 : Int32) = some (t 1 11) := v_setting h.1 (k := 11) (by omega)
  have e12 : gX7_setting s (12 : Int32) = some (t 1 12) := v_setting h.1 (k := 12) (by omega)
  have fin : ∀ z1 : Nat, swc_ (fun k => t 1 (548 + k)) (k + 1) = swc_ (fun k => t 1 (548 + k)) k + z1 → wp_ (fL_areRoundsRight_j55 s R (nI R) (nI (swc_ (fun k => t 1 (548 + k)) k)) (mxr_ (t 1) R k) (nI (brc_ (t 1) R k)) (nI (nsm (cs_ (t 1) 6) k)) (nI k) z (nI z1)) (fun x => ∃ z', (∀ r, r < R → z' 0 r = nI (nsm (cs_ (t 1) r) (k + 1))) ∧ x = .inl (nI (swc_ (fun k => t 1 (548 + k)) (k + 1)), mxr_ (t 1) R (k + 1), nI (brc_ (t 1) R (k + 1)), nI (nsm (cs_ (t 1) 6) (k + 1)), nI (k + 1), z')) := fun z1 hz1 => by
    unfold fL_areRoundsRight_j55
    refine wp_bne ev (wp_bn (least_w h.1 hk hz) (fun x hx => ?_))
    obtain ⟨x1, z'⟩ := x
    obtain ⟨hx1, hz'⟩ := hx
    dsimp only at hx1 hz'
    subst hx1
    unfold fL_areRoundsRight_k76 fL_areRoundsRight_x76_116
    dsimp only
    refine wp_bn (root_w (k := k) (by omega)) (fun x hx => ?_)
    subst hx
    unfold fL_areRoundsRight_k119 fL_areRoundsRight_x119_141
    have er : nI (nsm (cs_ (t 1) 6) k) + nI (cs_ (t 1) 6 k) - nI (nsm (cs_ (t 1) (bst (fun r => nI (nsm (cs_ (t 1) r) (k + 1))) (R - 1))) (k + 1)) = rgk_ (t 1) R (k + 1) := by
      rw [nI_add]
      rfl
    rw [er]
    have fin2 : ∀ z0, z0 = mxr_ (t 1) R (k + 1) → wp_ (fL_areRoundsRight_j163 s (nI (swc_ (fun k => t 1 (548 + k)) k)) (nI (brc_ (t 1) R k)) (nI (nsm (cs_ (t 1) 6) k)) (nI k) (nI z1) (nI (cs_ (t 1) 6 k)) (nI (nsm (cs_ (t 1) (bst (fun r => nI (nsm (cs_ (t 1) r) (k + 1))) (R - 1))) (k + 1))) z' (nI (isq_ (k + 1))) z0) (fun x => ∃ z', (∀ r, r < R → z' 0 r = nI (nsm (cs_ (t 1) r) (k + 1))) ∧ x = .inl (nI (swc_ (fun k => t 1 (548 + k)) (k + 1)), mxr_ (t 1) R (k + 1), nI (brc_ (t 1) R (k + 1)), nI (nsm (cs_ (t 1) 6) (k + 1)), nI (k + 1), z')) := fun z0 hz0 => by
      unfold fL_areRoundsRight_j163
      rw [er, hz0]
      refine wp_bne e11 (wp_bne e12 ?_)
      have eb : brc_ (t 1) R (k + 1) = brc_ (t 1) R k + (if bnd_ (t 1) (k + 1) < rgk_ (t 1) R (k + 1) then 1 else 0) := rfl
      have e6 : nsm (cs_ (t 1) 6) (k + 1) = nsm (cs_ (t 1) 6) k + cs_ (t 1) 6 k := rfl
      show wp_ (if rgk_ (t 1) R (k + 1) ≤ bnd_ (t 1) (k + 1) then _ else _) _
      unfold fL_areRoundsRight_j195
      refine wp_if (fun hc => wp_s ⟨z', hz', ?_⟩) (fun hc => wp_s ⟨z', hz', ?_⟩)
      · rw [eb, if_neg (Int32.not_lt.mpr hc), e6, hz1, nI_add, nI_add, nI_1, Int32.add_zero]
        rfl
      · rw [eb, if_pos (Int32.not_le.mp hc), e6, hz1, nI_add, nI_add, nI_1, nI_1]
    by_cases h0 : k = 0
    · refine wp_it (show nI k = (0 : Int32) by rw [h0]; rfl) (fin2 _ ?_)
      exact (if_pos h0).symm
    · refine wp_if' (fun y => h0 ((nI_eq (b := 0) (by omega) (by omega)).mp y)) (fin2 _ ?_)
      exact (if_neg h0).symm
  have es : swc_ (fun k => t 1 (548 + k)) (k + 1) = swc_ (fun k => t 1 (548 + k)) k + (if k = 0 then 0 else if t 1 (548 + k) = t 1 (548 + (k - 1)) then 0 else 1) := rfl
  unfold fL_areRoundsRight_b18
  refine wp_bne (v_rounds h.1) (wp_if' (nI_ge hk (by omega)) ?_)
  by_cases h0 : k = 0
  · refine wp_it (show nI k ≤ (0 : Int32) from nI_le (b := 0) (by omega) (by omega)) (fin 0 ?_)
    rw [es, if_pos h0]
  · refine wp_if' (show ¬ nI k ≤ (0 : Int32) from nI_ge (show 0 < k by omega) (by omega)) ?_
    rw [show nI k - (1 : Int32) = nI (k - 1) from pk_sub (b := 1) (by omega)]
    refine wp_bne (v_taken h.1 hk) (wp_bne (v_taken h.1 (k := k - 1) (by omega)) (wp_if (fun hc => fin 0 ?_) (fun hc => fin 1 ?_)))
    · rw [es, if_neg h0, if_pos hc]
    · rw [es, if_neg h0, if_neg hc]
theorem YY.roundsr (h : YY s t C R n T K) (hT : T ≤ 999) : ∃ z, fL_areRoundsRight s (fun _ _ => 0) R (nI R) = some (z, 1) := by
  have hB := h.1.1.rb
  have h1 := hB.1.1
  have h6 := hB.1.2.1
  obtain ⟨i1, i2, i3, i4, i5, i6, i7, i8, i9⟩ := id h.2.1
  suffices hw : wp_ (fL_areRoundsRight s (fun _ _ => 0) R (nI R)) (fun x => x.2 = 1) by
    obtain ⟨⟨z, y⟩, e1, e2⟩ := hw
    dsimp only at e2
    subst e2
    exact ⟨z, e1⟩
  unfold fL_areRoundsRight fL_areRoundsRight_l18
  refine wp_bn (Q := fun x => x.1 = nI (swc_ (fun k => t 1 (548 + k)) T) ∧ x.2.1 = mxr_ (t 1) R T ∧ x.2.2.1 = nI (brc_ (t 1) R T)) ?_ (fun x hx => ?_)
  · refine wp_up (fun k v => ∃ z, (∀ r, r < R → z 0 r = nI (nsm (cs_ (t 1) r) k)) ∧ v = (nI (swc_ (fun k => t 1 (548 + k)) k), mxr_ (t 1) R k, nI (brc_ (t 1) R k), nI (nsm (cs_ (t 1) 6) k), nI k, z)) 0 T (Nat.zero_le _) (by omega) ⟨fun _ _ => 0, fun _ _ => rfl, rfl⟩ (fun k v hk _ hv => ?_) (fun v hv => ?_)
    · obtain ⟨z, hz, rfl⟩ := hv
      obtain ⟨x, ex, z', hz', hx⟩ := h.round1 (by omega) hk hz
      subst hx
      exact ⟨_, ex, z', hz', rfl⟩
    · obtain ⟨z, hz, rfl⟩ := hv
      unfold fL_areRoundsRight_b18
      exact wp_bne (v_rounds h.1) (wp_it (Int32.le_refl _) (wp_r ⟨rfl, rfl, rfl⟩))
  obtain ⟨x1, x2, x3, x4⟩ := x
  obtain ⟨e1, e2, e3⟩ := hx
  dsimp only at e1 e2 e3
  subst e1 e2 e3
  unfold fL_areRoundsRight_k18 fL_areRoundsRight_x18_204
  dsimp only
  have f305 : wp_ (fL_areRoundsRight_j305 s (nI (swc_ (fun k => t 1 (548 + k)) T)) (mxr_ (t 1) R T) (nI (brc_ (t 1) R T)) x4) (fun x => x.2 = 1) := by
    have e2 : gX7_regret s (2 : Int32) = some (t 1 17) := v_regret h.1 i9 (k := 2) (by omega)
    have e3 : gX7_regret s (3 : Int32) = some (t 1 18) := v_regret h.1 i9 (k := 3) (by omega)
    have e4 : gX7_regret s (4 : Int32) = some (t 1 19) := v_regret h.1 i9 (k := 4) (by omega)
    have hbs := bs_lt (w := t 1) h1
    have ea : gX7_arm s (nI (bs_ (t 1) R)) (3 : Int32) = some (t 1 (ab_ (bs_ (t 1) R) + 3)) := by
      have := v_arm h.1 (m := bs_ (t 1) R) (k := 3) (Or.inl hbs) (by omega)
      unfold xa_ at this
      rw [if_neg (by omega)] at this
      exact this
    obtain ⟨x, q, p1, p2, p3, p4⟩ := v_pair h.1
    have f355 : ∀ y : Int32, wp_ (fL_areRoundsRight_j355 s x4 y y) (fun x => x.2 = 1) := fun y => by
      unfold fL_areRoundsRight_j355
      exact wp_it rfl (wp_bne p1 (wp_bne (v_best h.1) (wp_bne ea (wp_if' (Int32.not_lt.mpr p2) (wp_bne p3 (wp_if' (nI_nlt (b := 0) (Nat.zero_le _) (by omega)) (wp_bne p3 (wp_bne (v_rounds h.1) (wp_if' (nI_nlt p4 (by omega)) (wp_s rfl))))))))))
    have hb := brc_le (w := t 1) (R := R) T
    unfold fL_areRoundsRight_j305
    refine wp_bne (v_switches h.1) (wp_it rfl (wp_bne e3 (wp_it i6.symm (wp_bne e2 (wp_it i7.symm (wp_bne e4 ?_))))))
    unfold fL_areRoundsRight_j345
    rcases i8 with ⟨u1, u2⟩ | ⟨u1, u2⟩
    · rw [i7] at u1
      exact wp_it (by rw [u2]; decide) (wp_it (by rw [u1]; exact Int32.le_refl _) (f355 0))
    · rw [i7] at u1
      exact wp_if' (Int32.not_lt.mpr u2) (wp_if' (show ¬ nI (brc_ (t 1) R T) ≤ (0 : Int32) from nI_ge (show 0 < brc_ (t 1) R T from Nat.pos_of_ne_zero (fun z => u1 (by rw [z]; rfl))) (by omega)) (f355 1))
  obtain ⟨xw, ew, hxw⟩ := v_worst h.1 (L := T + 1) (by omega) (by omega)
  have hxw1 : xw = -1 := by
    rcases hxw with ⟨_, e⟩ | ⟨a, ha, _⟩
    · exact e
    · exact absurd ha (by omega)
  have n1 := (v_windowN h.1 (a := 0) (L := T + 1) (by omega) (by omega) (by omega) (by omega)).1
  have n2 := (v_windowN h.1 (a := T) (L := 1) (by omega) (by omega) (by omega) (by omega)).2
  rw [← nI_1] at n1 ew
  refine wp_bne (v_rounds h.1) (wp_bne n1 (wp_it rfl (wp_bne n2 (wp_it rfl (wp_bne ew (wp_it hxw1 ?_))))))
  by_cases hc : T ≤ 1
  · exact wp_it (nI_le (b := 1) hc (by omega)) f305
  · obtain ⟨x2, ew2, hx2⟩ := v_worst h.1 (L := 2) (by omega) (by omega)
    have m1 := v_window h.1 (a := 0) (L := T) (by omega) (by omega) (by omega)
    have m2 := v_window h.1 (a := 0) (L := 2) (by omega) (by omega) (by omega)
    rw [Nat.zero_add] at m1 m2
    obtain ⟨b1, b2⟩ := wr_T h.1
    rw [b1, b2] at m1
    have e0 : gX7_regret s (0 : Int32) = some (rg0_ (t 1) R) := v_regret h.1 i9 (k := 0) (by omega)
    rcases hx2 with ⟨hlt, _⟩ | ⟨a, ha, rfl, hle⟩
    · exact absurd hlt (by omega)
    · have m3 := v_window h.1 (a := a) (L := 2) (by omega) (by omega) (by omega)
      exact wp_if' (show ¬ nI T ≤ (1 : Int32) from nI_ge (show 1 < T by omega) (by omega)) (wp_bne m1.1 (wp_bne e0 (wp_it rfl (wp_bne m1.2 (wp_bne (v_best h.1) (wp_it rfl (wp_bne ew2 (wp_bne m3.1 (wp_bne m2.1 (wp_it hle f305))))))))))
end ROUNDSR
