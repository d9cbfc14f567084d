/-! the foe moves: all of it -/
section FOE2
variable {d t : st_} {C R n : Nat}
theorem isFull_e (h5 : d 5 2 = nI n) (h20 : n ≤ 20) : fX1_isFull d = some (if n < 20 then 0 else 1) := by
  unfold fX1_isFull
  rw [h5]
  by_cases h : n < 20
  · rw [if_pos (show nI n < 20 from nI_lt (b := 20) h (by omega)), if_pos h]
  · rw [if_neg (show ¬ nI n < 20 from nI_nlt (a := n) (b := 20) (by omega) (by omega)), if_neg h]
theorem misFull_e (h6 : t 1 (ab_ 6 + 2) = nI n) (h20 : n ≤ 20) : fX8_isFull t = some (if n < 20 then 0 else 1) := by
  unfold fX8_isFull
  rw [bn_e (show fX8_armOf t (6 : Int32) (2 : Int32) = some (t 1 (ab_ 6 + 2)) from armOf_2 (m := 6) (by omega)), h6]
  by_cases h : n < 20
  · rw [if_neg (show ¬ nI n = 20 from fun z => by have := (nI_eq (a := n) (b := 20) (by omega) (by omega)).mp z; omega), if_pos h]
  · have e : n = 20 := by omega
    subst e
    rw [if_pos (show nI 20 = 20 from rfl), if_neg h]
theorem foeNow_e : fX1_foeNow d = some (if d 1 11 = 5 ∧ ¬ d 1 16 = -1 ∧ ¬ d 0 11 < d 1 16 then 4 else d 1 11) := by
  unfold fX1_foeNow fX1_foeNow_j29 fX1_foeNow_j30 fX1_foeNow_j50
  by_cases h5 : d 1 11 = 5
  · by_cases h1 : d 1 16 = -1
    · rw [if_pos h1, if_pos h5, if_pos rfl, if_neg (show ¬ (d 1 11 = 5 ∧ ¬ d 1 16 = -1 ∧ ¬ d 0 11 < d 1 16) from fun z => z.2.1 h1)]
    · by_cases h2 : d 0 11 < d 1 16
      · rw [if_neg h1, if_pos h2, if_pos h5, if_pos rfl, if_neg (show ¬ (d 1 11 = 5 ∧ ¬ d 1 16 = -1 ∧ ¬ d 0 11 < d 1 16) from fun z => z.2.2 h2)]
      · rw [if_neg h1, if_neg h2, if_pos h5, if_neg (show ¬ (1 : Int32) = 0 by decide), if_pos (show (d 1 11 = 5 ∧ ¬ d 1 16 = -1 ∧ ¬ d 0 11 < d 1 16) from ⟨h5, h1, h2⟩)]
  · rw [if_neg (show ¬ (d 1 11 = 5 ∧ ¬ d 1 16 = -1 ∧ ¬ d 0 11 < d 1 16) from fun z => h5 z.1)]
    by_cases h1 : d 1 16 = -1
    · rw [if_pos h1, if_neg h5]
    · by_cases h2 : d 0 11 < d 1 16
      · rw [if_neg h1, if_pos h2, if_neg h5]
      · rw [if_neg h1, if_neg h2, if_neg h5]
theorem hurt_p (h : DD d (t 1) C R n) (h20 : n < 20) : FoeP d t C R n (bn_ (fX1_comingRule d) fun r25 => bn_ (fX1_foreseeHurts d r25) fun r29 => bn_ (fX1_mostHurtful r29) fun r33 => bn_ (fX1_addForAll r29 r33) fun r37 => bd_ (pt_ r37 0 11 ((r37 0 11) + (1 : Int32))) fun s41 => some s41) (fX8_foe_j155 t) := by
  have hB := h.rb
  have hR1 := hB.1.1
  have hR6 := hB.1.2.1
  have hRS := h.1.1
  obtain ⟨hC2, hC, hS0, hw0, -, -, hS4, hw4, hS2, hS3, hw2, hw3, hkk⟩ := id hRS
  obtain ⟨v1, v2, v3, v4, v5, v6, v7, v8, v9, v10, v11⟩ := id h.2.1
  generalize ht1 : pt_ t 1 14 (t 1 14 + 1) = t1
  have t1i : ∀ i, i ≠ 14 → t1 1 i = t 1 i := fun i hi => by rw [← ht1]; exact pt_r hi
  have t114 : t1 1 14 = t 1 14 + 1 := by rw [← ht1]; exact pt_a
  have hmo1 : mo_ t t1 := by rw [← ht1]; exact mo_p1
  have hA1 : DA d (t1 1) C R n := h.2.2.wext hR6 (fun i hi => t1i i (by omega))
  have hRS1 : RS (sb_ d 1) (t1 1) C R := hRS.of (fun _ _ => rfl) (fun i hi => t1i i (by unfold sI_ at hi; omega))
  have hB1 : RB d (t1 1) R := hB.of (fun i hi => t1i i (by omega))
  obtain ⟨r0, z, hr0, ec, ez, hmz, hE, hzv⟩ := worstOf_p (t := t1) hA1 hRS1 hB1 (by rw [t1i 21 (by decide)]; exact h.rv) h20
  have ac : ∀ a m, AR a (t 1) m n → AI (t 1) m n C → AC a (ix_ (a 0 0)) n := fun a m h1 h2 => by
    have h3 := h1.ac h2 hC hC2
    rw [h1.1]
    exact h3
  obtain ⟨d1, ed1, d1o, d1h⟩ := foreseeHurts_w (d := d) (C := C) (R := R) (n := n) (r0 := r0) hS0 hC2 hC hS4 hR1 hR6 (fun r hr => by
    have h3 := hkk r hr
    have h4 := h3.2.2
    rw [← h3.1] at h4
    exact h4) (ac _ _ h.2.2.1 h.2.2.2.1) (fun r hr => ac _ _ (h.2.2.2.2.1 r hr).1 (h.2.2.2.2.1 r hr).2) hr0
  have em : fX1_mostHurtful d1 = some (nI (wst (hurt_f d n R r0) (C - 1))) := by
    rw [mostHurtful_e (C := C) (by rw [d1o 1 (by decide) (by decide)]; exact hS0) hC2 hC]
    rw [wst_congr (g := hurt_f d n R r0) (C - 1) (fun r hr => d1h r (by omega))]
  have hb := wst_le (f := hurt_f d n R r0) (C - 1)
  have zi : ∀ i, (i < 72 ∨ 448 ≤ i ∨ (72 ≤ i ∧ (i - 72) % 47 = 3)) → z.1 1 i = t1 1 i := fun i hi => hE i (by omega)
  have hA2 : DA d1 (z.1 1) C R n := (hE.da hA1 hR6).dext hR6 (fun o ho => d1o o (by omega) (by omega))
  obtain ⟨d2, t2, e1, e2, hmo2, hA3, ho, hw, hk⟩ := comes_p (d := d1) (t := z.1) (q := nI (wst (hurt_f d n R r0) (C - 1))) hA2 (by rw [zi 4 (by omega), t1i 4 (by decide)]; exact hw4) (by rw [d1o 1 (by decide) (by decide)]; exact hS4) hR6 (by rw [d1o 0 (by decide) (by decide), zi 16 (by omega), t1i 16 (by decide)]; exact h.mk) (by rw [d1o 1 (by decide) (by decide), zi 21 (by omega), t1i 21 (by decide)]; exact h.rv) h20 (rg_n (Nat.zero_le _) hb (by omega))
  rw [bn_e ec, bn_e ed1, bn_e em, bn_e e1, bd_e]
  unfold fX8_foe_j155
  rw [i14_, gd_t b14_, gd_t b14_, bd_e, ht1, bn_e ez, hzv, bn_e e2]
  have wi : ∀ i, i ≠ 14 → (i < 72 ∨ 448 ≤ i ∨ (72 ≤ i ∧ (i - 72) % 47 = 3)) → t2 1 i = t 1 i := fun i h1 h2 => by rw [hw, cw_o3 h2, zi i h2, t1i i h1]
  have w14 : t2 1 14 = t 1 14 + 1 := by rw [hw, cw_out (by omega), zi 14 (by omega), t114]
  have d2o : ∀ o, (o < 5 ∨ o = 12) → d2 o = d o := fun o h1 => by rw [ho o (by omega), d1o o (by omega) (by omega)]
  have d20 := d2o 0 (by omega)
  generalize hd3 : pt_ d2 0 11 (d2 0 11 + 1) = d3
  have d3o : ∀ o, o ≠ 0 → d3 o = d2 o := fun o h1 => by rw [← hd3]; exact pt_o h1
  have d30 : ∀ j, j ≠ 11 → d3 0 j = d 0 j := fun j hj => by rw [← hd3, pt_r hj, d20]
  have d311 : d3 0 11 = d 0 11 + 1 := by rw [← hd3, pt_a, d20]
  refine ⟨d3, t2, n + 1, rfl, rfl, (hmo1.tr hmz).tr hmo2, ⟨h.1.of (fun o h1 h2 => by rw [d3o o (by omega), d2o o (by omega)]) (fun i hi => wi i (by unfold sI_ at hi; omega) (by unfold sI_ at hi; omega)), ?_, hA3.dext hR6 (fun o ho2 => d3o o (by omega))⟩, fun i hi => wi i hi.1 hi.2.2, fun o a b => ((d3o o (by omega)).trans (hk.1 o a b)).trans (d1o o (by omega) (by omega)), fun h8 => ((d3o 8 (by omega)).trans (hk.2 (by rw [d1o 1 (by decide) (by decide)]; exact h8))).trans (d1o 8 (by decide) (by decide))⟩
  unfold DV
  rw [d30 7 (by decide), d30 8 (by decide), d30 9 (by decide), d30 10 (by decide), d30 13 (by decide), d311, d3o 12 (by decide), d2o 12 (by omega), w14, wi 8 (by decide) (by omega), wi 23 (by decide) (by omega), wi 16 (by decide) (by omega), wi 15 (by decide) (by omega), wi 10 (by decide) (by omega), wi 25 (by decide) (by omega)]
  refine ⟨v1, v2, v3, v4, v5, v6, v7, v8, by rw [v9], v10, fun r hr => ?_⟩
  rw [wi _ (by omega) (by omega)]
  exact v11 r hr
theorem foe_p (h : DD d (t 1) C R n) (h20 : n < 20) : FoeP d t C R n (fX1_moveFoe d) (fX8_foe t) := by
  have hB := h.rb
  obtain ⟨hRS, a1, a2, k1, k2, k3, k4, eta, etar, foe, foer, ak, akr, asks, base, root, bud, rv, rvr, rvk⟩ := id h.1
  obtain ⟨v1, v2, v3, v4, v5, v6, v7, v8, v9, v10, v11⟩ := id h.2.1
  obtain ⟨hC2, hC, hS0, hw0, -, -, hS4, hw4, hS2, hS3, hw2, hw3, hkk⟩ := id hRS
  obtain ⟨F, _, hF, hFe⟩ := foer.ex
  obtain ⟨A1, A2, -, -⟩ := id h.2.2
  obtain ⟨c, _, hcC, hce⟩ := A2.2.1.ex
  have hcd : d 5 0 = nI c := A1.1.trans hce
  have h10 : d 1 0 = nI C := hS0
  have e1 : nI C - (1 : Int32) = nI (C - 1) := pk_sub (b := 1) (by omega)
  have e2 : nI (C - 1) - nI c = nI (C - 1 - c) := pk_sub (by omega)
  unfold fX1_moveFoe fX8_foe
  rw [bn_e (isFull_e (A1.2.2.1.trans A2.2.2.2.1) (by omega)), if_pos h20, if_pos rfl, bn_e foeNow_e, gd_t b0_, bn_e (show fX8_armOf t (6 : Int32) (0 : Int32) = some (t 1 (ab_ 6)) from armOf_0 (m := 6) (by omega)), gd_t b9_, i0_, i9_, i13_, i14_, i16_, gd_t b16_, gd_t b13_, gd_t b14_, foe, hFe, h10, hw0, hcd, hce, e1, e2, v5, ← bud, ← v9]
  have hF6 : F = 0 ∨ F = 1 ∨ F = 2 ∨ F = 3 ∨ F = 4 ∨ F = 5 := by omega
  have z1 : ((4 : Int32) = 1) = False := eq_false (by decide)
  have z2 : ((4 : Int32) = 2) = False := eq_false (by decide)
  have z3 : ((4 : Int32) = 3) = False := eq_false (by decide)
  have z4 : ((4 : Int32) = 4) = True := eq_true rfl
  rcases hF6 with rfl | rfl | rfl | rfl | rfl | rfl
  · have c1 : (nI 0 = (1 : Int32)) = False := eq_false (by decide)
    have c2 : (nI 0 = (2 : Int32)) = False := eq_false (by decide)
    have c3 : (nI 0 = (3 : Int32)) = False := eq_false (by decide)
    have c4 : (nI 0 = (4 : Int32)) = False := eq_false (by decide)
    have c5 : (nI 0 = (5 : Int32)) = False := eq_false (by decide)
    simp only [c1, c2, c3, c4, c5, false_and, if_false, if_true]
    exact ⟨d, t, n, rfl, rfl, mo_r, h, fun _ _ => rfl, OK_.r⟩
  · have c1 : (nI 1 = (1 : Int32)) = True := eq_true rfl
    have c2 : (nI 1 = (2 : Int32)) = False := eq_false (by decide)
    have c3 : (nI 1 = (3 : Int32)) = False := eq_false (by decide)
    have c4 : (nI 1 = (4 : Int32)) = False := eq_false (by decide)
    have c5 : (nI 1 = (5 : Int32)) = False := eq_false (by decide)
    simp only [c1, c2, c3, c4, c5, false_and, if_false, if_true]
    rcases Nat.lt_or_ge c (C - 1 - c) with hl | hl
    · rw [if_pos (nI_lt hl (by omega)), if_neg (nI_ge hl (by omega))]
      exact (foe_come h h20 (rg_n (Nat.zero_le _) (Nat.le_refl _) (by omega))).bn
    · rw [if_neg (nI_nlt hl (by omega)), if_pos (nI_le hl (by omega))]
      exact (foe_come (q := 0) h h20 (rg_n (k := 0) (Nat.zero_le _) (Nat.zero_le _) (by omega))).bn
  · have c1 : (nI 2 = (1 : Int32)) = False := eq_false (by decide)
    have c2 : (nI 2 = (2 : Int32)) = True := eq_true rfl
    have c3 : (nI 2 = (3 : Int32)) = False := eq_false (by decide)
    have c4 : (nI 2 = (4 : Int32)) = False := eq_false (by decide)
    have c5 : (nI 2 = (5 : Int32)) = False := eq_false (by decide)
    simp only [c1, c2, c3, c4, c5, false_and, if_false, if_true]
    exact (foe_come h h20 (rg_n (Nat.zero_le _) (by omega) (by omega))).bn
  · have c1 : (nI 3 = (1 : Int32)) = False := eq_false (by decide)
    have c2 : (nI 3 = (2 : Int32)) = False := eq_false (by decide)
    have c3 : (nI 3 = (3 : Int32)) = True := eq_true rfl
    have c4 : (nI 3 = (4 : Int32)) = False := eq_false (by decide)
    have c5 : (nI 3 = (5 : Int32)) = False := eq_false (by decide)
    simp only [c1, c2, c3, c4, c5, false_and, if_false, if_true]
    by_cases hm : t 1 16 - t 1 16 / 2 * 2 = 0
    · rw [if_pos hm, if_pos hm]
      exact (foe_come h h20 (rg_n (Nat.zero_le _) (Nat.le_refl _) (by omega))).bn
    · rw [if_neg hm, if_neg hm]
      exact (foe_come (q := 0) h h20 (rg_n (k := 0) (Nat.zero_le _) (Nat.zero_le _) (by omega))).bn
  · have c1 : (nI 4 = (1 : Int32)) = False := eq_false (by decide)
    have c2 : (nI 4 = (2 : Int32)) = False := eq_false (by decide)
    have c3 : (nI 4 = (3 : Int32)) = False := eq_false (by decide)
    have c4 : (nI 4 = (4 : Int32)) = True := eq_true rfl
    have c5 : (nI 4 = (5 : Int32)) = False := eq_false (by decide)
    simp only [c1, c2, c3, c4, c5, false_and, if_false, if_true]
    exact (lists_p h h20).bn
  · have c1 : (nI 5 = (1 : Int32)) = False := eq_false (by decide)
    have c2 : (nI 5 = (2 : Int32)) = False := eq_false (by decide)
    have c3 : (nI 5 = (3 : Int32)) = False := eq_false (by decide)
    have c4 : (nI 5 = (4 : Int32)) = False := eq_false (by decide)
    have c5 : (nI 5 = (5 : Int32)) = True := eq_true rfl
    by_cases hs : ¬ d 1 16 = -1 ∧ ¬ d 0 11 < d 1 16
    · have s1 : (d 1 16 = -1) = False := eq_false hs.1
      have s2 : (d 0 11 < d 1 16) = False := eq_false hs.2
      simp only [c1, c2, c3, c4, c5, s1, s2, not_false_eq_true, and_self, true_and, z1, z2, z3, z4, if_false, if_true, gd_t b13_]
      exact (lists_p h h20).bn
    · have e : (if d 1 16 = -1 then fX8_foe_j155 t else gd_ (ib_ (13 : Int32) 12584) (if d 0 11 < d 1 16 then fX8_foe_j155 t else bn_ (fX8_lists t) fun r41 => some r41)) = fX8_foe_j155 t := by
        by_cases h1 : d 1 16 = -1
        · rw [if_pos h1]
        · rw [if_neg h1, gd_t b13_]
          by_cases h2 : d 0 11 < d 1 16
          · rw [if_pos h2]
          · exact absurd ⟨h1, h2⟩ hs
      have s0 : (¬ d 1 16 = -1 ∧ ¬ d 0 11 < d 1 16) = False := eq_false hs
      rw [e]
      simp only [c1, c2, c3, c4, c5, s0, and_false, if_false, if_true]
      exact hurt_p h h20
end FOE2
