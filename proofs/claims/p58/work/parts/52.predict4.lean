/-! predictions: budgets, the next breach -/
section PREDICT
variable {s t d d' : st_} {w w' : Nat → Int32} {C R n T k : Nat} {x : Int32}
theorem PP.ext {s' t' : st_} (h : PP s t C R n T) (hs : ∀ o, 9 ≤ o → o < 42 → o ≠ 22 → o ≠ 23 → s' o = s o) (ht : ∀ j, j < 12584 → t' 1 j = t 1 j) : PP s' t' C R n T := by
  obtain ⟨hD, hU, hT, hT2, hm⟩ := h
  have hR6 := hD.rb.1.2.1
  have hD' : DD (sb_ s 9) (t' 1) C R n := hD.wx (fun i hi => ht i (by omega))
  refine ⟨⟨hD'.1.of (fun o a b => hs _ (by omega) (by omega) (by omega) (by omega)) (fun _ _ => rfl), hD'.2.1.of (hs _ (by omega) (by omega) (by omega) (by omega)) (hs _ (by omega) (by omega) (by omega) (by omega)) (fun _ _ => rfl) hR6, ?_⟩, ?_, by rw [ht 16 (by omega)]; exact hT, hT2, by rw [ht 17 (by omega)]; exact hm⟩
  · obtain ⟨A1, A2, A3, A4⟩ := hD'.2.2
    exact ⟨A1.ext (fun q hq => hs _ (by omega) (by omega) (by omega) (by omega)), A2, fun r hr => ⟨(A3 r hr).1.ext (fun q hq => hs _ (by omega) (by omega) (by omega) (by omega)), (A3 r hr).2⟩, fun h => ⟨(A4 h).1.ext (fun q hq => hs _ (by omega) (by omega) (by omega) (by omega)), (A4 h).2⟩⟩
  · obtain ⟨u1, u2, u3⟩ := hU
    refine ⟨?_, ?_, fun r hr => ?_⟩
    · rw [sb_ap, hs _ (by omega) (by omega) (by omega) (by omega)]; exact u1
    · rw [sb_ap, hs _ (by omega) (by omega) (by omega) (by omega)]; exact u2
    · rw [sb_ap, hs _ (by omega) (by omega) (by omega) (by omega)]; exact u3 r hr
/-- one budget tried -/
theorem budget1 (h : PP s t C R n T) (b : Nat) (hb : b ≤ 20) : ∃ r1 r11 r17 y t5, fX1_copyFrom (sb_ s 83) (sb_ s 9) = some r1 ∧ fX1_takeBudget (sb_ (pt_ (mg_ s 83 33 r1) 84 11 5) 83) (nI b) = some r11 ∧ fX1_letPass (sb_ (mg_ (pt_ (mg_ s 83 33 r1) 84 11 5) 83 33 r11) 83) (20 : Int32) = some r17 ∧ fX1_regretNow (sb_ (mg_ (mg_ (pt_ (mg_ s 83 33 r1) 84 11 5) 83 33 r11) 83 33 r17) 83) = some y ∧ (∃ t2, fX8_goesAside t = some t2 ∧ fX8_regretBehind (pt_ (pt_ (pt_ t2 1 9 5) 1 13 (nI b)) 1 14 0) (20 : Int32) = some (t5, y)) ∧ MI t t5 := by
  obtain ⟨hD, hU, hT, hT2, -⟩ := h
  obtain ⟨r1, e1, hr1⟩ := trial_w hD hU
  obtain ⟨t2, e2, a1, a2⟩ := aside_w (t := t)
  have et2 : t2 1 = t 1 := a1 1 (by decide)
  have hD1 : DD (sb_ (mg_ s 83 33 r1) 83) (t2 1) C R n := by rw [et2]; exact hr1 _ (fun o a b => mg_i (by omega) (by omega))
  generalize hs5 : mg_ s 83 33 r1 = s5 at hD1
  generalize hs7 : pt_ s5 84 11 5 = s7
  generalize hr11 : pt_ (pt_ (sb_ s7 83) 1 16 (nI b)) 0 11 0 = r11
  have eb : fX1_takeBudget (sb_ s7 83) (nI b) = some r11 := by
    unfold fX1_takeBudget
    rw [bd_e, bd_e, hr11]
  generalize hs15 : mg_ s7 83 33 r11 = s15
  generalize ht3 : pt_ (pt_ (pt_ t2 1 9 5) 1 13 (nI b)) 1 14 0 = t3
  have f15 : ∀ o, o < 33 → s15 (83 + o) = r11 o := fun o ho => by rw [← hs15, mg_i (by omega) (by omega), Nat.add_sub_cancel_left]
  have w9 : t3 1 9 = 5 := by rw [← ht3, pt_r (by decide), pt_r (by decide), pt_a]
  have w13 : t3 1 13 = nI b := by rw [← ht3, pt_r (by decide), pt_a]
  have w14 : t3 1 14 = 0 := by rw [← ht3, pt_a]
  have wo : ∀ i, i ≠ 9 → i ≠ 13 → i ≠ 14 → t3 1 i = t2 1 i := fun i a b c => by rw [← ht3, pt_r c, pt_r b, pt_r a]
  have to : ∀ o, o ≠ 1 → t3 o = t2 o := fun o a => by rw [← ht3, pt_o a, pt_o a, pt_o a]
  have hD2 : DD (sb_ s15 83) (t3 1) C R n := hD1.foe (fun i a b c _ => wo i a b c) (fun j a b => by rw [sb_ap, f15 1 (by omega), ← hr11, pt_oo (by decide), pt_r b, sb_ap, ← hs7, pt_r a]; rfl) (fun j a => by rw [sb_ap, f15 0 (by omega), ← hr11, pt_r a, pt_oo (by decide), sb_ap, ← hs7, pt_oo (by decide)]; rfl) (fun o a b c => by rw [sb_ap, f15 o a, ← hr11, pt_o b, pt_o c, sb_ap, ← hs7, pt_o (by omega)]; rfl) ⟨by rw [w9, sb_ap, f15 1 (by omega), ← hr11, pt_oo (by decide), pt_r (by decide), sb_ap, ← hs7, pt_a], by rw [w9]; exact rg_n (k := 5) (by omega) (by omega) (by omega)⟩ ⟨by rw [w13, sb_ap, f15 1 (by omega), ← hr11, pt_oo (by decide), pt_a], by rw [w14, sb_ap, f15 0 (by omega), ← hr11, pt_a]⟩
  obtain ⟨d', t4, y, e3, e4, e5, b1, b2, b3⟩ := behind_p hD2 (by rw [wo 16 (by decide) (by decide) (by decide), et2]; exact hT) (k := 20) (by omega)
  refine ⟨r1, r11, d', y, t4, e1, by rw [hs5, hs7]; exact eb, by rw [hs5, hs7, hs15]; exact e3, by rw [hs5, hs7, hs15]; exact e4 _ (fun o ho => by rw [sb_ap, mg_i (by omega) (by omega), Nat.add_sub_cancel_left]), ⟨t2, e2, by rw [ht3]; exact e5⟩, fun j hj => ?_, fun o a b => ?_, ?_, ?_⟩
  · rw [b3 j hj, to 2 (by decide), a2 j hj]
  · rw [b1 o (by omega) (by omega), to o (by omega), a1 o (by omega)]
  · rw [b2 8 (by decide), to 0 (by decide), a1 0 (by decide)]
  · rw [b2 13 (by decide), to 0 (by decide), a1 0 (by decide)]
theorem budgetFor_p (h : PP s t C R n T) (i0 : Int32) : QS s t (fX7_budgetFor s i0) (fX8_budgetFor t i0) := by
  unfold fX7_budgetFor fX8_budgetFor
  rw [bd_e]
  obtain ⟨b, d, e1, e2, hP⟩ := it_pair (f := fun v => fX7_budgetFor_b2 i0 v.1 v.2) (g := fun v => fX8_budgetFor_b7 i0 v.1 v.2) (fun k v u => k ≤ 21 ∧ v.1 = nI (21 - k) ∧ u.1 = nI (21 - k) ∧ CI s v.2 ∧ MI t u.2) (fun b d => QS s t (fX7_budgetFor_k2 b) (fX8_budgetFor_k7 d)) 21 FU_ FU_ ((0 : Int32), s) ((0 : Int32), pt_ t 0 6 0) (Nat.le_of_ble_eq_true rfl) (Nat.le_of_ble_eq_true rfl) ⟨Nat.le_refl _, rfl, rfl, CI.r, MI.t6⟩ (fun k v u hk hJ => by
    obtain ⟨v1, z⟩ := v
    obtain ⟨u1, y⟩ := u
    obtain ⟨h21, ev, eu, hC, hM⟩ := hJ
    dsimp only at ev eu hC hM
    subst ev eu
    dsimp only
    unfold fX7_budgetFor_b2 fX8_budgetFor_b7
    by_cases h0 : k = 0
    · subst h0
      right
      refine ⟨.inr z, .inr y, by rw [if_pos (by decide)], by rw [if_pos (by decide)], z, -1, y, rfl, rfl, hC, hM⟩
    · have hb : 21 - k ≤ 20 := by omega
      obtain ⟨r1, r11, r17, yv, t5, c1, c2, c3, c4, ⟨t2, m1, m2⟩, hM5⟩ := budget1 (s := z) (t := y) (h.ext (fun o a b c d => hC o (by omega) c d) hM.1) (21 - k) hb
      have hn : ¬ (20 : Int32) < nI (21 - k) := nI_nlt (b := 21 - k) (a := 20) hb (by omega)
      rw [if_neg hn, if_neg hn, bn_e c1, bd_e, bd_e, bn_e c2, bd_e, bn_e c3, bd_e, bn_e c4, bn_e m1, gd_t b9_, bd_e, i9_, gd_t b13_, bd_e, i13_, gd_t b14_, bd_e, i14_, bn_e m2]
      dsimp only
      have hC5 : CI s (mg_ (mg_ (pt_ (mg_ z 83 33 r1) 84 11 5) 83 33 r11) 83 33 r17) := fun o a b c => by rw [mg_o (by omega), mg_o (by omega), pt_o (by omega), mg_o (by omega)]; exact hC o a b c
      by_cases hlt : yv < i0
      · left
        refine ⟨_, _, k - 1, by omega, by rw [if_pos hlt], by rw [if_pos hlt], by omega, ?_, ?_, hC5, hM.tr hM5⟩
        · dsimp only
          rw [nI_1, show 21 - k + 1 = 21 - (k - 1) by omega]
        · dsimp only
          rw [nI_1, show 21 - k + 1 = 21 - (k - 1) by omega]
      · right
        exact ⟨_, _, by rw [if_neg hlt], by rw [if_neg hlt], _, nI (21 - k), t5, rfl, rfl, hC5, hM.tr hM5⟩)
  unfold fX7_budgetFor_l2 fX8_budgetFor_l7
  rw [bn_e e1, bn_e e2]
  exact hP
end PREDICT
