/-! the law's areCostsRight, rules and the end -/
section COSTSR2
variable {s t : st_} {C R n T K : Nat}
/-- what was paid by taking each rule, summed -/
theorem tks_sum {w : Nat → Int32} (h1 : 1 ≤ R) (h6 : R ≤ 6) : ∀ T, (∀ k, k < T → rg_ (w (548 + k)) 0 (R - 1)) → nsm (fun q => tks_ w q T) R = nsm (cs_ w 6) T
  | 0, _ => by
    have e : ∀ R, nsm (fun q => tks_ w q 0) R = 0 := fun R => by
      induction R with
      | zero => rfl
      | succ R ih => show nsm (fun q => tks_ w q 0) R + 0 = 0; rw [ih]
    rw [e]
    rfl
  | T + 1, h => by
    have ih := tks_sum (w := w) h1 h6 T (fun k hk => h k (by omega))
    obtain ⟨r, _, hr, er⟩ := (h T (by omega)).ex
    show _ = nsm (cs_ w 6) T + cs_ w 6 T
    rw [← ih]
    have e : ∀ m, m ≤ R → nsm (fun q => tks_ w q (T + 1)) m = nsm (fun q => tks_ w q T) m + (if r < m then cs_ w 6 T else 0) := fun m => by
      induction m with
      | zero => intro _; rfl
      | succ m im =>
        intro hm
        show nsm (fun q => tks_ w q (T + 1)) m + (tks_ w m T + (if w (548 + T) = nI m then cs_ w 6 T else 0)) = nsm (fun q => tks_ w q T) m + tks_ w m T + _
        rw [im (by omega), er]
        by_cases hc : r = m
        · subst hc
          rw [if_pos rfl, if_neg (by omega), if_pos (by omega)]
          omega
        · rw [if_neg (fun z => hc ((nI_eq (by omega) (by omega)).mp z))]
          by_cases hlt : r < m
          · rw [if_pos hlt, if_pos (by omega)]
            omega
          · rw [if_neg hlt, if_neg (by omega)]
            omega
    rw [e R (Nat.le_refl _), if_pos (by omega)]
theorem tks_le {w : Nat → Int32} {r : Nat} : ∀ T, tks_ w r T ≤ nsm (cs_ w 6) T
  | 0 => Nat.le_refl _
  | T + 1 => by
    have := tks_le (w := w) (r := r) T
    show tks_ w r T + _ ≤ nsm (cs_ w 6) T + cs_ w 6 T
    split <;> omega
theorem HH.nb (h : HH s t C R n T) {m : Nat} (hm : am6 R m) {k : Nat} (hk : k ≤ T) : nsm (cs_ (t 1) m) k ≤ 9900000 := by
  have hP := h.2.2.1.2.2.1 m hm
  have hT := h.2.2.1.1.2.2.2
  have b1 := nsm_b (F := cs_ (t 1) m) (M := 9900) k (fun i hi => (hP.2.1 i (by omega)).2.2)
  have : k * 9900 ≤ 1000 * 9900 := Nat.mul_le_mul_right _ (by omega)
  omega
theorem HH.paid (h : HH s t C R n T) {m : Nat} (hm : am6 R m) : t 1 (ab_ m + 3) = nI (nsm (cs_ (t 1) m) T) := (h.2.2.1.2.2.1 m hm).2.2
theorem HH.tk (h : HH s t C R n T) : ∀ k, k < T → rg_ (t 1 (548 + k)) 0 (R - 1) := fun k hk => (h.2.2.1.2.2.2.1 k hk).2
/-- differences of numbers that are not great -/
theorem nI_sub_le {a b c : Nat} (ha : a < 1000000000) (hb : b < 1000000000) (hc : c < 1000000000) (h : c ≤ b) : nI a - nI b ≤ nI a - nI c := by
  have e1 : ∀ x, x < 1000000000 → (nI a - nI x).toInt = (a : Int) - x := fun x hx => by
    rw [Int32.toInt_sub, nI_toInt (by omega), nI_toInt (by omega)]
    have h1 : (a : Int) < 1000000000 := by omega
    have h2 : (x : Int) < 1000000000 := by omega
    rw [Int.bmod_def]
    omega
  rw [Int32.le_iff_toInt_le, e1 b hb, e1 c hc]
  omega
/-- the exchanges' sum is not below zero -/
theorem sw_pos {w : Nat → Int32} (hI : WI w R T) (h1 : 1 ≤ R) (h6 : R ≤ 6) (hT : T ≤ 1000) : ∀ k, k ≤ R → ∃ q, sw_s w R k = nI q ∧ q ≤ 9900000 * k := by
  intro k
  induction k with
  | zero => exact fun _ => ⟨0, rfl, Nat.zero_le _⟩
  | succ k ih =>
    intro hk
    obtain ⟨q, e1, hq⟩ := ih (by omega)
    obtain ⟨x, ex, hx⟩ := hI.2.2.2.1 k k (by omega) (by omega)
    have hb := bw_lt (w := w) (r := k) h1
    obtain ⟨y, ey, hy⟩ := hI.2.2.2.1 k (bw_ w R k) (by omega) hb
    have hmin := bst_min (f := fun o => w (12548 + 6 * k + o)) (R - 1) k (by omega)
    have hmin : w (12548 + 6 * k + bw_ w R k) ≤ w (12548 + 6 * k + k) := hmin
    have hxT : 9900 * T ≤ 9900 * 1000 := Nat.mul_le_mul_left _ hT
    have hyx : y ≤ x := by
      rw [ex, ey] at hmin
      rcases Nat.lt_or_ge x y with hlt | hge
      · exact absurd hmin (nI_ge hlt (by omega))
      · exact hge
    refine ⟨q + (x - y), ?_, by omega⟩
    show sw_s w R k + (w (12548 + 6 * k + k) - w (12548 + 6 * k + bw_ w R k)) = _
    rw [e1, ex, ey, pk_sub hyx, nI_add]
/-- the rules' share of the answer -/
theorem YY.rules (h : YY s t C R n T K) {r : Nat} (hr : r < R) : wp_ (fL_areCostsRight_b236 s (nI R) (nI (scn_ (fun k => t 1 (548 + k)) T r)) (nI (nsm (fun q => tks_ (t 1) q T) r)) (nI (scn_ (fun k => t 1 (1748 + k)) T r)) (nI (wts_ (t 1) r)) (nI r)) (fun x => x = .inl (nI (scn_ (fun k => t 1 (548 + k)) T (r + 1)), nI (nsm (fun q => tks_ (t 1) q T) (r + 1)), nI (scn_ (fun k => t 1 (1748 + k)) T (r + 1)), nI (wts_ (t 1) (r + 1)), nI (r + 1))) := by
  have hB := h.1.1.rb
  have h1 := hB.1.1
  have h6 := hB.1.2.1
  have hT := h.1.2.2.1.1.2.2.2
  obtain ⟨i1, i2, i3, i4, i5, i6, i7, i8, i9⟩ := id h.2.1
  obtain ⟨w1, w2, w3⟩ := wts_ok h.1
  obtain ⟨u1, u2, u3⟩ := w3 r hr
  obtain ⟨r2, r3, r4, r5⟩ := v_rule h.1 hr
  have ea : gX7_arm s (nI r) (3 : Int32) = some (t 1 (ab_ r + 3)) := by
    have := v_arm h.1 (m := r) (k := 3) (Or.inl hr) (by omega)
    unfold xa_ at this
    rw [if_neg (by omega)] at this
    exact this
  have esw := v_swapCost h.1 hr hr
  obtain ⟨l1, l2, l3, l4, l5⟩ := stk_le (f := fun k => t 1 (548 + k)) (v := nI r) T
  have est := v_streak h.1 hr
  have hb := bw_lt (w := t 1) (r := r) h1
  have erg := v_regret h.1 i9 (k := 0) (by omega)
  have e3 : t 1 (26 + 5 * r + 3) = nI (cnt (fun k => t 1 (548 + k)) (nI r) T) := i1 r hr
  unfold fL_areCostsRight_b236
  refine wp_if' (nI_ge hr (by omega)) (wp_bne r3 (wp_bne r5 (wp_bne (v_leads h.1 hr) (wp_bne r2 (wp_bne r2 (wp_if' ?_ (wp_bne r4 (wp_bne ea (wp_it rfl (wp_bne esw (wp_bne r5 (wp_it (i5 r hr) (wp_bne est (wp_bne r3 (wp_if' ?_ (wp_bne est ?_))))))))))))))))
  · rw [u1]
    exact nI_nlt (b := 1) u2 (by omega)
  · rw [e3]
    exact nI_nlt l1 (by omega)
  have fin : ∀ z : Int32, wp_ (fL_areCostsRight_j378 s (nI (scn_ (fun k => t 1 (548 + k)) T r)) (nI (nsm (fun q => tks_ (t 1) q T) r)) (nI (scn_ (fun k => t 1 (1748 + k)) T r)) (nI (wts_ (t 1) r)) (nI r) (t 1 (26 + 5 * r + 3)) (t 1 (26 + 5 * r + 4)) (nI (cnt (fun k => t 1 (1748 + k)) (nI r) T)) (t 1 (26 + 5 * r + 2)) z z) (fun x => x = .inl (nI (scn_ (fun k => t 1 (548 + k)) T (r + 1)), nI (nsm (fun q => tks_ (t 1) q T) (r + 1)), nI (scn_ (fun k => t 1 (1748 + k)) T (r + 1)), nI (wts_ (t 1) (r + 1)), nI (r + 1))) := fun z => by
    unfold fL_areCostsRight_j378
    refine wp_it rfl (wp_bne (v_regretTo h.1 hr) (wp_bne erg (wp_it ?_ (wp_bne (v_bestSwap h.1 hr) (wp_bne (v_swapCost h.1 hr hb) (wp_bne esw (wp_it ?_ (wp_s ?_))))))))
    · show t 1 (ab_ 6 + 3) - t 1 (ab_ r + 3) ≤ t 1 (ab_ 6 + 3) - t 1 (ab_ (bs_ (t 1) R) + 3)
      have hmin : t 1 (ab_ (bs_ (t 1) R) + 3) ≤ t 1 (ab_ r + 3) := bst_min (f := fun r => t 1 (ab_ r + 3)) (R - 1) r (by omega)
      have hbs := bs_lt (w := t 1) h1
      have n6 := h.1.nb (m := 6) (Or.inr rfl) (Nat.le_refl T)
      have nr := h.1.nb (m := r) (Or.inl hr) (Nat.le_refl T)
      have nb := h.1.nb (m := bs_ (t 1) R) (Or.inl hbs) (Nat.le_refl T)
      rw [h.1.paid (Or.inl hr), h.1.paid (Or.inl hbs)] at hmin
      rw [h.1.paid (Or.inl hr), h.1.paid (Or.inl hbs), h.1.paid (Or.inr rfl)]
      refine nI_sub_le (by omega) (by omega) (by omega) ?_
      rcases Nat.lt_or_ge (nsm (cs_ (t 1) r) T) (nsm (cs_ (t 1) (bs_ (t 1) R)) T) with hlt | hge
      · exact absurd hmin (nI_ge hlt (by omega))
      · exact hge
    · exact bst_min (f := fun o => t 1 (12548 + 6 * r + o)) (R - 1) r (by omega)
    · rw [e3, i2 r hr, u1, nI_add, nI_add, nI_add, nI_add, nI_1]
      rfl
  have fin2 : ∀ z : Int32, ((z = 1 ∧ (stk_ (fun k => t 1 (548 + k)) (nI r) T).1 = 0) ∨ (z = 0 ∧ ¬ (stk_ (fun k => t 1 (548 + k)) (nI r) T).1 = 0)) → wp_ (fL_areCostsRight_j363 s (nI (scn_ (fun k => t 1 (548 + k)) T r)) (nI (nsm (fun q => tks_ (t 1) q T) r)) (nI (scn_ (fun k => t 1 (1748 + k)) T r)) (nI (wts_ (t 1) r)) (nI r) (t 1 (26 + 5 * r + 3)) (t 1 (26 + 5 * r + 4)) (nI (cnt (fun k => t 1 (1748 + k)) (nI r) T)) (t 1 (26 + 5 * r + 2)) z) (fun x => x = .inl (nI (scn_ (fun k => t 1 (548 + k)) T (r + 1)), nI (nsm (fun q => tks_ (t 1) q T) (r + 1)), nI (scn_ (fun k => t 1 (1748 + k)) T (r + 1)), nI (wts_ (t 1) (r + 1)), nI (r + 1))) := fun z hz => by
    unfold fL_areCostsRight_j363
    refine wp_bne r3 ?_
    rcases hz with ⟨hz, hs⟩ | ⟨hz, hs⟩
    · have := l4.mpr hs
      rw [hz]
      exact wp_it (by rw [e3, this]; rfl) (fin 1)
    · rw [hz]
      exact wp_if' (by rw [e3]; exact fun y => hs (l4.mp ((nI_eq (b := 0) (by omega) (by omega)).mp y))) (fin 0)
  by_cases hz : (stk_ (fun k => t 1 (548 + k)) (nI r) T).1 = 0
  · exact wp_it (by rw [hz]; rfl) (fin2 1 (Or.inl ⟨rfl, hz⟩))
  · exact wp_if' (fun y => hz ((nI_eq (b := 0) (by omega) (by omega)).mp y)) (fin2 0 (Or.inr ⟨rfl, hz⟩))
/-- costs are right -/
theorem YY.costs (h : YY s t C R n T K) : fL_areCostsRight s (nI R) = some 1 := by
  have hB := h.1.1.rb
  have h1 := hB.1.1
  have h6 := hB.1.2.1
  have hT := h.1.2.2.1.1.2.2.2
  obtain ⟨w1, w2, w3⟩ := wts_ok h.1
  have hne : ¬ nI (wts_ (t 1) R) = (0 : Int32) := fun z => by
    have := (nI_eq (b := 0) (by omega) (by omega)).mp z
    omega
  suffices hw : wp_ (fL_areCostsRight s (nI R)) (fun x => x = 1) by
    obtain ⟨x, e1, rfl⟩ := hw
    exact e1
  unfold fL_areCostsRight fL_areCostsRight_l7
  refine wp_bne (v_rounds h.1) (wp_bn (Q := fun x => x = .inr (.inr (.inr ()))) ?_ (fun x hx => ?_))
  · refine wp_up (fun j v => v = xj_ R j) 0 (R + 1) (Nat.zero_le _) (by omega) rfl (fun j v hj _ hv => ?_) (fun v hv => ?_)
    · subst hv
      obtain ⟨x, ex, hx⟩ := h.arms hj
      subst hx
      exact ⟨_, ex, rfl⟩
    · subst hv
      unfold fL_areCostsRight_b7
      refine wp_it ?_ (wp_r rfl)
      unfold xj_
      rw [if_neg (by omega), Nat.add_sub_cancel]
      exact Int32.le_refl _
  subst hx
  show wp_ (fL_areCostsRight_x7_222 s (nI R) (nI T)) _
  unfold fL_areCostsRight_x7_222 fL_areCostsRight_l236
  refine wp_bn (Q := fun x => x = .inr (.inr (nI (scn_ (fun k => t 1 (548 + k)) T R), nI (nsm (fun q => tks_ (t 1) q T) R), nI (scn_ (fun k => t 1 (1748 + k)) T R), nI (wts_ (t 1) R)))) ?_ (fun x hx => ?_)
  · refine wp_up (fun r v => v = (nI (scn_ (fun k => t 1 (548 + k)) T r), nI (nsm (fun q => tks_ (t 1) q T) r), nI (scn_ (fun k => t 1 (1748 + k)) T r), nI (wts_ (t 1) r), nI r)) 0 R (Nat.zero_le _) (by omega) rfl (fun r v hr _ hv => ?_) (fun v hv => ?_)
    · subst hv
      obtain ⟨x, ex, hx⟩ := h.rules hr
      subst hx
      exact ⟨_, ex, rfl⟩
    · subst hv
      unfold fL_areCostsRight_b236
      exact wp_it (Int32.le_refl _) (wp_r rfl)
  subst hx
  show wp_ (fL_areCostsRight_x236_428 s (nI R) (nI T) (nI (scn_ (fun k => t 1 (548 + k)) T R)) (nI (nsm (fun q => tks_ (t 1) q T) R)) (nI (scn_ (fun k => t 1 (1748 + k)) T R)) (nI (wts_ (t 1) R))) _
  unfold fL_areCostsRight_x236_428 fL_areCostsRight_l431
  refine wp_bn (Q := fun x => x = .inr ()) ?_ (fun x hx => ?_)
  · refine wp_up (fun r v => v = nI r) 0 R (Nat.zero_le _) (by omega) rfl (fun r v hr _ hv => ?_) (fun v hv => ?_)
    · subst hv
      unfold fL_areCostsRight_b431
      exact wp_if' (nI_ge hr (by omega)) (wp_bne (v_share h.1 hr) (wp_bne (v_rule h.1 hr).1 (wp_gd (n32_div hne) (wp_it (share_self hne) (wp_l (nI_1 r))))))
    · subst hv
      unfold fL_areCostsRight_b431
      exact wp_it (Int32.le_refl _) (wp_r rfl)
  subst hx
  show wp_ (fL_areCostsRight_x431_467 s (nI T) (nI (scn_ (fun k => t 1 (548 + k)) T R)) (nI (nsm (fun q => tks_ (t 1) q T) R)) (nI (scn_ (fun k => t 1 (1748 + k)) T R))) _
  unfold fL_areCostsRight_x431_467
  rw [(scn_all (f := fun k => t 1 (548 + k)) h1 h6 T).2.mpr h.1.tk, (scn_all (f := fun k => t 1 (1748 + k)) h1 h6 T).2.mpr h.2.1.2.2.1, tks_sum h1 h6 T h.1.tk]
  have hbs := bs_lt (w := t 1) h1
  obtain ⟨q, eq, hq⟩ := sw_pos h.2.1 h1 h6 hT R (Nat.le_refl _)
  have hR9 : 9900000 * R ≤ 9900000 * 6 := Nat.mul_le_mul_left _ h6
  refine wp_it rfl (wp_bne (v_arm h.1 (m := 6) (k := 3) (Or.inr rfl) (by omega)) (wp_it (h.1.paid (Or.inr rfl)).symm (wp_it rfl (wp_bne (v_regret h.1 h.2.1.2.2.2.2.2.2.2.2 (k := 0) (by omega)) (wp_bne (v_best h.1) (wp_bne (v_regretTo h.1 hbs) (wp_it rfl (wp_bne (v_swapRegret h.1) (wp_if' ?_ (wp_s rfl))))))))))
  rw [eq]
  exact nI_nlt (b := 0) (Nat.zero_le _) (by omega)
end COSTSR2
