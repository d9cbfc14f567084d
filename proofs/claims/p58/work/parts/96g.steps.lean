/-! the law's steps keep what the property rests on -/
section STEPS
variable {s s' t t' : st_} {C R n n' T K k v : Nat} {i0 : Int32}
theorem QU.ex {g : Nat → Int32} {A : Option (st_ × (Int32 ⊕ Nat))} {B : Option (st_ × Int32)} {x : Int32 ⊕ Nat} (h : QU g s t A B) (e : A = some (s', x)) : ∃ t', GH s' t' := by
  obtain ⟨s2, x2, t', y, e1, -, -, -, -, hg⟩ := h
  cases e.symm.trans e1
  exact ⟨t', hg⟩
theorem YY.setFoe (h : YY s t C R n T K) (hv : v ≤ 5) : ∃ t', gX7_setFoe s (nI v) = some (pt_ s 10 11 (nI v), s 10 11) ∧ YY (pt_ s 10 11 (nI v)) t' C R n T K := by
  have hw : (0 : Int32) ≤ nI v ∧ nI v ≤ (5 : Int32) := ⟨nI_pos' (by omega), nI_le (b := 5) hv (by omega)⟩
  obtain ⟨t', hg⟩ := (setFoe_p h.1 (nI v)).ex (s' := pt_ s 10 11 (nI v)) (x := .inl (s 10 11)) (by unfold fX7_setFoe; rw [bn_e (within_t hw), tb_l, bd_e])
  refine ⟨t', ?_, h.set hg (fun o a b => pt_o (by omega)) (pt_oo (by decide)) (pt_r (by decide)) (pt_r (by decide)) (pt_r (by decide)) (pt_r (by decide))⟩
  unfold gX7_setFoe
  rw [bn_e (gWithin hw.1 hw.2), bd_e]
theorem YY.setEta (h : YY s t C R n T K) (hv1 : 1 ≤ v) (hv : v ≤ 500) : ∃ t', gX7_setEta s (nI v) = some (pt_ s 10 9 (nI v), s 10 9) ∧ YY (pt_ s 10 9 (nI v)) t' C R n T K := by
  have hw : (1 : Int32) ≤ nI v ∧ nI v ≤ (500 : Int32) := ⟨nI_le (a := 1) hv1 (by omega), nI_le (b := 500) hv (by omega)⟩
  obtain ⟨t', hg⟩ := (setEta_p h.1 (nI v)).ex (s' := pt_ s 10 9 (nI v)) (x := .inl (s 10 9)) (by unfold fX7_setEta; rw [bn_e (within_t hw), tb_l, bd_e])
  refine ⟨t', ?_, h.set hg (fun o a b => pt_o (by omega)) (pt_oo (by decide)) (pt_r (by decide)) (pt_r (by decide)) (pt_r (by decide)) (pt_r (by decide))⟩
  unfold gX7_setEta
  rw [bn_e (gWithin hw.1 hw.2), bd_e]
theorem YY.setBudget (h : YY s t C R n T K) (hw : -1 ≤ i0 ∧ i0 ≤ 999) : ∃ s' t', gX7_setBudget s i0 = some (s', s 10 16) ∧ YY s' t' C R n T K := by
  obtain ⟨t', hg⟩ := (setBudget_p h.1 i0).ex (s' := mg_ s 9 33 (pt_ (pt_ (sb_ s 9) 1 16 i0) 0 11 0)) (x := .inl (s 10 16)) (by
    unfold fX7_setBudget fX1_takeBudget
    rw [bn_e (within_t hw), tb_l, bd_e, bd_e, bn_s, bd_e])
  have q : ∀ o j, (o ≠ 9 ∨ j ≠ 11) → (o ≠ 10 ∨ j ≠ 16) → mg_ s 9 33 (pt_ (pt_ (sb_ s 9) 1 16 i0) 0 11 0) o j = s o j := fun o j a b => by
    by_cases hc : 9 ≤ o ∧ o < 42
    · obtain ⟨o', rfl⟩ : ∃ o', o = 9 + o' := ⟨o - 9, by omega⟩
      rw [mg_i (by omega) (by omega), Nat.add_sub_cancel_left]
      have e1 : pt_ (pt_ (sb_ s 9) 1 16 i0) 0 11 0 o' j = pt_ (sb_ s 9) 1 16 i0 o' j := by
        by_cases h0 : o' = 0
        · subst h0; exact pt_r (by omega)
        · exact pt_oo h0
      have e2 : pt_ (sb_ s 9) 1 16 i0 o' j = sb_ s 9 o' j := by
        by_cases h0 : o' = 1
        · subst h0; exact pt_r (by omega)
        · exact pt_oo h0
      rw [e1, e2]
      rfl
    · rw [mg_o (by omega)]
  refine ⟨_, t', ?_, h.set hg (fun o a b => funext fun j => q o j (by omega) (by omega)) (q _ _ (by omega) (by omega)) (q _ _ (by omega) (by omega)) (q _ _ (by omega) (by omega)) (q _ _ (by omega) (by omega)) (q _ _ (by omega) (by omega))⟩
  unfold gX7_setBudget fX1_takeBudget
  rw [bn_e (gWithin hw.1 hw.2), bd_e, bd_e, bn_s, bd_e]
theorem gCyl (h : HH s t C R n T) (hv : v < C) : gX7_requireCylinder s (nI v) = some () ∧ fX7_requireCylinder s (nI v) = some (.inl ()) := by
  have h0 : s 10 0 = nI C := h.1.1.1.2.2.1
  have h2 := h.1.1.1.1
  have hC := h.1.1.1.2.1
  have hw : (0 : Int32) ≤ nI v ∧ nI v ≤ nI (C - 1) := ⟨nI_pos' (by omega), nI_le (by omega) (by omega)⟩
  refine ⟨?_, reqCyl_t h0 h2 hw⟩
  unfold gX7_requireCylinder
  rw [h0, show nI C - (1 : Int32) = nI (C - 1) from pk_sub (b := 1) (by omega), bn_e (gWithin hw.1 hw.2)]
theorem YY.addAsk (h : YY s t C R n T K) (hv : v < C) : ∃ s' x t', gX7_addAsk s (nI v) = some (s', x) ∧ YY s' t' C R n T K := by
  obtain ⟨c1, c2⟩ := gCyl h.1 hv
  obtain ⟨⟨b1, b2⟩, b3, b4, ⟨b5, b6⟩, ⟨b7, b8⟩, ⟨b9, b10, b11, b12⟩, ⟨b13, b14⟩, b15, b16⟩ := h.1.1.gt
  obtain ⟨K', _, hK, eK⟩ := b10.ex
  have e12 : s 10 12 = nI K' := (show s 10 12 = t 1 10 from b9).trans eK
  unfold gX7_addAsk
  rw [bn_e c1]
  by_cases hK16 : K' < 16
  · have ep : fX5_putAsk (sb_ s 10) (nI v) = some (pt_ (pt_ (sb_ s 10) 3 K' (nI v)) 0 12 (nI (K' + 1))) := by
      have e12' : sb_ s 10 0 12 = nI K' := e12
      have e12'' : (pt_ (sb_ s 10) 3 K' (nI v)) 0 12 = nI K' := (pt_oo (by decide)).trans e12'
      have ei : ix_ (nI K') = K' := ix_n (by omega)
      unfold fX5_putAsk
      rw [e12', if_neg (show ¬ (16 : Int32) ≤ nI K' from nI_ge (b := 16) hK16 (by omega)), gd_t (ib_n hK16 (by omega)), ei, bd_e, e12'', bd_e, nI_1]
    rw [e12, if_pos (show nI K' < (16 : Int32) from nI_lt (b := 16) hK16 (by omega)), bn_e ep, bd_e]
    obtain ⟨t', hg⟩ := (addAsk_p h.1 (nI v)).ex (s' := mg_ s 10 4 (pt_ (pt_ (sb_ s 10) 3 K' (nI v)) 0 12 (nI (K' + 1)))) (x := .inl ((mg_ s 10 4 (pt_ (pt_ (sb_ s 10) 3 K' (nI v)) 0 12 (nI (K' + 1)))) 10 12 - (1 : Int32))) (by
      unfold fX7_addAsk
      rw [bn_e c2, tb_l, e12, if_pos (show nI K' < (16 : Int32) from nI_lt (b := 16) hK16 (by omega)), bn_e ep, bd_e])
    have q : ∀ o j, (o ≠ 10 ∨ j ≠ 12) → o ≠ 13 → mg_ s 10 4 (pt_ (pt_ (sb_ s 10) 3 K' (nI v)) 0 12 (nI (K' + 1))) o j = s o j := fun o j a b => by
      by_cases hc : 10 ≤ o ∧ o < 14
      · obtain ⟨o', rfl⟩ : ∃ o', o = 10 + o' := ⟨o - 10, by omega⟩
        rw [mg_i (by omega) (by omega), Nat.add_sub_cancel_left]
        have e1 : pt_ (pt_ (sb_ s 10) 3 K' (nI v)) 0 12 (nI (K' + 1)) o' j = pt_ (sb_ s 10) 3 K' (nI v) o' j := by
          by_cases h0 : o' = 0
          · subst h0; exact pt_r (by omega)
          · exact pt_oo h0
        rw [e1, pt_oo (by omega)]
        rfl
      · rw [mg_o (by omega)]
    exact ⟨_, _, t', rfl, h.set hg (fun o a b => funext fun j => q o j (by omega) (by omega)) (q _ _ (by omega) (by omega)) (q _ _ (by omega) (by omega)) (q _ _ (by omega) (by omega)) (q _ _ (by omega) (by omega)) (q _ _ (by omega) (by omega))⟩
  · rw [e12, if_neg (show ¬ nI K' < (16 : Int32) from nI_nlt (b := 16) (by omega) (by omega))]
    exact ⟨_, _, t, rfl, h⟩
/-- the state behind setMaster -/
def msr_ (s : st_) (v r : Nat) : st_ := mg_ s 10 4 (pt_ (pt_ (sb_ s 10) 0 7 (nI v)) 0 8 (if nI v = 2 then nI r else -1))
theorem YY.setMaster {r : Nat} (h : YY s t C R n T K) (hv : v ≤ 2) (hr : r < R) : ∃ t', gX7_setMaster s (nI v) (nI r) = some (msr_ s v r, s 10 7) ∧ YY (msr_ s v r) t' C R n T K := by
  have hB := h.1.1.rb
  have h6 := hB.1.2.1
  have hw : (0 : Int32) ≤ nI v ∧ nI v ≤ (2 : Int32) := ⟨nI_pos' (by omega), nI_le (b := 2) hv (by omega)⟩
  have ej : fX7_setMaster_j16 s (nI v) (nI r) = some (msr_ s v r, .inl (s 10 7)) := by
    unfold fX7_setMaster_j16 msr_
    rw [bn_e takeMaster_e, bd_e]
  have ej2 : gX7_setMaster_j16 s (nI v) (nI r) = some (msr_ s v r, s 10 7) := by
    unfold gX7_setMaster_j16 msr_
    rw [bn_e takeMaster_e, bd_e]
  obtain ⟨t', hg⟩ := (setMaster_p h.1 (nI v) (nI r)).ex (s' := msr_ s v r) (x := .inl (s 10 7)) (by
    unfold fX7_setMaster
    rw [bn_e (within_t hw), tb_l, bn_e (reqRule_t hB.1.2.2.1 hr h6), tb_l, ej]
    split <;> rfl)
  obtain ⟨m1, m2, m3, m4⟩ := mast_h (s := s) (a := 9) (b := 10) (kind := nI v) (y := if nI v = 2 then nI r else -1) rfl
  refine ⟨t', ?_, h.set hg (fun o a b => m1 o (by omega)) (congrFun (m1 9 (by decide)) 9) (m2 0 (by decide) (by decide)) (m2 4 (by decide) (by decide)) (m2 17 (by decide) (by decide)) (m2 18 (by decide) (by decide))⟩
  unfold gX7_setMaster
  rw [bn_e (gWithin hw.1 hw.2), bn_e (gRule hB.1.2.2.1 hr h6), ej2]
  split <;> rfl
theorem YY.request (h : YY s t C R n T K) (hv : v < C) (hn : n < 20) : ∃ d' t' n' x, fX1_addForAll (sb_ s 9) (nI v) = some d' ∧ gX7_request s (nI v) = some (mg_ s 9 33 d', x) ∧ YY (mg_ s 9 33 d') t' C R n' T K := by
  obtain ⟨c1, c2⟩ := gCyl h.1 hv
  have h20 := h.1.n20
  have h6 := h.1.1.rb.1.2.1
  have hC := h.1.1.1.1.2.1
  obtain ⟨d', t', e1, e2, hm, hD, hw, ho, hk⟩ := come_dd (q := nI v) h.1.1 hn (rg_n (Nat.zero_le _) (by omega) (by omega))
  have hD2 : DD (sb_ (mg_ s 9 33 d') 9) (t' 1) C R (n + 1) := hD.x33 (fun o a => put9 a)
  have hU2 : UPS (sb_ (mg_ s 9 33 d') 9) := (h.1.2.1.ok hk hD (h.1.1.rv.trans (hw 21 (by omega)).symm)).x33 (fun o a => put9 a)
  have hH : HH (mg_ s 9 33 d') t' C R (n + 1) T := h.1.eq hD2 hU2 (fun o _ => mg_o (by omega)) (fun i _ a => hw i (by unfold rI_ at a; omega))
  have hA : DT d' R (n + 1) T K := addx e1 h.1.1.2.2 h.1.1.rv h.2.2 (h.1.1.mk.trans h.1.2.2.1.1.2.2.1) h.1.1.rb.1.2.2.1 h6 hn
  refine ⟨d', t', n + 1, mg_ s 9 33 d' 14 2, e1, ?_, hH, ?_, hA.ext h6 (fun o hoo => put9 (by omega))⟩
  · unfold gX7_request
    rw [bn_e c1, bn_e (isFull_e h.1.n5 h20), if_pos (by rw [if_pos hn]), bn_e e1, bd_e]
  · obtain ⟨r1, r2, r3, r4, r5, r6, r7⟩ := h.1.row hH (fun o a b => mg_o (by omega))
    exact h.2.1.row h.1.1.rb.1.1 h6 r1 r2 r3 r4 r5 r6 r7 (hw 11 (by omega)) (hw 12 (by omega))
theorem YY.requests (h : YY s t C R n T K) (hv : v < C) : ∃ s' t' n' x, gX7_request s (nI v) = some (s', x) ∧ YY s' t' C R n' T K := by
  rcases Nat.lt_or_ge n 20 with hn | hn
  · obtain ⟨d', t', n', x, -, e, hY⟩ := h.request hv hn
    exact ⟨_, t', n', x, e, hY⟩
  · obtain ⟨c1, c2⟩ := gCyl h.1 hv
    refine ⟨s, t, n, -2, ?_, h⟩
    unfold gX7_request
    rw [bn_e c1, bn_e (isFull_e h.1.n5 h.1.n20), if_neg (by rw [if_neg (by omega)]; decide)]
theorem YY.step1 {nn : Nat} {ff : Nat → Int32} (h : YY s t C R n T K) (hk : k < 14) (hT : T ≤ 900) : ∃ s' t' n' T' K', fL_step s nn ff (nI (26 + 2 * k)) (nI R) = some s' ∧ YY s' t' C R n' T' K' ∧ T' ≤ T + 9 := by
  have hC2 := h.1.1.1.1.1
  have hC := h.1.1.1.1.2.1
  have hR1 := h.1.1.rb.1.1
  have hR6 := h.1.1.rb.1.2.1
  have e0 : gX7_setting s (0 : Int32) = some (nI C) := by
    rw [show gX7_setting s (0 : Int32) = _ from v_setting h.1 (k := 0) (by omega)]
    unfold stv_
    rw [if_neg (by omega), h.1.1.1.1.2.2.2.1]
  unfold fL_step
  have ea : nI (26 + 2 * k) + (1 : Int32) = nI (26 + 2 * k + 1) := nI_1 _
  rw [ea, gd_t (ib_n (by omega) (by omega)), gd_t (ib_n (by omega) (by omega)), ix_n (by omega), ix_n (by omega)]
  generalize hc1 : cl_ nn ff (26 + 2 * k) = c1
  generalize hc2 : cl_ nn ff (26 + 2 * k + 1) = c2
  have l1 : c1 < 100000 := hc1 ▸ cl_lt nn ff _
  have l2 : c2 < 100000 := hc2 ▸ cl_lt nn ff _
  have rem : ∀ d, 0 < d → d < 1000 → nI c2 - nI c2 / nI d * nI d = nI (c2 % d) := fun d a b => pk_rem (by omega) (by omega) (by omega)
  rw [show nI c1 - nI c1 / (9 : Int32) * (9 : Int32) = nI (c1 % 9) from pk_rem (d := 9) (by omega) (by omega) (by omega), e0]
  have nz : nz_ (nI C) = true := decide_eq_true (fun z => absurd ((nI_eq (b := 0) (by omega) (by omega)).mp z) (by omega))
  have nzR : nz_ (nI R) = true := decide_eq_true (fun z => absurd ((nI_eq (b := 0) (by omega) (by omega)).mp z) (by omega))
  have m9 := Nat.mod_lt c1 (show 0 < 9 by omega)
  have mC := Nat.mod_lt c2 (show 0 < C by omega)
  have mR := Nat.mod_lt c2 (show 0 < R by omega)
  simp only [bn_s, gd_t nz, gd_t nzR, rem C (by omega) (by omega), rem R (by omega) (by omega)]
  rw [show nI c2 - nI c2 / (6 : Int32) * (6 : Int32) = nI (c2 % 6) from rem 6 (by omega) (by omega), show nI c2 - nI c2 / (3 : Int32) * (3 : Int32) = nI (c2 % 3) from rem 3 (by omega) (by omega), show nI c2 - nI c2 / (500 : Int32) * (500 : Int32) = nI (c2 % 500) from rem 500 (by omega) (by omega), show nI c2 - nI c2 / (9 : Int32) * (9 : Int32) = nI (c2 % 9) from rem 9 (by omega) (by omega)]
  obtain ⟨s1, t1, n1, x1, f1, y1⟩ := h.requests mC
  by_cases h0 : nI (c1 % 9) = (0 : Int32)
  · rw [if_pos h0, bn_e f1]
    exact ⟨s1, t1, n1, T, K, rfl, y1, by omega⟩
  rw [if_neg h0]
  by_cases h1 : nI (c1 % 9) = (1 : Int32)
  · rw [if_pos h1, bn_e f1]
    exact ⟨s1, t1, n1, T, K, rfl, y1, by omega⟩
  rw [if_neg h1]
  by_cases h2 : nI (c1 % 9) = (2 : Int32)
  · obtain ⟨t2, f2, y2⟩ := h.setFoe (v := c2 % 6) (by omega)
    rw [if_pos h2, bn_e f2]
    exact ⟨_, t2, n, T, K, rfl, y2, by omega⟩
  rw [if_neg h2]
  by_cases h3 : nI (c1 % 9) = (3 : Int32)
  · obtain ⟨t2, f2, y2⟩ := h.setMaster (v := c2 % 3) (r := c2 % R) (by omega) mR
    rw [if_pos h3, bn_e f2]
    exact ⟨_, t2, n, T, K, rfl, y2, by omega⟩
  rw [if_neg h3]
  by_cases h4 : nI (c1 % 9) = (4 : Int32)
  · obtain ⟨t2, f2, y2⟩ := h.setEta (v := 1 + c2 % 500) (by omega) (by omega)
    rw [if_pos h4, show (1 : Int32) + nI (c2 % 500) = nI (1 + c2 % 500) from nI_add 1 _, bn_e f2]
    exact ⟨_, t2, n, T, K, rfl, y2, by omega⟩
  rw [if_neg h4]
  by_cases h5 : nI (c1 % 9) = (5 : Int32)
  · obtain ⟨s2, x2, t2, f2, y2⟩ := h.addAsk mC
    rw [if_pos h5, bn_e f2]
    exact ⟨_, t2, n, T, K, rfl, y2, by omega⟩
  rw [if_neg h5]
  by_cases h6 : nI (c1 % 9) = (6 : Int32)
  · have hx : ∀ j, j < 9 → (-1 : Int32) ≤ nI j - 1 ∧ nI j - 1 ≤ (999 : Int32) := fun j hj => by
      rcases (show j = 0 ∨ j = 1 ∨ j = 2 ∨ j = 3 ∨ j = 4 ∨ j = 5 ∨ j = 6 ∨ j = 7 ∨ j = 8 by omega) with rfl | rfl | rfl | rfl | rfl | rfl | rfl | rfl | rfl <;> decide
    obtain ⟨s2, t2, f2, y2⟩ := h.setBudget (i0 := nI (c2 % 9) - 1) (hx _ (Nat.mod_lt _ (by omega)))
    rw [if_pos h6, bn_e f2]
    exact ⟨_, t2, n, T, K, rfl, y2, by omega⟩
  rw [if_neg h6]
  obtain ⟨s2, t2, n2, K2, f2, -, -, y2, -⟩ := h.run (k := 1 + c2 % 9) (by omega) (by omega) (by omega)
  rw [show (1 : Int32) + nI (c2 % 9) = nI (1 + c2 % 9) from nI_add 1 _, bn_e f2]
  exact ⟨_, t2, n2, _, K2, rfl, y2, by omega⟩
theorem YY.steps {nn : Nat} {ff : Nat → Int32} : ∀ (d k : Nat) {s t : st_} {n T K : Nat}, k + d = 14 → YY s t C R n T K → T ≤ 9 * k → ∃ s' t' n' T' K', stf nn ff R d k s = some s' ∧ YY s' t' C R n' T' K' ∧ T' ≤ 126
  | 0, k, s, t, n, T, K, hk, h, hT => ⟨s, t, n, T, K, rfl, h, by omega⟩
  | d + 1, k, s, t, n, T, K, hk, h, hT => by
    obtain ⟨s1, t1, n1, T1, K1, e1, h1, l1⟩ := h.step1 (nn := nn) (ff := ff) (k := k) (by omega) (by omega)
    obtain ⟨s2, t2, n2, T2, K2, e2, h2, l2⟩ := YY.steps (nn := nn) (ff := ff) d (k + 1) (by omega) h1 (by omega)
    refine ⟨s2, t2, n2, T2, K2, ?_, h2, l2⟩
    unfold stf
    rw [bn_e e1, e2]
end STEPS
