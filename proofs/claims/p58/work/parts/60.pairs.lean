/-! calls that ask: the best two rules, means and shares, what hurts -/
theorem n64_of {r : UInt64} (h : FP.Core.dIsNaN r = false) : n64_ r = true := by
  unfold n64_
  refine decide_eq_true (UInt64.le_iff_toNat_le.mpr ?_)
  have h1 : ¬ 9218868437227405312 < r.toNat % 2 ^ 63 := fun z => by
    rw [(FP.Core.isNaN_bits r).mpr z] at h
    cases h
  have h2 : (r &&& 0x7fffffffffffffff).toNat = r.toNat % 2 ^ 63 := by
    rw [UInt64.toNat_and]
    exact Nat.and_two_pow_sub_one_eq_mod r.toNat 63
  rw [h2]
  exact Nat.not_lt.mp h1
theorem n32_of {r : UInt32} (h : FP.Core.fIsNaN r = false) : n32_ r = true := by
  unfold n32_
  refine decide_eq_true (UInt32.le_iff_toNat_le.mpr ?_)
  have h1 : ¬ 2139095040 < r.toNat % 2 ^ 31 := fun z => by
    rw [(FP.Core.isNaN_bits32 r).mpr z] at h
    cases h
  have h2 : (r &&& 0x7fffffff).toNat = r.toNat % 2 ^ 31 := by
    rw [UInt32.toNat_and]
    exact Nat.and_two_pow_sub_one_eq_mod r.toNat 31
  rw [h2]
  exact Nat.not_lt.mp h1
theorem n64_div {x y : Int32} (hy : y ≠ 0) : n64_ (FP.ddiv (FP.i2d x) (FP.i2d y)) = true := by
  refine n64_of (FP.Core.ddiv_out ((FP.Core.notNaN_iff _).mpr (FP.Core.i2d_fin x).ne_nan) (FP.Core.i2d_fin y) (fun z => ?_))
  exact FP.Core.i2d_ne_zero hy ((FP.Core.zero_bits2 _).mp z)
theorem n32_div {x y : Int32} (hy : y ≠ 0) : n32_ (FP.fdiv (FP.i2f x) (FP.i2f y)) = true := by
  refine n32_of (FP.Core.fdiv_out ((FP.Core.notNaN_iff32 _).mpr (FP.Core.i2f_fin x).ne_nan) (FP.Core.i2f_fin y) (fun z => ?_))
  exact FP.Core.i2f_ne_zero hy ((FP.Core.zero_bits232 _).mp z)
theorem i32_ab {a b u v : Int32} : (a + u) - (b + v) - (u - v) = a - b := by
  grind
section PAIRS
variable {s t e u : st_} {w : Nat → Int32} {C R n T : Nat}
def QNg {α : Type} (g : Nat → Int32) (t : st_) (A : Option (α ⊕ Nat)) (B : Option (st_ × α)) : Prop := ∃ t', (∃ v, A = some (.inl v) ∧ B = some (t', v) ∧ t' 0 6 = 0 ∧ MI t t') ∨ (∃ c v, A = some (.inr c) ∧ B = some (t', v) ∧ t' 0 6 = g c ∧ g c ≠ 0 ∧ MI t t')
theorem meanCost_p (h : HH s t C R n T) (i0 : Int32) : QNg g1i_ t (fX7_meanCost s i0) (fX8_meanCost t i0) := by
  obtain ⟨hD, -, ⟨⟨-, -, h16, hT⟩, -⟩, -⟩ := h
  have hB := hD.rb
  have hmk := hD.mk
  have e9 : s 9 9 = nI T := hmk.trans h16
  unfold fX7_meanCost fX8_meanCost fX8_meanCost_j18
  rcases armX (C := C) (R := R) i0 hB.1.1 hB.1.2.1 with ⟨o, m, hm, ho, et, hc, eo, hA, hq, hn⟩ | ⟨hq, hn⟩
  · obtain ⟨A, I⟩ := hA _ _ _ hD.2.2
    rw [bn_e (hq s hB.1.2.2.1), tb_l, bn_e (hn t hB.1.2.2.2), if_pos rfl, gd_t b16_, i16_, e9]
    have u16 : (pt_ t 0 6 0) 1 16 = nI T := (pt_oo (by decide)).trans h16
    refine ⟨pt_ t 0 6 0, Or.inl ?_⟩
    by_cases h0 : T = 0
    · subst h0
      rw [if_pos (show nI 0 = (0 : Int32) from rfl), if_pos (show (pt_ t 0 6 0) 1 16 = 0 from u16)]
      exact ⟨_, rfl, rfl, pt_a, MI.t6⟩
    · have hne : ¬ nI T = (0 : Int32) := fun z => h0 ((nI_eq (b := 0) (by omega) (by omega)).mp z)
      have ev : s (9 + o) 5 = t 1 (ab_ m + 3) := A.2.2.2.1
      rw [if_neg hne, if_neg (show ¬ (pt_ t 0 6 0) 1 16 = 0 by rw [u16]; exact hne), bn_e (eo (sb_ s 9) hB.1.2.2.1), bn_e et, bn_e (show fX8_armOf (pt_ t 0 6 0) (nI m) (3 : Int32) = _ from armOf_3 hm), gd_t b16_, ev, gd_t (n64_div hne)]
      dsimp only
      rw [u16, pt_oo (by decide), gd_t (n64_div hne)]
      exact ⟨_, rfl, rfl, pt_a, MI.t6⟩
  · rw [bn_e (hq s hB.1.2.2.1), tb_r, bn_e (hn t hB.1.2.2.2), if_neg (show ¬ (1 : Int32) = 0 by decide)]
    exact ⟨pt_ t 0 6 1, Or.inr ⟨0, _, rfl, rfl, pt_a, by decide, MI.t6⟩⟩
theorem share_p (h : HH s t C R n T) (i0 : Int32) : QNg g1i_ t (fX7_share s i0) (fX8_share t i0) := by
  obtain ⟨⟨-, ⟨v1, v2, v3, v4, v5, v6, v7, v8, v9, v10, v11⟩, -⟩, -, -⟩ := id h
  have hB := h.1.rb
  have h6 := hB.1.2.1
  have h1 := hB.1.1
  unfold fX7_share fX8_share
  rcases ruleC (R := R) i0 h6 with ⟨r, hr, rfl⟩ | hx
  · have u1 : (pt_ t 0 6 0) 1 = t 1 := pt_o (by decide)
    have e1 := weightSum_e (d := sb_ s 9) hB.1.2.2.1 h6
    have e2 := weights_e (t := pt_ t 0 6 0) (by rw [u1]; exact hB.1.2.2.2) h6
    have ew : wsm (fun r => (pt_ t 0 6 0) 1 (26 + 5 * r + 2)) R = wsm (sb_ s 9 12) R := wsm_congr R (fun q hq => by rw [u1]; exact (v11 q hq).1.symm)
    rw [ew] at e2
    have hs : wsm (sb_ s 9 12) R = nI (nsm (fun q => ix_ (t 1 (26 + 5 * q + 2))) R) := wsm_n R (fun q hq => by rw [(v11 q hq).1]; exact (v11 q hq).2.1)
    have hb := nsm_b (F := fun q => ix_ (t 1 (26 + 5 * q + 2))) (M := 1000000) R (fun q hq => (v11 q hq).2.2.2)
    have hlow : 1 ≤ nsm (fun q => ix_ (t 1 (26 + 5 * q + 2))) R := by
      have m1 := nsm_mono (F := fun q => ix_ (t 1 (26 + 5 * q + 2))) (a := 1) (b := R) h1
      have m2 : nsm (fun q => ix_ (t 1 (26 + 5 * q + 2))) 1 = 0 + ix_ (t 1 (26 + 5 * 0 + 2)) := rfl
      have m3 := (v11 0 (by omega)).2.2.1
      omega
    have hbig : nsm (fun q => ix_ (t 1 (26 + 5 * q + 2))) R ≤ 6000000 := by
      have : R * 1000000 ≤ 6 * 1000000 := Nat.mul_le_mul_right _ h6
      omega
    have hne : ¬ wsm (sb_ s 9 12) R = (0 : Int32) := fun z => by
      rw [hs] at z
      have := (nI_eq (b := 0) (by omega) (by omega)).mp z
      omega
    have ev : s 21 r = t 1 (26 + 5 * r + 2) := (v11 r hr).1
    have eo : fX8_of (pt_ t 0 6 0) (nI r) (2 : Int32) = some (t 1 (26 + 5 * r + 2)) := by rw [of_2 (by omega), u1]
    rw [bn_e (reqRule_t hB.1.2.2.1 hr h6), tb_l, bn_e (noRule_t hB.1.2.2.2 hr h6), if_pos rfl, bn_e e1, if_neg hne, gd_t (ib_n (N := 6) (by omega) (by omega)), ix_n (by omega), ev, gd_t (n32_div hne), bn_e eo, bn_e e2, gd_t (n32_div hne)]
    exact ⟨pt_ t 0 6 0, Or.inl ⟨_, rfl, rfl, pt_a, MI.t6⟩⟩
  · rw [bn_e (reqRule_f hB.1.2.2.1 h6 hx), tb_r, bn_e (noRule_f hB.1.2.2.2 hB.1.1 h6 hx), if_neg (show ¬ (1 : Int32) = 0 by decide)]
    exact ⟨pt_ t 0 6 1, Or.inr ⟨0, _, rfl, rfl, pt_a, by decide, MI.t6⟩⟩
/-- the best two rules -/
def br1_ (w : Nat → Int32) (R k : Nat) : Nat := bst (fun r => nI (sg_ w r 0 k)) (R - 1)
def br2_ (w : Nat → Int32) (R T k : Nat) : Nat := bst (fun r => nI (sg_ w r k T)) (R - 1)
def fsc_ (w : Nat → Int32) (R T k : Nat) : Int32 := nI (sg_ w (br1_ w R k) 0 k) + nI (sg_ w (br2_ w R T k) k T)
theorem b1_lt {k : Nat} (h1 : 1 ≤ R) : br1_ w R k < R := by
  have := bst_le (f := fun r => nI (sg_ w r 0 k)) (R - 1)
  unfold br1_
  omega
theorem b2_lt {k : Nat} (h1 : 1 ≤ R) : br2_ w R T k < R := by
  have := bst_le (f := fun r => nI (sg_ w r k T)) (R - 1)
  unfold br2_
  omega
theorem splitCost_e (h : R0 e w R T) (h1 : 1 ≤ R) (h6 : R ≤ 6) {k : Nat} (hk : k ≤ T) : fX4_splitCost e (nI k) = some (fsc_ w R T k) := by
  have e1 : fX4_cheapestIn e (0 : Int32) (nI k) = some (nI (br1_ w R k)) := cheapestIn_e h h1 h6 (a := 0) (Nat.zero_le _) hk
  have e3 : fX4_cheapestIn e (nI k) (nI T) = some (nI (br2_ w R T k)) := cheapestIn_e h h1 h6 hk (Nat.le_refl _)
  have e2 : fX4_paidIn e (nI (br1_ w R k)) (0 : Int32) (nI k) = some (nI (sg_ w (br1_ w R k) 0 k)) := by
    rw [← xa_r (b1_lt h1) h6]
    exact paidIn_s h h6 (a := 0) (Or.inl (b1_lt h1)) (Nat.zero_le _) hk
  have e4 : fX4_paidIn e (nI (br2_ w R T k)) (nI k) (nI T) = some (nI (sg_ w (br2_ w R T k) k T)) := by
    rw [← xa_r (b2_lt h1) h6]
    exact paidIn_s h h6 (Or.inl (b2_lt h1)) hk (Nat.le_refl _)
  unfold fX4_splitCost
  rw [bn_e e1, bn_e e2, h.1.2.1, bn_e e3, bn_e e4]
  rfl
theorem bst_s {f : Nat → Int32} {k : Nat} (hk : 1 ≤ k) : bst f (k + 1 - 1) = if f (bst f (k - 1)) ≤ f k then bst f (k - 1) else k := by
  obtain ⟨j, rfl⟩ : ∃ j, k = j + 1 := ⟨k - 1, by omega⟩
  rfl
theorem bestSplit_e (h : R0 e w R T) (h1 : 1 ≤ R) (h6 : R ≤ 6) : fX4_bestSplit e = some (nI (bst (fsc_ w R T) T)) := by
  have hT := h.1.2.2.2
  suffices hw : wp_ (fX4_bestSplit e) (fun x => x = nI (bst (fsc_ w R T) T)) by
    obtain ⟨x, e1, rfl⟩ := hw
    exact e1
  unfold fX4_bestSplit fX4_bestSplit_l10
  refine wp_bne (show fX4_splitCost e (0 : Int32) = some (fsc_ w R T 0) from splitCost_e h h1 h6 (Nat.zero_le _)) (wp_bn (Q := fun x => x = nI (bst (fsc_ w R T) T)) ?_ (fun x hx => wp_s hx))
  refine wp_up (fun k v => v = (nI (bst (fsc_ w R T) (k - 1)), fsc_ w R T (bst (fsc_ w R T) (k - 1)), nI k)) 1 (T + 1) (by omega) (by omega) rfl (fun k v hk hk1 hv => ?_) (fun v hv => ?_)
  · subst hv
    show wp_ (fX4_bestSplit_b10 e (nI (bst (fsc_ w R T) (k - 1))) (fsc_ w R T (bst (fsc_ w R T) (k - 1))) (nI k)) _
    unfold fX4_bestSplit_b10
    rw [h.1.2.1]
    refine wp_if' (nI_nlt (by omega) (by omega)) (wp_bne (splitCost_e h h1 h6 (by omega)) ?_)
    unfold fX4_bestSplit_j36
    refine wp_if (fun hc => wp_l ?_) (fun hc => wp_l ?_)
    · rw [bst_s hk1, if_pos hc, nI_1]
    · rw [bst_s hk1, if_neg hc, nI_1]
  · subst hv
    show wp_ (fX4_bestSplit_b10 e (nI (bst (fsc_ w R T) (T + 1 - 1))) (fsc_ w R T (bst (fsc_ w R T) (T + 1 - 1))) (nI (T + 1))) _
    unfold fX4_bestSplit_b10
    rw [h.1.2.1]
    exact wp_it (nI_lt (by omega) (by omega)) (wp_r rfl)
theorem subge {x y : Nat} (hx : x < 1000000000) (hy : y < 1000000000) : (0 : Int32) ≤ nI x - nI y ↔ nI y ≤ nI x := by
  have h1 : (nI x - nI y).toInt = (x : Int) - y := pk_sub_toInt (by omega) (by omega)
  rw [Int32.le_iff_toInt_le, h1, nI_leI (by omega) (by omega)]
  have h0 : (0 : Int32).toInt = 0 := by decide
  rw [h0]
  omega
theorem bestOf_e (h : R0 e w R T) (h1 : 1 ≤ R) (h6 : R ≤ 6) (hu : u 1 = w) (h4 : w 4 = nI R) {k : Nat} (hk : k ≤ T) (h8 : ∀ r, r < R → u 8 r = nI (nsm (cs_ w r) k)) {b : Int32} {f : Nat → Int32} (hf : (b = 1 ∧ f = fun r => nI (sg_ w r 0 k)) ∨ (b = 0 ∧ f = fun r => nI (sg_ w r k T))) : fX8_bestOf u b = some (nI (bst f (R - 1))) := by
  suffices hw : wp_ (fX8_bestOf u b) (fun x => x = nI (bst f (R - 1))) by
    obtain ⟨x, e1, rfl⟩ := hw
    exact e1
  have hP : ∀ r, r < R → w (ab_ r + 3) = nI (nsm (cs_ w r) T) := fun r hr => (h.2.2.1 r (Or.inl hr)).2.2
  have hB : ∀ r q, r < R → q ≤ T → nsm (cs_ w r) q ≤ 9900000 := fun r q hr hq => nsm_B h (Or.inl hr) hq
  have hM : ∀ r, r < R → nsm (cs_ w r) k ≤ nsm (cs_ w r) T := fun r hr => nsm_mono hk
  unfold fX8_bestOf fX8_bestOf_l4
  refine wp_bn (Q := fun x => x = nI (bst f (R - 1))) ?_ (fun x hx => wp_s hx)
  refine wp_up (fun q v => v = (nI (bst f (q - 1)), nI q)) 1 R h1 (by omega) rfl (fun q v hq hq1 hv => ?_) (fun v hv => ?_)
  · subst hv
    have hb := bst_le (f := f) (q - 1)
    show wp_ (fX8_bestOf_b4 u b (nI (bst f (q - 1))) (nI q)) _
    have hst := bst_s (f := f) hq1
    generalize bst f (q - 1) = c at hb hst
    have hcR : c < R := by omega
    unfold fX8_bestOf_b4
    rw [i4_, hu, h4, ix_n (k := q) (by omega), ix_n (k := c) (by omega), h8 q hq, h8 c hcR]
    refine wp_gd b4_ (wp_if' (nI_ge hq (by omega)) (wp_gd (ib_n (by omega) (by omega)) (wp_gd (ib_n (by omega) (by omega)) (wp_bne (armOf_3 (by omega)) (wp_bne (armOf_3 (by omega)) ?_)))))
    rw [hu, hP q hq, hP c hcR]
    have key : ∀ z : Int32, ((0 : Int32) ≤ z ↔ f c ≤ f q) → wp_ (fX8_bestOf_j58 (nI c) (nI q) z) (Sum.elim (fun v => v = (nI (bst f (q + 1 - 1)), nI (q + 1))) (fun x => x = nI (bst f (R - 1)))) := fun z hz => by
      unfold fX8_bestOf_j58 fX8_bestOf_j66
      refine wp_if (fun hc => wp_l ?_) (fun hc => wp_l ?_)
      · rw [hst, if_pos (hz.mp hc), nI_1]
      · rw [hst, if_neg (fun y => hc (hz.mpr y)), nI_1]
    have B1 := hB q T hq (Nat.le_refl _)
    have B2 := hB c T hcR (Nat.le_refl _)
    have M1 := hM q hq
    have M2 := hM c hcR
    rcases hf with ⟨rfl, rfl⟩ | ⟨rfl, rfl⟩
    · refine wp_if' (by decide) (key _ ?_)
      rw [subge (by omega) (by omega)]
      exact Iff.rfl
    · refine wp_it rfl (key _ ?_)
      have a1 : nI (nsm (cs_ w q) T) = nI (sg_ w q k T) + nI (nsm (cs_ w q) k) := by
        rw [nI_add]
        congr 1
        unfold sg_
        omega
      have a2 : nI (nsm (cs_ w c) T) = nI (sg_ w c k T) + nI (nsm (cs_ w c) k) := by
        rw [nI_add]
        congr 1
        unfold sg_
        omega
      rw [a1, a2, i32_ab, subge (by unfold sg_; omega) (by unfold sg_; omega)]
  · subst hv
    show wp_ (fX8_bestOf_b4 u b (nI (bst f (R - 1))) (nI R)) _
    unfold fX8_bestOf_b4
    rw [i4_, hu, h4]
    exact wp_gd b4_ (wp_it (Int32.le_refl _) (wp_r rfl))
theorem upto_w (h : R0 e w R T) (h6 : R ≤ 6) (hu : u 1 = w) (h4 : w 4 = nI R) (h16 : w 16 = nI T) {k : Nat} (hk : k ≤ T) (h8 : ∀ r, r < R → u 8 r = nI (nsm (cs_ w r) k)) : wp_ (fX8_bestPair_l140 (nI k) FU_ ((0 : Int32), u)) (fun z => (∀ o, o ≠ 8 → z o = u o) ∧ (k < T → ∀ r, r < R → z 8 r = nI (nsm (cs_ w r) (k + 1)))) := by
  have hT := h.1.2.2.2
  unfold fX8_bestPair_l140
  by_cases hkT : k < T
  · refine wp_up (fun q v => v.1 = nI q ∧ (∀ o, o ≠ 8 → v.2 o = u o) ∧ ∀ r, r < R → v.2 8 r = nI (nsm (cs_ w r) (if r < q then k + 1 else k))) 0 R (Nat.zero_le _) (by omega) ⟨rfl, fun _ _ => rfl, fun r hr => by rw [if_neg (by omega)]; exact h8 r hr⟩ (fun q v hq _ hv => ?_) (fun v hv => ?_)
    · obtain ⟨v1, z⟩ := v
      obtain ⟨e1, ho, hz⟩ := hv
      dsimp only at e1 ho hz
      subst e1
      have z1 : z 1 = w := (ho 1 (by decide)).trans hu
      show wp_ (fX8_bestPair_b140 (nI k) (nI q) z) _
      unfold fX8_bestPair_b140
      rw [i4_, i16_, z1, h4, h16, ix_n (k := q) (by omega)]
      refine wp_gd b4_ (wp_if' (nI_ge hq (by omega)) (wp_gd b16_ (wp_if' (nI_ge hkT (by omega)) (wp_gd (ib_n (by omega) (by omega)) (wp_bne (cost1_e (m := q) (by omega) (by omega)) (wp_gd (ib_n (by omega) (by omega)) (wp_bd (wp_l ⟨nI_1 q, fun o a => (pt_o a).trans (ho o a), fun r hr => ?_⟩))))))))
      dsimp only
      by_cases hrq : r = q
      · subst hrq
        have hc : w (2948 + 1200 * r + k) = nI (cs_ w r k) := ((h.2.2.1 r (Or.inl hr)).2.1 k hkT).1
        rw [pt_a, hz r hr, if_neg (by omega), if_pos (by omega), z1, hc, nI_add]
        rfl
      · rw [pt_r hrq, hz r hr]
        by_cases h9 : r < q
        · rw [if_pos h9, if_pos (by omega)]
        · rw [if_neg h9, if_neg (by omega)]
    · obtain ⟨v1, z⟩ := v
      obtain ⟨e1, ho, hz⟩ := hv
      dsimp only at e1 ho hz
      subst e1
      have z1 : z 1 = w := (ho 1 (by decide)).trans hu
      show wp_ (fX8_bestPair_b140 (nI k) (nI R) z) _
      unfold fX8_bestPair_b140
      rw [i4_, z1, h4]
      exact wp_gd b4_ (wp_it (Int32.le_refl _) (wp_r ⟨ho, fun _ r hr => by rw [hz r hr, if_pos hr]⟩))
  · have e : k = T := by omega
    subst e
    refine wp_up (fun q v => q = 0 ∧ v = ((0 : Int32), u)) 0 0 (Nat.le_refl _) (by omega) ⟨rfl, rfl⟩ (fun q v hq => absurd hq (by omega)) (fun v hv => ?_)
    obtain ⟨-, rfl⟩ := hv
    show wp_ (fX8_bestPair_b140 (nI k) (0 : Int32) u) _
    unfold fX8_bestPair_b140
    rw [i4_, i16_, hu, h4, h16]
    by_cases hR0 : R = 0
    · subst hR0
      exact wp_gd b4_ (wp_it (Int32.le_refl _) (wp_r ⟨fun _ _ => rfl, fun z => absurd z (by omega)⟩))
    · exact wp_gd b4_ (wp_if' (nI_nle (by omega) (by omega)) (wp_gd b16_ (wp_it (Int32.le_refl _) (wp_r ⟨fun _ _ => rfl, fun z => absurd z (by omega)⟩))))
def bp_ (w : Nat → Int32) (R T q : Nat) (x1 x2 x3 x4 : Int32) : Prop := x1 = fsc_ w R T (bst (fsc_ w R T) q) ∧ x2 = nI (br1_ w R (bst (fsc_ w R T) q)) ∧ x3 = nI (br2_ w R T (bst (fsc_ w R T) q)) ∧ x4 = nI (bst (fsc_ w R T) q)
theorem pairs_w (h : R0 e w R T) (h1 : 1 ≤ R) (h6 : R ≤ 6) (hu : u 1 = w) (h4 : w 4 = nI R) (h8 : ∀ r, r < R → u 8 r = 0) : wp_ (fX8_bestPair_l60 FU_ ((0 : Int32), (-1 : Int32), (-1 : Int32), (-1 : Int32), (0 : Int32), u)) (fun z => bp_ w R T T z.1 z.2.1 z.2.2.1 z.2.2.2.1 ∧ ∀ o, o ≠ 8 → z.2.2.2.2 o = u o) := by
  have hT := h.1.2.2.2
  have h16 := h.1.2.2.1
  have hP : ∀ r, r < R → w (ab_ r + 3) = nI (nsm (cs_ w r) T) := fun r hr => (h.2.2.1 r (Or.inl hr)).2.2
  unfold fX8_bestPair_l60
  refine wp_up (fun k v => ((k = 0 ∧ v.2.2.2.1 = -1) ∨ (0 < k ∧ bp_ w R T (k - 1) v.1 v.2.1 v.2.2.1 v.2.2.2.1)) ∧ v.2.2.2.2.1 = nI k ∧ (∀ o, o ≠ 8 → v.2.2.2.2.2 o = u o) ∧ (k ≤ T → ∀ r, r < R → v.2.2.2.2.2 8 r = nI (nsm (cs_ w r) k))) 0 (T + 1) (Nat.zero_le _) (by omega) ⟨Or.inl ⟨rfl, rfl⟩, rfl, fun _ _ => rfl, fun _ r hr => h8 r hr⟩ (fun k v hk _ hv => ?_) (fun v hv => ?_)
  · obtain ⟨x1, x2, x3, x4, x5, z⟩ := v
    obtain ⟨hb, e5, ho, hz⟩ := hv
    dsimp only at hb e5 ho hz
    subst e5
    have hz := hz (by omega)
    have z1 : z 1 = w := (ho 1 (by decide)).trans hu
    have c1 := bestOf_e h h1 h6 z1 h4 (k := k) (by omega) hz (b := 1) (f := fun r => nI (sg_ w r 0 k)) (Or.inl ⟨rfl, rfl⟩)
    have c2 := bestOf_e h h1 h6 z1 h4 (k := k) (by omega) hz (b := 0) (f := fun r => nI (sg_ w r k T)) (Or.inr ⟨rfl, rfl⟩)
    have c1' : fX8_bestOf z (1 : Int32) = some (nI (br1_ w R k)) := c1
    have c2' : fX8_bestOf z (0 : Int32) = some (nI (br2_ w R T k)) := c2
    have l1 := b1_lt (w := w) (R := R) (k := k) h1
    have l2 := b2_lt (w := w) (R := R) (T := T) (k := k) h1
    have hm := nsm_mono (F := cs_ w (br2_ w R T k)) (a := k) (b := T) (by omega)
    have hsum : z 8 (br1_ w R k) + w (ab_ (br2_ w R T k) + 3) - z 8 (br2_ w R T k) = fsc_ w R T k := by
      rw [hz _ l1, hz _ l2, hP _ l2, nI_add, pk_sub (by omega)]
      unfold fsc_
      rw [nI_add]
      congr 1
      unfold sg_
      have : nsm (cs_ w (br1_ w R k)) 0 = 0 := rfl
      omega
    have fin : ∀ y1 y2 y3 y4 : Int32, bp_ w R T (k + 1 - 1) y1 y2 y3 y4 → wp_ (fX8_bestPair_j137 (nI k) z y1 y2 y3 y4) (Sum.elim (fun v => ((k + 1 = 0 ∧ v.2.2.2.1 = -1) ∨ (0 < k + 1 ∧ bp_ w R T (k + 1 - 1) v.1 v.2.1 v.2.2.1 v.2.2.2.1)) ∧ v.2.2.2.2.1 = nI (k + 1) ∧ (∀ o, o ≠ 8 → v.2.2.2.2.2 o = u o) ∧ (k + 1 ≤ T → ∀ r, r < R → v.2.2.2.2.2 8 r = nI (nsm (cs_ w r) (k + 1)))) (fun z => bp_ w R T T z.1 z.2.1 z.2.2.1 z.2.2.2.1 ∧ ∀ o, o ≠ 8 → z.2.2.2.2 o = u o)) := fun y1 y2 y3 y4 hy => by
      unfold fX8_bestPair_j137
      refine wp_bn (upto_w h h6 z1 h4 h16 (by omega) hz) (fun z' hz' => ?_)
      unfold fX8_bestPair_k140 fX8_bestPair_x140_187
      exact wp_l ⟨Or.inr ⟨by omega, hy⟩, nI_1 k, fun o a => (hz'.1 o a).trans (ho o a), fun hkT => hz'.2 (by omega)⟩
    have hnew : ∀ c, c = k → bst (fsc_ w R T) (k + 1 - 1) = c → bp_ w R T (k + 1 - 1) (fsc_ w R T k) (nI (br1_ w R k)) (nI (br2_ w R T k)) (nI k) := fun c hc hb => by
      subst hc
      unfold bp_
      rw [hb]
      exact ⟨rfl, rfl, rfl, rfl⟩
    show wp_ (fX8_bestPair_b60 x1 x2 x3 x4 (nI k) z) _
    unfold fX8_bestPair_b60
    rw [i16_, z1, h16]
    refine wp_gd b16_ (wp_if' (nI_nlt (by omega) (by omega)) (wp_bne c1' (wp_bne c2' (wp_gd (ib_n (by omega) (by omega)) (wp_bne (armOf_3 (by omega)) (wp_gd (ib_n (by omega) (by omega)) ?_))))))
    unfold fX8_bestPair_j123
    rw [ix_n (k := br1_ w R k) (by omega), ix_n (k := br2_ w R T k) (by omega), z1, hsum]
    rcases hb with ⟨h0, ex⟩ | ⟨h0, hb⟩
    · subst h0
      exact wp_it ex (fin _ _ _ _ (hnew 0 rfl rfl))
    · have hbk := bst_le (f := fsc_ w R T) (k - 1)
      have hst := bst_s (f := fsc_ w R T) h0
      obtain ⟨q1, q2, q3, q4⟩ := id hb
      refine wp_if' (by rw [q4]; exact nI_ne1 (by omega)) (wp_if (fun hc => fin _ _ _ _ ?_) (fun hc => fin _ _ _ _ ?_))
      · rw [q1] at hc
        unfold bp_ at hb ⊢
        rw [hst, if_pos hc]
        exact hb
      · rw [q1] at hc
        rw [if_neg hc] at hst
        exact hnew k rfl hst
  · obtain ⟨x1, x2, x3, x4, x5, z⟩ := v
    obtain ⟨hb, e5, ho, hz⟩ := hv
    dsimp only at hb e5 ho hz
    subst e5
    have z1 : z 1 = w := (ho 1 (by decide)).trans hu
    show wp_ (fX8_bestPair_b60 x1 x2 x3 x4 (nI (T + 1)) z) _
    unfold fX8_bestPair_b60
    rw [i16_, z1, h16]
    refine wp_gd b16_ (wp_it (nI_lt (by omega) (by omega)) (wp_r ⟨?_, ho⟩))
    rcases hb with ⟨h0, _⟩ | ⟨_, hb⟩
    · omega
    · exact hb
theorem zero8_w : wp_ (fX8_bestPair_l28 FU_ ((0 : Int32), u)) (fun z => (∀ o, o ≠ 8 → z o = u o) ∧ ∀ r, r < 6 → z 8 r = 0) := by
  unfold fX8_bestPair_l28
  refine wp_up (fun k v => v.1 = nI k ∧ (∀ o, o ≠ 8 → v.2 o = u o) ∧ ∀ r, r < k → v.2 8 r = 0) 0 6 (Nat.zero_le _) (by omega) ⟨rfl, fun _ _ => rfl, fun r hr => absurd hr (by omega)⟩ (fun k v hk _ hv => ?_) (fun v hv => ?_)
  · obtain ⟨v1, z⟩ := v
    obtain ⟨e1, ho, hz⟩ := hv
    dsimp only at e1 ho hz
    subst e1
    show wp_ (fX8_bestPair_b28 (nI k) z) _
    unfold fX8_bestPair_b28
    rw [ix_n (k := k) (by omega)]
    refine wp_if' (nI_ge (b := 6) hk (by omega)) (wp_gd (ib_n (by omega) (by omega)) (wp_bd (wp_l ⟨nI_1 k, fun o a => (pt_o a).trans (ho o a), fun r hr => ?_⟩)))
    dsimp only
    by_cases h : r = k
    · subst h; exact pt_a
    · rw [pt_r h]; exact hz r (by omega)
  · obtain ⟨v1, z⟩ := v
    obtain ⟨e1, ho, hz⟩ := hv
    dsimp only at e1 ho hz
    subst e1
    show wp_ (fX8_bestPair_b28 (nI 6) z) _
    unfold fX8_bestPair_b28
    exact wp_it (show (6 : Int32) ≤ nI 6 from Int32.le_refl _) (wp_r ⟨ho, hz⟩)
theorem bestPair_p (h : HH s t C R n T) (i0 : Int32) : QN g1_ t (fX7_bestPair s i0) (fX8_bestPair t i0) := by
  obtain ⟨hD, -, hR0, -⟩ := h
  have hB := hD.rb
  have h6 := hB.1.2.1
  have h1 := hB.1.1
  unfold fX7_bestPair fX8_bestPair fX8_bestPair_j18
  by_cases hx : 0 ≤ i0 ∧ i0 ≤ 3
  · rw [bn_e (within_t (lo := 0) (hi := 3) hx), tb_l, bn_e (bestSplit_e hR0 h1 h6), bn_e (show fX8_in (Int32.toInt64 i0) (0 : Int64) (3 : Int64) = some 1 from in_t (lo := 0) (hi := 3) hx), if_neg (show ¬ (1 : Int32) = 0 by decide), bn_e wrong_0, if_pos rfl]
    have hbT := bst_le (f := fsc_ (t 1) R T) T
    obtain ⟨z, ez, zo, z8⟩ := zero8_w (u := pt_ t 0 6 0)
    obtain ⟨y, ey, ⟨q1, q2, q3, q4⟩, yo⟩ := pairs_w (u := z) hR0 h1 h6 ((zo 1 (by decide)).trans (pt_o (by decide))) hB.1.2.2.2 (fun r hr => z8 r (by omega))
    obtain ⟨y1, y2, y3, y4, yz⟩ := y
    dsimp only at q1 q2 q3 q4 yo
    rw [bn_e ez]
    unfold fX8_bestPair_k28 fX8_bestPair_x28_47
    rw [bn_e ey]
    unfold fX8_bestPair_k60 fX8_bestPair_x60_193
    dsimp only
    have o8 : ∀ o, o ≠ 8 → yz o = (pt_ t 0 6 0) o := fun o a => (yo o a).trans (zo o a)
    have hM : MI t yz := ⟨fun j _ => by rw [o8 1 (by decide), pt_oo (by decide)], fun o a b => by rw [o8 o (by omega), pt_o (by omega)], by rw [o8 0 (by decide), pt_r (by decide)], by rw [o8 0 (by decide), pt_r (by decide)]⟩
    have hy6 : yz 0 6 = 0 := by rw [o8 0 (by decide), pt_a]
    have s1 : s 42 1 = nI T := hR0.1.2.1
    generalize bst (fsc_ (t 1) R T) T = c at hbT q1 q2 q3 q4
    obtain ⟨k, _, hk3, rfl⟩ := ((rg_iff (lo := 0) (hi := 3) (by omega) (by omega)).mpr hx).ex
    rcases (show k = 0 ∨ k = 1 ∨ k = 2 ∨ k = 3 by omega) with rfl | rfl | rfl | rfl
    · rw [if_pos (show nI 0 = (0 : Int32) from rfl), if_pos (show nI 0 = (0 : Int32) from rfl), bn_e (splitCost_e hR0 h1 h6 hbT), q1]
      exact QN.good rfl rfl hy6 hM
    · have e1 : fX4_cheapestIn (sb_ s 42) (0 : Int32) (nI c) = some (nI (br1_ (t 1) R c)) := cheapestIn_e hR0 h1 h6 (a := 0) (Nat.zero_le _) hbT
      rw [if_neg (show ¬ nI 1 = (0 : Int32) by decide), if_neg (show ¬ nI 1 = (0 : Int32) by decide), if_pos (show nI 1 = (1 : Int32) from rfl), if_pos (show nI 1 = (1 : Int32) from rfl), bn_e e1, q2]
      exact QN.good rfl rfl hy6 hM
    · have e1 : fX4_cheapestIn (sb_ s 42) (nI c) (nI T) = some (nI (br2_ (t 1) R T c)) := cheapestIn_e hR0 h1 h6 hbT (Nat.le_refl _)
      rw [if_neg (show ¬ nI 2 = (0 : Int32) by decide), if_neg (show ¬ nI 2 = (0 : Int32) by decide), if_neg (show ¬ nI 2 = (1 : Int32) by decide), if_neg (show ¬ nI 2 = (1 : Int32) by decide), if_pos (show nI 2 = (2 : Int32) from rfl), if_pos (show nI 2 = (2 : Int32) from rfl), s1, bn_e e1, q3]
      exact QN.good rfl rfl hy6 hM
    · rw [if_neg (show ¬ nI 3 = (0 : Int32) by decide), if_neg (show ¬ nI 3 = (0 : Int32) by decide), if_neg (show ¬ nI 3 = (1 : Int32) by decide), if_neg (show ¬ nI 3 = (1 : Int32) by decide), if_neg (show ¬ nI 3 = (2 : Int32) by decide), if_neg (show ¬ nI 3 = (2 : Int32) by decide), q4]
      exact QN.good rfl rfl hy6 hM
  · rw [bn_e (within_f (lo := 0) (hi := 3) hx), tb_r, bn_e (show fX8_in (Int32.toInt64 i0) (0 : Int64) (3 : Int64) = some 0 from in_f (lo := 0) (hi := 3) hx), if_pos rfl, bn_e wrong_1, if_neg (show ¬ (1 : Int32) = 0 by decide)]
    exact QN.bad 1 (y := 0) rfl rfl (by decide)
end PAIRS
