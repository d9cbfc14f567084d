/-! what the class's calls answer, second part: regret, windows, means, shares, the best two rules -/
noncomputable def isq_ (V : Nat) : Nat := Classical.choose (root_x V)
theorem isq_h (V : Nat) : isq_ V * isq_ V ≤ V ∧ V < (isq_ V + 1) * (isq_ V + 1) := Classical.choose_spec (root_x V)
/-- the bound behind V rounds -/
noncomputable def bnd_ (w : Nat → Int32) (V : Nat) : Int32 := w 11 + w 12 * nI (isq_ V)
theorem bst_min {f : Nat → Int32} : ∀ k, ∀ j, j ≤ k → f (bst f k) ≤ f j
  | 0, j, hj => by
    have : j = 0 := by omega
    subst this
    exact Int32.le_refl _
  | k + 1, j, hj => by
    have ih := bst_min (f := f) k
    show f (if f (bst f k) ≤ f (k + 1) then bst f k else k + 1) ≤ f j
    by_cases hc : f (bst f k) ≤ f (k + 1)
    · rw [if_pos hc]
      rcases Nat.lt_or_ge k j with h | h
      · have : j = k + 1 := by omega
        subst this
        exact hc
      · exact ih j h
    · rw [if_neg hc]
      rcases Nat.lt_or_ge k j with h | h
      · have : j = k + 1 := by omega
        subst this
        exact Int32.le_refl _
      · exact Int32.le_trans (Int32.le_of_lt (Int32.not_le.mp hc)) (ih j h)
section VALB
variable {s t : st_} {C R n T : Nat}
theorem bound_x {S : st_} {w : Nat → Int32} {V : Nat} (hb : S 0 17 = w 11) (hr : S 0 18 = w 12) (hV : V ≤ 1200) (hn : ¬ w 11 = -1) : fX5_boundBehind S (nI V) = some (bnd_ w V) := by
  unfold fX5_boundBehind
  rw [hb, if_neg hn, bn_e (rootS_e (isq_h V).1 (isq_h V).2 hV)]
  unfold fX5_boundBehind_k13 fX5_boundBehind_x13_37
  rw [hb, hr]
  rfl
/-- the regret's numbers -/
noncomputable def rgv_ (w : Nat → Int32) (R T k : Nat) : Int32 := if k = 0 then rg0_ w R else if k = 1 then bnd_ w T else w (15 + k)
theorem v_regret (h : HH s t C R n T) (hn : ¬ t 1 11 = -1) {k : Nat} (hk : k ≤ 4) : gX7_regret s (nI k) = some (rgv_ (t 1) R T k) := by
  have hB := h.1.rb
  have hmk := h.1.mk
  have e3 := h.1.2.2.rg (d := sb_ s 9) hB.1.2.2.1 hB.1.2.2.2 hB.1.1 hB.1.2.1
  obtain ⟨⟨⟨-, a1, a2, k1, k2, k3, k4, eta, etar, foe, foer, ak, akr, asks, base, root, -⟩, -⟩, -, ⟨⟨⟨-, -, h16, hT⟩, -, -, -, -, ⟨j1, j2, j3, j4, j5⟩⟩, -⟩⟩ := h
  have q2 : s 42 10 = t 1 17 := j2
  have q3 : s 42 11 = t 1 18 := j3
  have q4 : s 42 12 = t 1 19 := j4
  have e9 : s 9 9 = nI T := hmk.trans h16
  unfold gX7_regret rgv_
  rcases (show k = 0 ∨ k = 1 ∨ k = 2 ∨ k = 3 ∨ k = 4 by omega) with rfl | rfl | rfl | rfl | rfl
  · rw [if_pos (show nI 0 = (0 : Int32) from rfl), bn_e e3, if_pos rfl]
  · rw [if_neg (by decide), if_pos (show nI 1 = (1 : Int32) from rfl), e9, bn_e (bound_x (S := sb_ s 10) base root (by omega) hn), if_neg (by decide), if_pos rfl]
  · rw [if_neg (by decide), if_neg (by decide), if_pos (show nI 2 = (2 : Int32) from rfl), q2, if_neg (by decide), if_neg (by decide)]
  · rw [if_neg (by decide), if_neg (by decide), if_neg (by decide), if_pos (show nI 3 = (3 : Int32) from rfl), q3, if_neg (by decide), if_neg (by decide)]
  · rw [if_neg (by decide), if_neg (by decide), if_neg (by decide), if_neg (by decide), if_pos (show nI 4 = (4 : Int32) from rfl), q4, if_neg (by decide), if_neg (by decide)]
def rv2_ (w : Nat → Int32) : Int32 := if w 21 = -1 then -2000000000 else w (ab_ 7 + 3)
theorem v_rival2 (h : HH s t C R n T) : gX7_rival s 2 = some (rv2_ (t 1)) := by
  have hrv := h.1.rv
  obtain ⟨⟨-, -, A1, A2, A3, A4⟩, -, -⟩ := h
  have e14 : sb_ s 10 0 14 = t 1 21 := hrv
  unfold gX7_rival rv2_
  rw [bn_e (gWithin (by decide) (by decide)), bn_e hasRival_e, e14]
  by_cases hv : t 1 21 = -1
  · rw [if_pos hv, if_pos rfl, if_pos hv]
  · have ev : s 17 5 = t 1 (ab_ 7 + 3) := (A4 hv).1.2.2.2.1
    rw [if_neg hv, if_neg (show ¬ (1 : Int32) = 0 by decide), if_neg hv, if_neg (by decide), if_neg (by decide), if_pos rfl, ev]
def srv_ (w : Nat → Int32) : Int32 := if w 20 = 0 then -1 else w 449
theorem v_served (h : HH s t C R n T) : gX7_served s 0 1 = some (srv_ (t 1)) := by
  obtain ⟨-, -, ⟨⟨⟨-, -, -, hT⟩, ⟨S, h9, hS, h20, hr⟩, -⟩, -⟩⟩ := h
  have h9' : sb_ s 42 0 9 = nI S := h9
  unfold gX7_served srv_ fX4_servedAt
  rw [if_pos (by decide), bn_e (gWithin (by decide) (by decide)), if_neg (by decide), h9', h20]
  by_cases h0 : S = 0
  · subst h0
    rw [if_pos (by decide), if_pos (by decide)]
    rfl
  · have er : nI S - (1 : Int32) - (0 : Int32) - (nI S - (1 : Int32) - (0 : Int32)) / (20 : Int32) * (20 : Int32) = nI ((S - 1) % 20) := by
      rw [Int32.sub_zero, show nI S - (1 : Int32) = nI (S - 1) from pk_sub (b := 1) (by omega)]
      exact pk_rem (d := 20) (by omega) (by omega) (by omega)
    have m20 := Nat.mod_lt (S - 1) (show 0 < 20 by omega)
    have ev := hr 0 (by omega) (by omega) 1 (by omega)
    rw [Nat.sub_zero] at ev
    rw [if_neg (show ¬ nI S ≤ (0 : Int32) from nI_ge (show 0 < S by omega) (by omega)), if_neg (by decide), if_neg (by decide), if_pos (by decide), er, gd_t (ib_n (N := 20) m20 (by omega)), gd_t (by decide), ix_n (by omega), if_neg (fun z => by
      have := (nI_eq (b := 0) (by split <;> omega) (by omega)).mp z
      revert this
      split <;> omega), Nat.one_mul]
    show some (sb_ s 42 ((S - 1) % 20 + 21) 1) = _
    rw [ev]
theorem gWindow {a L : Nat} (ha : a < 2147483648) (h1 : 1 ≤ L) (h2 : L ≤ 1000) : gX7_requireWindow s (nI a) (nI L) = some () := by
  unfold gX7_requireWindow
  rw [if_pos (nI_pos' ha), bn_e (gWithin (lo := 1) (hi := 1000) (nI_le h1 (by omega)) (nI_le (b := 1000) h2 (by omega)))]
/-- the regret over a window -/
def wr_ (w : Nat → Int32) (R a b : Nat) : Int32 := nI (sg_ w 6 a b) - nI (sg_ w (bst (fun r => nI (sg_ w r a b)) (R - 1)) a b)
theorem v_window (h : HH s t C R n T) {a L : Nat} (h1 : 1 ≤ L) (h2 : L ≤ 1000) (hab : a + L ≤ T) : gX7_windowRegret s (nI a) (nI L) = some (wr_ (t 1) R a (a + L)) ∧ gX7_windowBest s (nI a) (nI L) = some (nI (bst (fun r => nI (sg_ (t 1) r a (a + L))) (R - 1))) := by
  obtain ⟨hD, -, hR0, -⟩ := h
  have hB := hD.rb
  have h6 := hB.1.2.1
  obtain ⟨⟨g0, g1, g16, gT⟩, -⟩ := id hR0
  unfold gX7_windowRegret gX7_windowBest
  rw [bn_e (gWindow (by omega) h1 h2), bn_e (gWindow (by omega) h1 h2), bn_e (hasR_t (e := sb_ s 42) g1 gT hab), if_neg (show ¬ (1 : Int32) = 0 by decide), bn_e (hasR_t (e := sb_ s 42) g1 gT hab), if_neg (show ¬ (1 : Int32) = 0 by decide), nI_add, bn_e (regretOver_e hR0 hB.1.1 h6 (a := a) (b := a + L) (by omega) hab), bn_e (cheapestIn_e hR0 hB.1.1 h6 (a := a) (b := a + L) (by omega) hab)]
  exact ⟨rfl, rfl⟩
theorem v_windowN (h : HH s t C R n T) {a L : Nat} (h1 : 1 ≤ L) (h2 : L ≤ 1000) (ha : a < 2147483648) (hab : ¬ a + L ≤ T) : gX7_windowRegret s (nI a) (nI L) = some (-2000000000) ∧ gX7_windowBest s (nI a) (nI L) = some (-1) := by
  obtain ⟨-, -, hR0, -⟩ := h
  obtain ⟨⟨g0, g1, g16, gT⟩, -⟩ := id hR0
  unfold gX7_windowRegret gX7_windowBest
  rw [bn_e (gWindow ha h1 h2), bn_e (gWindow ha h1 h2), bn_e (hasR_n (e := sb_ s 42) g1 gT h1 h2 ha hab), if_pos rfl, bn_e (hasR_n (e := sb_ s 42) g1 gT h1 h2 ha hab), if_pos rfl]
  exact ⟨rfl, rfl⟩
theorem v_worst (h : HH s t C R n T) {L : Nat} (h1 : 1 ≤ L) (h2 : L ≤ 1000) : ∃ x, gX7_worstWindow s (nI L) = some x ∧ ((T < L ∧ x = -1) ∨ ∃ a, a + L ≤ T ∧ x = nI a ∧ wr_ (t 1) R 0 L ≤ wr_ (t 1) R a (a + L)) := by
  obtain ⟨hD, -, hR0, -⟩ := h
  have hB := hD.rb
  have h6 := hB.1.2.1
  obtain ⟨⟨g0, g1, g16, gT⟩, -⟩ := id hR0
  show wp_ (gX7_worstWindow s (nI L)) _
  unfold gX7_worstWindow gX7_worstWindow_l24
  refine wp_bne (gWithin (lo := 1) (hi := 1000) (nI_le h1 (by omega)) (nI_le (b := 1000) h2 (by omega))) (wp_bn (Q := fun x => (T < L ∧ x = -1) ∨ ∃ a, a + L ≤ T ∧ x = nI a ∧ wr_ (t 1) R 0 L ≤ wr_ (t 1) R a (a + L)) ?_ (fun x hx => wp_s hx))
  refine wp_up (fun k v => v.2.2 = nI k ∧ ((k = 0 ∧ v.1 = -1) ∨ ∃ a, a < k ∧ v.1 = nI a ∧ v.2.1 = wr_ (t 1) R a (a + L) ∧ wr_ (t 1) R 0 L ≤ v.2.1)) 0 (T + 1 - L) (Nat.zero_le _) (by omega) ⟨rfl, Or.inl ⟨rfl, rfl⟩⟩ (fun k v hk _ hv => ?_) (fun v hv => ?_)
  · obtain ⟨v1, v2, v3⟩ := v
    obtain ⟨e3, hv⟩ := hv
    dsimp only at e3 hv
    subst e3
    have hw : k + L ≤ T := by omega
    have e1 := regretOver_e hR0 hB.1.1 h6 (a := k) (b := k + L) (by omega) hw
    show wp_ (gX7_worstWindow_b24 s (nI L) v1 v2 (nI k)) _
    unfold gX7_worstWindow_b24
    rw [nI_add, show s 42 1 = nI T from g1]
    refine wp_if' (nI_nlt hw (by omega)) (wp_bne (show fX4_regretOver (sb_ s 42) (nI k) (nI (k + L)) = some (wr_ (t 1) R k (k + L)) from e1) ?_)
    unfold gX7_worstWindow_j59 gX7_worstWindow_j66
    rcases hv with ⟨h0, ev⟩ | ⟨a, ha, ea, e2, hle⟩
    · subst h0
      refine wp_it ev (wp_l ⟨nI_1 0, Or.inr ⟨0, by omega, rfl, rfl, ?_⟩⟩)
      rw [Nat.zero_add]
      exact Int32.le_refl _
    · refine wp_if' (by rw [ea]; exact nI_ne1 (by omega)) (wp_if (fun hc => wp_l ⟨nI_1 k, Or.inr ⟨a, by omega, ea, e2, hle⟩⟩) (fun hc => wp_l ⟨nI_1 k, Or.inr ⟨k, by omega, rfl, rfl, Int32.le_trans hle (Int32.le_of_lt (Int32.not_le.mp hc))⟩⟩))
  · obtain ⟨v1, v2, v3⟩ := v
    obtain ⟨e3, hv⟩ := hv
    dsimp only at e3 hv
    subst e3
    show wp_ (gX7_worstWindow_b24 s (nI L) v1 v2 (nI (T + 1 - L))) _
    unfold gX7_worstWindow_b24
    rw [nI_add, show s 42 1 = nI T from g1]
    refine wp_it (nI_lt (by omega) (by omega)) (wp_r ?_)
    rcases hv with ⟨h0, ev⟩ | ⟨a, ha, ea, e2, hle⟩
    · exact Or.inl ⟨by omega, ev⟩
    · exact Or.inr ⟨a, by omega, ea, by rw [← e2]; exact hle⟩
theorem sg_T (h : HH s t C R n T) {m : Nat} (hm : am6 R m) : nI (sg_ (t 1) m 0 T) = t 1 (ab_ m + 3) := ((h.2.2.1.2.2.1 m hm).2.2).symm
theorem wr_T (h : HH s t C R n T) : wr_ (t 1) R 0 T = rg0_ (t 1) R ∧ bst (fun r => nI (sg_ (t 1) r 0 T)) (R - 1) = bs_ (t 1) R := by
  have h1 := h.1.rb.1.1
  have eb : bst (fun r => nI (sg_ (t 1) r 0 T)) (R - 1) = bs_ (t 1) R := bst_congr (R - 1) (fun r hr => sg_T h (Or.inl (by omega)))
  refine ⟨?_, eb⟩
  unfold wr_ rg0_
  rw [eb, sg_T h (Or.inr rfl), sg_T h (Or.inl (bs_lt h1))]
theorem v_pair (h : HH s t C R n T) : ∃ x q, gX7_bestPair s 0 = some x ∧ x ≤ t 1 (ab_ (bs_ (t 1) R) + 3) ∧ gX7_bestPair s 3 = some (nI q) ∧ q ≤ T := by
  obtain ⟨eb1, eb⟩ := wr_T h
  have hsg := @sg_T s t C R n T h
  obtain ⟨hD, -, hR0, -⟩ := h
  have hB := hD.rb
  have h6 := hB.1.2.1
  have h1 := hB.1.1
  have hle := bst_le (f := fsc_ (t 1) R T) T
  refine ⟨fsc_ (t 1) R T (bst (fsc_ (t 1) R T) T), bst (fsc_ (t 1) R T) T, ?_, ?_, ?_, hle⟩
  · unfold gX7_bestPair
    rw [bn_e (gWithin (by decide) (by decide)), bn_e (bestSplit_e hR0 h1 h6), if_pos rfl, bn_e (splitCost_e hR0 h1 h6 hle)]
  · refine Int32.le_trans (bst_min T T (Nat.le_refl _)) ?_
    unfold fsc_
    rw [sg_0, show br1_ (t 1) R T = bs_ (t 1) R from eb, hsg (Or.inl (bs_lt h1))]
    rw [show nI 0 = (0 : Int32) from rfl, Int32.add_zero]
    exact Int32.le_refl _
  · unfold gX7_bestPair
    rw [bn_e (gWithin (by decide) (by decide)), bn_e (bestSplit_e hR0 h1 h6), if_neg (by decide), if_neg (by decide), if_neg (by decide)]
/-- the mean, the share, and that each is itself -/
def mn_ (x : Int32) (T : Nat) : UInt64 := if T = 0 then FP.dconst0 else FP.ddiv (FP.i2d x) (FP.i2d (nI T))
theorem v_mean (h : HH s t C R n T) {m : Nat} (hm : am6 R m) : gX7_meanCost s (xa_ m) = some (mn_ (t 1 (ab_ m + 3)) T) := by
  obtain ⟨hD, -, ⟨⟨-, -, h16, hT⟩, -⟩, -⟩ := h
  have hB := hD.rb
  have e9 : s 9 9 = nI T := hD.mk.trans h16
  obtain ⟨A, I⟩ := hD.2.2.x hB.1.2.1 hm
  unfold gX7_meanCost mn_
  rw [bn_e (gArm hB.1.2.2.1 hm hB.1.2.1), e9]
  by_cases h0 : T = 0
  · subst h0
    rw [if_pos (show nI 0 = (0 : Int32) from rfl), if_pos rfl]
  · have hne : ¬ nI T = (0 : Int32) := fun z => h0 ((nI_eq (b := 0) (by omega) (by omega)).mp z)
    have ev : s (9 + oa_ m) 5 = t 1 (ab_ m + 3) := A.2.2.2.1
    rw [if_neg hne, bn_e (armOf_x (d := sb_ s 9) hB.1.2.2.1 hB.1.2.1 hm), ev, gd_t (n64_div hne), if_neg h0]
theorem mn_self {x : Int32} {T : Nat} (hT : T ≤ 1000) : Op.cmpValue (FP.dcmp (mn_ x T) (mn_ x T)) .l = 0 := by
  have h : FP.dcmp (mn_ x T) (mn_ x T) = some .eq := by
    refine FP.Core.dcmp_self ((FP.Core.notNaN_iff _).mp ?_)
    unfold mn_
    by_cases h0 : T = 0
    · rw [if_pos h0]
      decide +kernel
    · rw [if_neg h0]
      have hne : ¬ nI T = (0 : Int32) := fun z => h0 ((nI_eq (b := 0) (by omega) (by omega)).mp z)
      exact FP.Core.ddiv_out ((FP.Core.notNaN_iff _).mpr (FP.Core.i2d_fin x).ne_nan) (FP.Core.i2d_fin _) (fun z => FP.Core.i2d_ne_zero hne ((FP.Core.zero_bits2 _).mp z))
  rw [h]
  rfl
/-- the weights' sum -/
def wts_ (w : Nat → Int32) (k : Nat) : Nat := nsm (fun q => ix_ (w (26 + 5 * q + 2))) k
theorem wts_ok (h : HH s t C R n T) : 1 ≤ wts_ (t 1) R ∧ wts_ (t 1) R ≤ 6000000 ∧ ∀ q, q < R → t 1 (26 + 5 * q + 2) = nI (ix_ (t 1 (26 + 5 * q + 2))) ∧ 1 ≤ ix_ (t 1 (26 + 5 * q + 2)) ∧ ix_ (t 1 (26 + 5 * q + 2)) ≤ 1000000 := by
  have hB := h.1.rb
  have h1 := hB.1.1
  have h6 := hB.1.2.1
  obtain ⟨⟨-, ⟨v1, v2, v3, v4, v5, v6, v7, v8, v9, v10, v11⟩, -⟩, -, -⟩ := h
  have hb := nsm_b (F := fun q => ix_ (t 1 (26 + 5 * q + 2))) (M := 1000000) R (fun q hq => (v11 q hq).2.2.2)
  have hlow : 1 ≤ nsm (fun q => ix_ (t 1 (26 + 5 * q + 2))) R := by
    have m1 := nsm_mono (F := fun q => ix_ (t 1 (26 + 5 * q + 2))) (a := 1) (b := R) h1
    have m2 : nsm (fun q => ix_ (t 1 (26 + 5 * q + 2))) 1 = 0 + ix_ (t 1 (26 + 5 * 0 + 2)) := rfl
    have m3 := (v11 0 (by omega)).2.2.1
    omega
  have hbig : R * 1000000 ≤ 6 * 1000000 := Nat.mul_le_mul_right _ h6
  exact ⟨hlow, by unfold wts_; omega, fun q hq => ⟨(v11 q hq).2.1, (v11 q hq).2.2.1, (v11 q hq).2.2.2⟩⟩
theorem v_share (h : HH s t C R n T) {r : Nat} (hr : r < R) : gX7_share s (nI r) = some (FP.fdiv (FP.i2f (t 1 (26 + 5 * r + 2))) (FP.i2f (nI (wts_ (t 1) R)))) := by
  obtain ⟨w1, w2, w3⟩ := wts_ok h
  have hB := h.1.rb
  have h1 := hB.1.1
  have h6 := hB.1.2.1
  obtain ⟨⟨-, ⟨v1, v2, v3, v4, v5, v6, v7, v8, v9, v10, v11⟩, -⟩, -, -⟩ := h
  have e1 := weightSum_e (d := sb_ s 9) hB.1.2.2.1 h6
  have hs : wsm (sb_ s 9 12) R = nI (wts_ (t 1) R) := wsm_n R (fun q hq => by rw [(v11 q hq).1]; exact (v11 q hq).2.1)
  rw [hs] at e1
  have hne : ¬ nI (wts_ (t 1) R) = (0 : Int32) := fun z => by
    have := (nI_eq (b := 0) (by omega) (by omega)).mp z
    omega
  have ev : s 21 r = t 1 (26 + 5 * r + 2) := (v11 r hr).1
  unfold gX7_share
  rw [bn_e (gRule hB.1.2.2.1 hr h6), bn_e e1, if_neg hne, gd_t (ib_n (N := 6) (by omega) (by omega)), ix_n (by omega), ev, gd_t (n32_div hne)]
theorem share_self {x y : Int32} (hy : ¬ y = 0) : Op.cmpValue (FP.fcmp (FP.fdiv (FP.i2f x) (FP.i2f y)) (FP.fdiv (FP.i2f x) (FP.i2f y))) .l = 0 := by
  have h : FP.fcmp (FP.fdiv (FP.i2f x) (FP.i2f y)) (FP.fdiv (FP.i2f x) (FP.i2f y)) = some .eq :=
    FP.Core.fcmp_self ((FP.Core.notNaN_iff32 _).mp (FP.Core.fdiv_out ((FP.Core.notNaN_iff32 _).mpr (FP.Core.i2f_fin x).ne_nan) (FP.Core.i2f_fin _) (fun z => FP.Core.i2f_ne_zero hy ((FP.Core.zero_bits232 _).mp z))))
  rw [h]
  rfl
end VALB
