/-! what the class's calls answer, in the row's words -/
section VAL
variable {s t : st_} {C R n T : Nat}
theorem gRule (h4 : s 10 4 = nI R) {r : Nat} (hr : r < R) (h6 : R ≤ 6) : gX7_requireRule s (nI r) = some () := by
  unfold gX7_requireRule
  rw [bn_e (hasRule_t (S := sb_ s 10) h4 hr h6), if_neg (show ¬ (1 : Int32) = 0 by decide)]
theorem gArm (h4 : s 10 4 = nI R) {m : Nat} (hm : am6 R m) (h6 : R ≤ 6) : gX7_requireArm s (xa_ m) = some () := by
  unfold gX7_requireArm xa_
  rcases hm with hm | hm
  · rw [if_neg (show ¬ m = 6 by omega), if_neg (nI_ne1 (by omega)), bn_e (hasRule_t (S := sb_ s 10) h4 hm h6), if_neg (show ¬ (1 : Int32) = 0 by decide)]
  · rw [if_pos hm, if_pos rfl]
theorem gWithin {x lo hi : Int32} (h1 : lo ≤ x) (h2 : x ≤ hi) : gX7_requireWithin x lo hi = some () := by
  unfold gX7_requireWithin
  rw [if_neg (Int32.not_lt.mpr h1), if_pos h2]
def oa_ (m : Nat) : Nat := if m = 6 then 5 else 3 * m + 15
theorem armOf_x {d : st_} (hd : d 1 4 = nI R) (h6 : R ≤ 6) {m : Nat} (hm : am6 R m) : fX1_armOf d (xa_ m) = some (oa_ m) := by
  unfold fX1_armOf xa_ oa_
  rcases hm with hm | hm
  · rw [if_neg (show ¬ m = 6 by omega), if_neg (show ¬ m = 6 by omega), bn_e (hasRule_t (S := sb_ d 1) hd hm h6), if_neg (by decide), gd_t (ib_n (by omega) (by omega)), ix_n (by omega)]
  · rw [if_pos hm, if_pos hm, bn_e (hasRule_f (S := sb_ d 1) hd h6 (fun z => absurd z.1 (by decide))), if_pos rfl]
theorem DA.x {d : st_} {w : Nat → Int32} (h : DA d w C R n) (h6 : R ≤ 6) {m : Nat} (hm : am6 R m) : AR (sb_ d (oa_ m)) w m n ∧ AI w m n C := by
  unfold oa_
  rcases hm with hm | hm
  · rw [if_neg (show ¬ m = 6 by omega)]
    exact h.2.2.1 m hm
  · subst hm
    rw [if_pos rfl]
    exact ⟨h.1, h.2.1⟩
/-- settings, as the call tells them -/
def stv_ (w : Nat → Int32) (k : Nat) : Int32 := if k = 6 ∧ ¬ w 5 = 2 then -1 else w k
theorem v_setting (h : HH s t C R n T) {k : Nat} (hk : k ≤ 14) : gX7_setting s (nI k) = some (stv_ (t 1) k) := by
  obtain ⟨⟨⟨⟨hC2, hC, hS0, hw0, hR1, hR6, hS4, hw4, hS2, hS3, hw2, hw3, hkk⟩, a1, a2, k1, k2, k3, k4, eta, etar, foe, foer, ak, akr, asks, base, root, bud, rv, rvr, rvk⟩, ⟨v1, v2, v3, v4, v5, v6, v7, v8, v9, v10, v11⟩, -⟩, -⟩ := h
  have q0 : s 10 0 = t 1 0 := hS0.trans hw0.symm
  have q1 : s 10 1 = t 1 1 := a1
  have q2 : s 10 2 = t 1 2 := hS2
  have q3 : s 10 3 = t 1 3 := hS3
  have q4 : s 10 4 = t 1 4 := hS4.trans hw4.symm
  have q5 : s 10 7 = t 1 5 := k1
  have q6 : s 10 8 = if t 1 5 = 2 then t 1 6 else -1 := by
    by_cases h5 : t 1 5 = 2
    · rw [if_pos h5]; exact (k3 h5).1
    · rw [if_neg h5]; exact k4 h5
  have q7 : s 10 9 = t 1 7 := eta
  have q8 : s 9 7 = t 1 8 := v1
  have q9 : s 10 11 = t 1 9 := foe
  have q10 : s 10 12 = t 1 10 := ak
  have q11 : s 10 17 = t 1 11 := base
  have q12 : s 10 18 = t 1 12 := root
  have q13 : s 10 16 = t 1 13 := bud
  have q14 : s 9 11 = t 1 14 := v9
  unfold gX7_setting stv_
  rcases (show k = 0 ∨ k = 1 ∨ k = 2 ∨ k = 3 ∨ k = 4 ∨ k = 5 ∨ k = 6 ∨ k = 7 ∨ k = 8 ∨ k = 9 ∨ k = 10 ∨ k = 11 ∨ k = 12 ∨ k = 13 ∨ k = 14 by omega) with rfl | rfl | rfl | rfl | rfl | rfl | rfl | rfl | rfl | rfl | rfl | rfl | rfl | rfl | rfl
  · rw [if_pos (show nI 0 = (0 : Int32) from rfl), q0, if_neg (by omega)]
  · rw [if_neg (by decide), if_pos (show nI 1 = (1 : Int32) from rfl), q1, if_neg (by omega)]
  · rw [if_neg (by decide), if_neg (by decide), if_pos (show nI 2 = (2 : Int32) from rfl), q2, if_neg (by omega)]
  · rw [if_neg (by decide), if_neg (by decide), if_neg (by decide), if_pos (show nI 3 = (3 : Int32) from rfl), q3, if_neg (by omega)]
  · rw [if_neg (by decide), if_neg (by decide), if_neg (by decide), if_neg (by decide), if_pos (show nI 4 = (4 : Int32) from rfl), q4, if_neg (by omega)]
  · rw [if_neg (by decide), if_neg (by decide), if_neg (by decide), if_neg (by decide), if_neg (by decide), if_pos (show nI 5 = (5 : Int32) from rfl), q5, if_neg (by omega)]
  · rw [if_neg (by decide), if_neg (by decide), if_neg (by decide), if_neg (by decide), if_neg (by decide), if_neg (by decide), if_pos (show nI 6 = (6 : Int32) from rfl), q6]
    by_cases h5 : t 1 5 = 2
    · rw [if_pos h5, if_neg (fun z => z.2 h5)]
    · rw [if_neg h5, if_pos ⟨rfl, h5⟩]
  · rw [if_neg (by decide), if_neg (by decide), if_neg (by decide), if_neg (by decide), if_neg (by decide), if_neg (by decide), if_neg (by decide), if_pos (show nI 7 = (7 : Int32) from rfl), q7, if_neg (by omega)]
  · rw [if_neg (by decide), if_neg (by decide), if_neg (by decide), if_neg (by decide), if_neg (by decide), if_neg (by decide), if_neg (by decide), if_neg (by decide), if_pos (show nI 8 = (8 : Int32) from rfl), q8, if_neg (by omega)]
  · rw [if_neg (by decide), if_neg (by decide), if_neg (by decide), if_neg (by decide), if_neg (by decide), if_neg (by decide), if_neg (by decide), if_neg (by decide), if_neg (by decide), if_pos (show nI 9 = (9 : Int32) from rfl), q9, if_neg (by omega)]
  · rw [if_neg (by decide), if_neg (by decide), if_neg (by decide), if_neg (by decide), if_neg (by decide), if_neg (by decide), if_neg (by decide), if_neg (by decide), if_neg (by decide), if_neg (by decide), if_pos (show nI 10 = (10 : Int32) from rfl), q10, if_neg (by omega)]
  · rw [if_neg (by decide), if_neg (by decide), if_neg (by decide), if_neg (by decide), if_neg (by decide), if_neg (by decide), if_neg (by decide), if_neg (by decide), if_neg (by decide), if_neg (by decide), if_neg (by decide), if_pos (show nI 11 = (11 : Int32) from rfl), q11, if_neg (by omega)]
  · rw [if_neg (by decide), if_neg (by decide), if_neg (by decide), if_neg (by decide), if_neg (by decide), if_neg (by decide), if_neg (by decide), if_neg (by decide), if_neg (by decide), if_neg (by decide), if_neg (by decide), if_neg (by decide), if_pos (show nI 12 = (12 : Int32) from rfl), q12, if_neg (by omega)]
  · rw [if_neg (by decide), if_neg (by decide), if_neg (by decide), if_neg (by decide), if_neg (by decide), if_neg (by decide), if_neg (by decide), if_neg (by decide), if_neg (by decide), if_neg (by decide), if_neg (by decide), if_neg (by decide), if_neg (by decide), if_pos (show nI 13 = (13 : Int32) from rfl), q13, if_neg (by omega)]
  · rw [if_neg (by decide), if_neg (by decide), if_neg (by decide), if_neg (by decide), if_neg (by decide), if_neg (by decide), if_neg (by decide), if_neg (by decide), if_neg (by decide), if_neg (by decide), if_neg (by decide), if_neg (by decide), if_neg (by decide), if_neg (by decide), if_pos (show nI 14 = (14 : Int32) from rfl), q14, if_neg (by omega)]
theorem v_rounds (h : HH s t C R n T) : gX7_rounds s = some (nI T) := by
  have ev : s 9 9 = t 1 16 := h.1.mk
  unfold gX7_rounds
  rw [ev, h.2.2.1.1.2.2.1]
theorem v_arm (h : HH s t C R n T) {m k : Nat} (hm : am6 R m) (hk : k ≤ 6) : gX7_arm s (xa_ m) (nI k) = some (t 1 (ab_ m + k)) := by
  have hB := h.1.rb
  obtain ⟨⟨b0, b1, b2, b3, b4, b5, b6, -⟩, I⟩ := h.1.2.2.x hB.1.2.1 hm
  unfold gX7_arm
  rw [bn_e (gArm hB.1.2.2.1 hm hB.1.2.1), bn_e (armOf_x (d := sb_ s 9) hB.1.2.2.1 hB.1.2.1 hm)]
  rcases (show k = 0 ∨ k = 1 ∨ k = 2 ∨ k = 3 ∨ k = 4 ∨ k = 5 ∨ k = 6 by omega) with rfl | rfl | rfl | rfl | rfl | rfl | rfl
  · have ev : s (9 + oa_ m) 0 = t 1 (ab_ m + 0) := b0
    rw [if_pos (show nI 0 = (0 : Int32) from rfl), ev]
  · have ev : s (9 + oa_ m) 1 = t 1 (ab_ m + 1) := b1
    rw [if_neg (by decide), if_pos (show nI 1 = (1 : Int32) from rfl), ev]
    rcases I.2.2.1 with hu | hu
    · rw [hu, if_pos rfl]
    · rw [hu, if_neg (by decide)]
  · have ev : s (9 + oa_ m) 2 = t 1 (ab_ m + 2) := b2
    rw [if_neg (by decide), if_neg (by decide), if_pos (show nI 2 = (2 : Int32) from rfl), ev]
  · have ev : s (9 + oa_ m) 5 = t 1 (ab_ m + 3) := b3
    rw [if_neg (by decide), if_neg (by decide), if_neg (by decide), if_pos (show nI 3 = (3 : Int32) from rfl), ev]
  · have ev : s (9 + oa_ m) 6 = t 1 (ab_ m + 4) := b4
    rw [if_neg (by decide), if_neg (by decide), if_neg (by decide), if_neg (by decide), if_pos (show nI 4 = (4 : Int32) from rfl), ev]
  · have ev : s (9 + oa_ m) 7 = t 1 (ab_ m + 5) := b5
    rw [if_neg (by decide), if_neg (by decide), if_neg (by decide), if_neg (by decide), if_neg (by decide), if_pos (show nI 5 = (5 : Int32) from rfl), ev]
  · have ev : s (9 + oa_ m) 8 = t 1 (ab_ m + 6) := b6
    rw [if_neg (by decide), if_neg (by decide), if_neg (by decide), if_neg (by decide), if_neg (by decide), if_neg (by decide), if_pos (show nI 6 = (6 : Int32) from rfl), ev]
theorem v_came (h : HH s t C R n T) {m j : Nat} (hm : am6 R m) (hj : j < n) : gX7_waiting s (xa_ m) (nI j) 1 = some (s (9 + oa_ m + 2) j) := by
  have hB := h.1.rb
  obtain ⟨⟨b0, b1, b2, b3, b4, b5, b6, bj⟩, I⟩ := h.1.2.2.x hB.1.2.1 hm
  have h20 := I.2.2.2.2.1
  have e2 : s (9 + oa_ m) 2 = nI n := b2.trans I.2.2.2.1
  unfold gX7_waiting
  rw [bn_e (gArm hB.1.2.2.1 hm hB.1.2.1), bn_e (gWithin (by decide) (by decide)), bn_e (armOf_x (d := sb_ s 9) hB.1.2.2.1 hB.1.2.1 hm), if_neg (nI_pos (by omega)), e2, if_pos (nI_lt hj (by omega)), if_neg (by decide), gd_t (ib_n (by omega) (by omega)), ix_n (by omega)]
theorem v_rule (h : HH s t C R n T) {r : Nat} (hr : r < R) : gX7_rule s (nI r) 2 = some (t 1 (26 + 5 * r + 2)) ∧ gX7_rule s (nI r) 3 = some (t 1 (26 + 5 * r + 3)) ∧ gX7_rule s (nI r) 4 = some (t 1 (ab_ r + 3)) ∧ gX7_rule s (nI r) 5 = some (t 1 (26 + 5 * r + 4)) := by
  obtain ⟨⟨⟨⟨hC2, hC, hS0, hw0, hR1, hR6, hS4, hw4, hS2, hS3, hw2, hw3, hk⟩, -⟩, ⟨v1, v2, v3, v4, v5, v6, v7, v8, v9, v10, v11⟩, hA⟩, -, ⟨⟨-, -, -, -, hRC, -⟩, -⟩⟩ := h
  have e3 : 9 + (3 * r + 15) = 3 * r + 24 := by omega
  have p5 : s (3 * r + 24) 5 = t 1 (ab_ r + 3) := by
    have h0 : s (9 + (3 * r + 15)) 5 = t 1 (ab_ r + 3) := (hA.2.2.1 r hr).1.2.2.2.1
    rw [e3] at h0
    exact h0
  have q2 : s 21 r = t 1 (26 + 5 * r + 2) := (v11 r hr).1
  have q3 : s 52 r = t 1 (26 + 5 * r + 3) := (hRC r hr).1
  have q5 : s 53 r = t 1 (26 + 5 * r + 4) := (hRC r hr).2.1
  unfold gX7_rule
  rw [bn_e (gRule hS4 hr hR6), bn_e (gRule hS4 hr hR6), bn_e (gRule hS4 hr hR6), bn_e (gRule hS4 hr hR6)]
  refine ⟨?_, ?_, ?_, ?_⟩
  · rw [if_neg (by decide), if_neg (by decide), if_pos rfl, gd_t (ib_n (by omega) (by omega)), ix_n (by omega), q2]
  · rw [if_neg (by decide), if_neg (by decide), if_neg (by decide), if_pos rfl, gd_t (ib_n (by omega) (by omega)), ix_n (by omega), q3]
  · rw [if_neg (by decide), if_neg (by decide), if_neg (by decide), if_neg (by decide), if_pos rfl, gd_t (ib_n (by omega) (by omega)), ix_n (by omega), p5]
  · rw [if_neg (by decide), if_neg (by decide), if_neg (by decide), if_neg (by decide), if_neg (by decide), if_pos rfl, gd_t (ib_n (by omega) (by omega)), ix_n (by omega), q5]
/-- the best rule, the regret against rule r -/
def bs_ (w : Nat → Int32) (R : Nat) : Nat := bst (fun r => w (ab_ r + 3)) (R - 1)
def rg0_ (w : Nat → Int32) (R : Nat) : Int32 := w (ab_ 6 + 3) - w (ab_ (bs_ w R) + 3)
theorem bs_lt {w : Nat → Int32} (h1 : 1 ≤ R) : bs_ w R < R := by
  have := bst_le (f := fun r => w (ab_ r + 3)) (R - 1)
  unfold bs_
  omega
theorem DA.bs {d : st_} {w : Nat → Int32} (h : DA d w C R n) (h1 : 1 ≤ R) : bst (fun r => d (3 * r + 15) 5) (R - 1) = bs_ w R := bst_congr (R - 1) (fun r hr => (h.2.2.1 r (by omega)).1.2.2.2.1)
theorem DA.rg {d : st_} (h : DA d (t 1) C R n) (hd : d 1 4 = nI R) (hR : t 1 4 = nI R) (h1 : 1 ≤ R) (h6 : R ≤ 6) : fX1_regretNow d = some (rg0_ (t 1) R) := by
  rw [(regretNow_p h hd hR h1 h6).1, h.bs h1]
  have e1 : d 5 5 = t 1 (ab_ 6 + 3) := h.1.2.2.2.1
  have e2 : d (3 * bs_ (t 1) R + 15) 5 = t 1 (ab_ (bs_ (t 1) R) + 3) := (h.2.2.1 _ (bs_lt h1)).1.2.2.2.1
  rw [e1, e2]
  rfl
theorem v_best (h : HH s t C R n T) : gX7_best s = some (nI (bs_ (t 1) R)) := by
  have hB := h.1.rb
  unfold gX7_best
  rw [bn_e (cheapest_e (d := sb_ s 9) hB.1.2.2.1 hB.1.1 hB.1.2.1), h.1.2.2.bs hB.1.1]
theorem v_regretTo (h : HH s t C R n T) {r : Nat} (hr : r < R) : gX7_regretTo s (nI r) = some (t 1 (ab_ 6 + 3) - t 1 (ab_ r + 3)) := by
  have hB := h.1.rb
  have h6 := hB.1.2.1
  obtain ⟨A1, A2, A3, A4⟩ := h.1.2.2
  have e3 : 9 + (3 * r + 15) = 3 * r + 24 := by omega
  have p5 : s (3 * r + 24) 5 = t 1 (ab_ r + 3) := by
    have h0 : s (9 + (3 * r + 15)) 5 = t 1 (ab_ r + 3) := (A3 r hr).1.2.2.2.1
    rw [e3] at h0
    exact h0
  have p6 : s 14 5 = t 1 (ab_ 6 + 3) := A1.2.2.2.1
  unfold gX7_regretTo
  rw [bn_e (gRule hB.1.2.2.1 hr h6), gd_t (ib_n (by omega) (by omega)), ix_n (by omega), p5, p6]
theorem v_swapCost (h : HH s t C R n T) {r o : Nat} (hr : r < R) (ho : o < R) : gX7_swapCost s (nI r) (nI o) = some (t 1 (12548 + 6 * r + o)) := by
  have hB := h.1.rb
  have h6 := hB.1.2.1
  obtain ⟨-, -, ⟨-, hX⟩⟩ := h
  have ev : s (42 + (r + 14)) o = t 1 (12548 + 6 * r + o) := hX r o hr ho
  have e56 : 42 + (r + 14) = 1 * r + 56 := by omega
  rw [e56] at ev
  unfold gX7_swapCost
  rw [bn_e (gRule hB.1.2.2.1 hr h6), bn_e (gRule hB.1.2.2.1 ho h6), gd_t (ib_n (N := 6) (by omega) (by omega)), gd_t (ib_n (N := 6) (by omega) (by omega)), ix_n (by omega), ix_n (by omega), ev]
/-- the best exchange for a rule -/
def bw_ (w : Nat → Int32) (R r : Nat) : Nat := bst (fun o => w (12548 + 6 * r + o)) (R - 1)
theorem bw_lt {w : Nat → Int32} {r : Nat} (h1 : 1 ≤ R) : bw_ w R r < R := by
  have := bst_le (f := fun o => w (12548 + 6 * r + o)) (R - 1)
  unfold bw_
  omega
theorem v_bestSwap (h : HH s t C R n T) {r : Nat} (hr : r < R) : gX7_bestSwap s (nI r) = some (nI (bw_ (t 1) R r)) := by
  obtain ⟨hD, -, ⟨⟨g0, g1, g16, gT⟩, -⟩, hX⟩ := h
  have hB := hD.rb
  have h6 := hB.1.2.1
  unfold gX7_bestSwap bw_
  rw [bn_e (gRule hB.1.2.2.1 hr h6), bn_e (cheapSwap_e g0 hB.1.1 h6 hr), swap_bst hX hr]
/-- what the exchanges come to, over the first k rules -/
def sw_s (w : Nat → Int32) (R : Nat) : Nat → Int32
  | 0 => 0
  | k + 1 => sw_s w R k + (w (12548 + 6 * k + k) - w (12548 + 6 * k + bw_ w R k))
theorem v_swapRegret (h : HH s t C R n T) : gX7_swapRegret s = some (sw_s (t 1) R R) := by
  have hB := h.1.rb
  have h6 := hB.1.2.1
  have h1 := hB.1.1
  suffices hw : wp_ (gX7_swapRegret s) (fun x => x = sw_s (t 1) R R) by
    obtain ⟨x, e1, rfl⟩ := hw
    exact e1
  obtain ⟨hD, -, ⟨⟨g0, g1, g16, gT⟩, -⟩, hX⟩ := h
  unfold gX7_swapRegret gX7_swapRegret_l4
  refine wp_bn (Q := fun x => x = sw_s (t 1) R R) ?_ (fun x hx => wp_s hx)
  refine wp_up (fun k v => v = (sw_s (t 1) R k, nI k)) 0 R (Nat.zero_le _) (by omega) rfl (fun k v hk _ hv => ?_) (fun v hv => ?_)
  · subst hv
    have e1 := cheapSwap_e (e := sb_ s 42) g0 h1 h6 hk
    rw [swap_bst hX hk] at e1
    have hb := bw_lt (w := t 1) (r := k) h1
    have e56 : 42 + (k + 14) = 1 * k + 56 := by omega
    have x1 : s (42 + (k + 14)) k = t 1 (12548 + 6 * k + k) := hX k k hk hk
    have x2 : s (42 + (k + 14)) (bw_ (t 1) R k) = t 1 (12548 + 6 * k + bw_ (t 1) R k) := hX k _ hk hb
    rw [e56] at x1 x2
    unfold gX7_swapRegret_b4
    dsimp only
    rw [show s 10 4 = nI R from hB.1.2.2.1]
    refine wp_if' (nI_ge hk (by omega)) (wp_gd (ib_n (by omega) (by omega)) (wp_gd (ib_n (by omega) (by omega)) (wp_bne e1 (wp_gd (ib_n (k := bw_ (t 1) R k) (by omega) (by omega)) (wp_l ?_)))))
    show (_, _) = _
    rw [ix_n (k := k) (by omega), show (bst (fun o => t 1 (12548 + 6 * k + o)) (R - 1)) = bw_ (t 1) R k from rfl, ix_n (k := bw_ (t 1) R k) (by omega), x1, x2, nI_1]
    rfl
  · subst hv
    unfold gX7_swapRegret_b4
    dsimp only
    rw [show s 10 4 = nI R from hB.1.2.2.1]
    exact wp_it (Int32.le_refl _) (wp_r rfl)
theorem v_leads (h : HH s t C R n T) {r : Nat} (hr : r < R) : gX7_leads s (nI r) = some (nI (cnt (fun k => t 1 (1748 + k)) (nI r) T)) := by
  have hB := h.1.rb
  have h6 := hB.1.2.1
  obtain ⟨-, -, ⟨-, -, -, -, hC, -⟩, -⟩ := h
  have ev : s 54 r = nI (cnt (fun k => t 1 (1748 + k)) (nI r) T) := (hC r hr).2.2
  unfold gX7_leads
  rw [bn_e (gRule hB.1.2.2.1 hr h6), gd_t (ib_n (by omega) (by omega)), ix_n (by omega), ev]
theorem v_cost (h : HH s t C R n T) {m k : Nat} (hm : am6 R m) (hk : k < T) : gX7_cost s (xa_ m) (nI k) = some (t 1 (2948 + 1200 * m + k)) := by
  have hB := h.1.rb
  have h6 := hB.1.2.1
  obtain ⟨-, -, hR0, -⟩ := h
  obtain ⟨⟨g0, g1, g16, gT⟩, -⟩ := id hR0
  unfold gX7_cost
  rw [bn_e (gArm hB.1.2.2.1 hm h6), bn_e (show fX4_hasRounds (sb_ s 42) (nI k) (1 : Int32) = some 1 from hasR_t (L := 1) g1 gT (by omega)), if_neg (show ¬ (1 : Int32) = 0 by decide), bn_e (paid1_e hR0 h6 hm hk)]
theorem v_costN (h : HH s t C R n T) {m : Nat} (hm : am6 R m) : gX7_cost s (xa_ m) (nI T) = some (-2000000000) := by
  have hB := h.1.rb
  have h6 := hB.1.2.1
  obtain ⟨-, -, hR0, -⟩ := h
  obtain ⟨⟨g0, g1, g16, gT⟩, -⟩ := id hR0
  unfold gX7_cost
  rw [bn_e (gArm hB.1.2.2.1 hm h6), bn_e (hasR1_f (e := sb_ s 42) g1 gT (fun z => absurd z.2 (Int32.not_lt.mpr (Int32.le_refl _)))), if_pos rfl]
theorem v_taken (h : HH s t C R n T) {k : Nat} (hk : k < T) : gX7_taken s (nI k) = some (t 1 (548 + k)) := by
  obtain ⟨-, -, ⟨⟨g0, g1, g16, gT⟩, -, -, hTk, -⟩, -⟩ := h
  have ev : s 51 k = t 1 (548 + k) := (hTk k hk).1
  unfold gX7_taken
  rw [bn_e (show fX4_hasRounds (sb_ s 42) (nI k) (1 : Int32) = some 1 from hasR_t (L := 1) g1 gT (by omega)), if_neg (show ¬ (1 : Int32) = 0 by decide), gd_t (ib_n (k := k) (by omega) (by omega)), ix_n (k := k) (by omega), ev]
/-- changes of the rule taken, up to round k -/
def swc_ (f : Nat → Int32) : Nat → Nat
  | 0 => 0
  | k + 1 => swc_ f k + (if k = 0 then 0 else if f k = f (k - 1) then 0 else 1)
theorem swc_le {f : Nat → Int32} : ∀ k, swc_ f k ≤ k
  | 0 => Nat.le_refl _
  | k + 1 => by
    have := swc_le (f := f) k
    unfold swc_
    split
    · omega
    · split <;> omega
theorem v_switches (h : HH s t C R n T) : gX7_switches s = some (nI (swc_ (fun k => t 1 (548 + k)) T)) := by
  obtain ⟨-, -, ⟨⟨g0, g1, g16, gT⟩, -, -, hTk, -⟩, -⟩ := h
  suffices hw : wp_ (gX7_switches s) (fun x => x = nI (swc_ (fun k => t 1 (548 + k)) T)) by
    obtain ⟨x, e1, rfl⟩ := hw
    exact e1
  unfold gX7_switches gX7_switches_l12
  refine wp_bn (Q := fun x => x = nI (swc_ (fun k => t 1 (548 + k)) T)) ?_ (fun x hx => wp_s hx)
  refine wp_up (fun k v => v = (nI (swc_ (fun k => t 1 (548 + k)) k), nI k)) 1 (if T = 0 then 1 else T) (by split <;> omega) (by split <;> omega) rfl (fun k v hk hk1 hv => ?_) (fun v hv => ?_)
  · have hkT : k < T := by
      revert hk
      split <;> omega
    subst hv
    have ek : nI k - (1 : Int32) = nI (k - 1) := pk_sub (b := 1) (by omega)
    have q1 : s 51 k = t 1 (548 + k) := (hTk k hkT).1
    have q2 : s 51 (k - 1) = t 1 (548 + (k - 1)) := (hTk (k - 1) (by omega)).1
    have es : swc_ (fun k => t 1 (548 + k)) (k + 1) = swc_ (fun k => t 1 (548 + k)) k + (if t 1 (548 + k) = t 1 (548 + (k - 1)) then 0 else 1) := by
      show _ + (if k = 0 then 0 else _) = _
      rw [if_neg (by omega)]
    unfold gX7_switches_b12
    dsimp only
    rw [show s 42 1 = nI T from g1, ek]
    refine wp_if' (nI_ge hkT (by omega)) (wp_gd (ib_n (k := k) (by omega) (by omega)) (wp_gd (ib_n (k := k - 1) (by omega) (by omega)) ?_))
    rw [ix_n (k := k) (by omega), ix_n (k := k - 1) (by omega), q1, q2]
    unfold gX7_switches_j40
    refine wp_if (fun hc => wp_l ?_) (fun hc => wp_l ?_)
    · rw [es, if_pos hc, nI_1]; rfl
    · rw [es, if_neg hc, nI_1, nI_1]
  · subst hv
    have hle : nI T ≤ nI (if T = 0 then 1 else T) := nI_le (by split <;> omega) (by split <;> omega)
    have e0 : swc_ (fun k => t 1 (548 + k)) (if T = 0 then 1 else T) = swc_ (fun k => t 1 (548 + k)) T := by
      split
      · rename_i hT
        subst hT
        rfl
      · rfl
    unfold gX7_switches_b12
    dsimp only
    rw [show s 42 1 = nI T from g1]
    exact wp_it hle (wp_r (by rw [e0]))
/-- runs of a rule: the longest so far, the one that goes on -/
def stk_ (f : Nat → Int32) (v : Int32) : Nat → Nat × Nat
  | 0 => (0, 0)
  | k + 1 => let q := if f k = v then (stk_ f v k).2 + 1 else 0
    (if (stk_ f v k).1 < q then q else (stk_ f v k).1, q)
theorem stk_le {f : Nat → Int32} {v : Int32} : ∀ k, (stk_ f v k).1 ≤ cnt f v k ∧ (stk_ f v k).2 ≤ cnt f v k ∧ (stk_ f v k).2 ≤ (stk_ f v k).1 ∧ (cnt f v k = 0 ↔ (stk_ f v k).1 = 0) ∧ cnt f v k ≤ k
  | 0 => ⟨Nat.le_refl _, Nat.le_refl _, Nat.le_refl _, Iff.rfl, Nat.le_refl _⟩
  | k + 1 => by
    obtain ⟨h1, h2, h3, h4, h5⟩ := stk_le (f := f) (v := v) k
    unfold stk_ cnt
    dsimp only
    by_cases hc : f k = v
    · rw [if_pos hc, if_pos hc]
      split <;> refine ⟨?_, ?_, ?_, ?_, ?_⟩ <;> omega
    · rw [if_neg hc, if_neg hc]
      split <;> refine ⟨?_, ?_, ?_, ?_, ?_⟩ <;> omega
theorem v_streak (h : HH s t C R n T) {r : Nat} (hr : r < R) : gX7_streak s (nI r) = some (nI (stk_ (fun k => t 1 (548 + k)) (nI r) T).1) := by
  have hB := h.1.rb
  have h6 := hB.1.2.1
  obtain ⟨-, -, ⟨⟨g0, g1, g16, gT⟩, -, -, hTk, -⟩, -⟩ := h
  suffices hw : wp_ (gX7_streak s (nI r)) (fun x => x = nI (stk_ (fun k => t 1 (548 + k)) (nI r) T).1) by
    obtain ⟨x, e1, rfl⟩ := hw
    exact e1
  unfold gX7_streak gX7_streak_l21
  refine wp_bne (gRule hB.1.2.2.1 hr h6) (wp_bn (Q := fun x => x = nI (stk_ (fun k => t 1 (548 + k)) (nI r) T).1) ?_ (fun x hx => wp_s hx))
  refine wp_up (fun k v => v = (nI (stk_ (fun k => t 1 (548 + k)) (nI r) k).1, nI (stk_ (fun k => t 1 (548 + k)) (nI r) k).2, nI k)) 0 T (Nat.zero_le _) (by omega) rfl (fun k v hk _ hv => ?_) (fun v hv => ?_)
  · subst hv
    have q1 : s 51 k = t 1 (548 + k) := (hTk k hk).1
    obtain ⟨l1, l2, l3, l4, l5⟩ := stk_le (f := fun k => t 1 (548 + k)) (v := nI r) k
    have fin : ∀ q : Nat, q ≤ k + 1 → (if t 1 (548 + k) = nI r then (stk_ (fun k => t 1 (548 + k)) (nI r) k).2 + 1 else 0) = q → wp_ (gX7_streak_j49 (nI (stk_ (fun k => t 1 (548 + k)) (nI r) k).1) (nI k) (nI q)) (Sum.elim (fun v => v = (nI (stk_ (fun k => t 1 (548 + k)) (nI r) (k + 1)).1, nI (stk_ (fun k => t 1 (548 + k)) (nI r) (k + 1)).2, nI (k + 1))) (fun x => x = nI (stk_ (fun k => t 1 (548 + k)) (nI r) T).1)) := fun q hq hqe => by
      unfold gX7_streak_j49
      refine wp_l ?_
      have e1 : stk_ (fun k => t 1 (548 + k)) (nI r) (k + 1) = (if (stk_ (fun k => t 1 (548 + k)) (nI r) k).1 < q then q else (stk_ (fun k => t 1 (548 + k)) (nI r) k).1, q) := by
        rw [← hqe]
        rfl
      rw [e1, nI_1]
      dsimp only
      by_cases hc : (stk_ (fun k => t 1 (548 + k)) (nI r) k).1 < q
      · rw [if_pos (nI_lt hc (by omega)), if_pos hc]
      · rw [if_neg (nI_nlt (by omega) (by omega)), if_neg hc]
    unfold gX7_streak_b21
    dsimp only
    rw [show s 42 1 = nI T from g1]
    refine wp_if' (nI_ge hk (by omega)) (wp_gd (ib_n (k := k) (by omega) (by omega)) ?_)
    rw [ix_n (k := k) (by omega), q1]
    refine wp_if (fun hc => ?_) (fun hc => ?_)
    · rw [nI_1]
      exact fin _ (by omega) (if_pos hc)
    · exact fin 0 (by omega) (if_neg hc)
  · subst hv
    unfold gX7_streak_b21
    dsimp only
    rw [show s 42 1 = nI T from g1]
    exact wp_it (Int32.le_refl _) (wp_r rfl)
end VAL
