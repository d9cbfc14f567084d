/-! the hurt foretold is the regret that comes -/
theorem fcx_S {a S S' : st_} {kind c n q : Nat} {wd : Int32} (h2 : S' 0 2 = S 0 2) (h3 : S' 0 3 = S 0 3) : fcx a S' kind wd c n q = fcx a S kind wd c n q := by
  unfold fcx
  rw [h2, h3]
theorem fm_congr {κ κ' : Nat → Nat} {n i : Nat} (h : fm_ κ n i) (he : ∀ j, j < n → κ' j = κ j) : fm_ κ' n i := by
  obtain ⟨h1, h2⟩ := h
  refine ⟨h1, fun j hj => ?_⟩
  rw [he i h1, he j hj]
  exact h2 j hj
/-- what serving costs with one request more -/
theorem serve_rcv {a a2 a' S S0 : st_} {c n q r R kind : Nat} {mk mk' wd : Int32} (A : AC a2 c (n + 1)) (e : fX0_serve a2 S (nI r) mk = some a') (hR : S 0 4 = nI R) (hr : r < R) (h6 : R ≤ 6) (hkd : S 1 r = nI kind) (hk4 : kind ≤ 4) (hwd : S 2 r = wd) (hx : ∀ x, x < 3 → a2 x = rcv n (nI q) mk' a x) (hq : q < 100) (h2 : S 0 2 = S0 0 2) (h3 : S 0 3 = S0 0 3) : a' 0 5 = a 0 5 + fcx a S0 kind wd c n q := by
  obtain ⟨z, ez, hz⟩ := serve_w (mk := mk) (wd := wd) A hR hr h6 hkd hk4 hwd
  cases e.symm.trans ez
  have r0 : ∀ j, j ≠ 2 → a2 0 j = a 0 j := fun j hj => by
    rw [hx 0 (by omega)]
    unfold rcv
    rw [pt_r hj, pt_oo (by decide), pt_oo (by decide)]
  have r1 : ∀ j, a2 1 j = if j = n then nI q else a 1 j := fun j => by
    rw [hx 1 (by omega)]
    unfold rcv
    rw [pt_oo (by decide), pt_oo (by decide)]
    by_cases h : j = n
    · subst h; rw [pt_a, if_pos rfl]
    · rw [pt_r h, if_neg h]
  rcases hz with ⟨h0, -⟩ | ⟨k, hf, b0, b1, b2, b5, -⟩
  · exact absurd h0 (by omega)
  rw [b5, r0 5 (by decide), h2, h3]
  have kj : ∀ j, j < n → ka_ a2 kind wd c j = ka_ a kind wd c j := fun j hj => by
    unfold ka_
    rw [r0 1 (by decide), r1 j, if_neg (by omega)]
  have kn : ka_ a2 kind wd c n = rk_ kind wd (a 0 1) c q := by
    unfold ka_
    rw [r0 1 (by decide), r1 n, if_pos rfl, ix_n (by omega)]
  unfold fcx
  by_cases h0 : n = 0
  · subst h0
    have : k = 0 := by have := hf.1; omega
    subst this
    rw [if_pos rfl, r1 0, if_pos rfl, ix_n (by omega)]
  · rw [if_neg h0]
    have hm := am_fm (κ := ka_ a kind wd c) n (by omega)
    have hm2 := fm_congr hm kj
    have hml := hm.1
    by_cases hc : rk_ kind wd (a 0 1) c q < ka_ a kind wd c (am_ (ka_ a kind wd c) n)
    · rw [if_pos hc]
      have hk := fm_u hf (fm_take hm2 (by rw [kn, kj _ hml]; exact hc))
      subst hk
      rw [r1 k, if_pos rfl, ix_n (by omega)]
    · rw [if_neg hc]
      have hk := fm_u hf (fm_keep hm2 (by rw [kn, kj _ hml]; omega))
      rw [hk, r1 _, if_neg (by omega)]
section HURT58
variable {s s' t t' d d' : st_} {C R n n' T K k c m r : Nat}
theorem moveFoe_0 (h0 : d 1 11 = 0) (h5 : d 5 2 = nI n) (h20 : n ≤ 20) : fX1_moveFoe d = some d := by
  have ef : fX1_foeNow d = some 0 := by
    have e50 : fX1_foeNow_j50 d = some 0 := by
      unfold fX1_foeNow_j50
      rw [h0]
    have e30 : ∀ z, fX1_foeNow_j30 d z = some 0 := fun z => by
      unfold fX1_foeNow_j30
      rw [if_neg (show ¬ d 1 11 = (5 : Int32) by rw [h0]; decide), e50]
    unfold fX1_foeNow fX1_foeNow_j29
    rw [e30, e30]
    split
    · rfl
    · split <;> rfl
  unfold fX1_moveFoe
  rw [bn_e (isFull_e h5 h20)]
  by_cases hn : n < 20
  · rw [if_pos (by rw [if_pos hn]), bn_e ef, if_neg (by decide), if_neg (by decide), if_neg (by decide), if_neg (by decide), if_neg (by decide)]
  · rw [if_neg (by rw [if_neg hn]; decide)]
/-- a round without a foe -/
theorem round_h (h : HH s t C R n T) (hf : s 10 11 = 0) (hT : T < 1000) : ∃ t' r9 d a5, fX8_round t = some t' ∧ r9 < R ∧ fX1_comingRule (sb_ s 9) = some (nI r9) ∧ (∀ o, o < 33 → o ≠ 0 → d o = sb_ s 9 o) ∧ DD d (t 1) C R n ∧ fX0_serve (sb_ d 5) (sb_ d 1) (nI r9) (t 1 16) = some a5 ∧ t' 1 (ab_ 6 + 3) = a5 0 5 ∧ ∀ r, r < R → ∃ S a0, RS S (t 1) C R ∧ fX0_serve (sb_ d (3 * r + 15)) S (nI r) (t 1 16) = some a0 ∧ t' 1 (ab_ r + 3) = a0 0 5 := by
  have hB := h.1.rb
  have h6 := hB.1.2.1
  have h16 := h.2.2.1.1.2.2.1
  obtain ⟨g', t', n', m1, m2, hm, hH, -⟩ := makeRound_q h hT
  unfold fX2_makeRound at m1
  obtain ⟨d1, e1, f1⟩ := bn_x m1
  obtain ⟨s5, es5, f2⟩ := bd_x f1
  obtain ⟨d2, e2, f3⟩ := bn_x f2
  obtain ⟨s11, es11, f4⟩ := bd_x f3
  obtain ⟨r13, e13, f5⟩ := bn_x f4
  obtain ⟨s17, es17, f6⟩ := bd_x f5
  obtain ⟨d3, e3, f7⟩ := bn_x f6
  obtain ⟨s23, es23, f8⟩ := bd_x f7
  obtain ⟨r25, e25, f9⟩ := bn_x f8
  obtain ⟨s29, es29, f10⟩ := bd_x f9
  have eg : s29 = g' := Option.some.inj f10
  rw [sb81] at e1
  cases e1.symm.trans (moveFoe_0 (n := n) hf h.n5 h.n20)
  have i5 : ∀ o, o < 33 → sb_ s5 1 o = sb_ s 9 o := fun o ho => by rw [es5, sb_ap, mg_i (by omega) (by omega), Nat.add_sub_cancel_left]
  have i17 : ∀ o, o < 33 → sb_ s17 1 o = d2 o := fun o ho => by rw [es17, sb_ap, mg_o (by omega), es11, mg_i (by omega) (by omega), Nat.add_sub_cancel_left]
  have i29 : ∀ o, o < 33 → sb_ g' 1 o = d3 o := fun o ho => by rw [← eg, es29, sb_ap, mg_o (by omega), es23, mg_i (by omega) (by omega), Nat.add_sub_cancel_left]
  have hD5 : DD (sb_ s5 1) (t 1) C R n := h.1.x33 i5
  obtain ⟨d2', t2, rr, rv, c2, hrr, hd9, hd2o, -, -, hi2, hD2, -⟩ := take_p hD5
  have ed2 : d2' = d2 := Option.some.inj (c2.symm.trans e2)
  rw [ed2] at hd9 hd2o hD2
  have hD17 : DD (sb_ s17 1) (t2 1) C R n := hD2.x33 i17
  have t216 : t2 1 16 = t 1 16 := hi2 16 (by omega) (by omega) (by omega)
  have s12 : sb_ s17 1 0 12 = nI rr := by rw [i17 0 (by omega)]; exact hd9
  obtain ⟨⟨a5, v1, v2⟩, v3⟩ := serveAll_x e3 hD17 hrr s12
  rw [t216] at v1 v3
  have hrb5 : RB (sb_ s5 1) (t 1) R := hD5.rb
  obtain ⟨ra, ca, cb⟩ := take_c hrb5 e2
  obtain ⟨rb, hrbR, cc, cd⟩ := comingRule_p (t := t) hB
  obtain ⟨rc, hrcR, ce, cf⟩ := comingRule_p (t := t) hrb5
  have e1r : nI ra = nI rr := cb.symm.trans hd9
  have e2r : nI ra = nI rc := Option.some.inj (ca.symm.trans ce)
  have e3r : nI rb = nI rc := Option.some.inj (cd.symm.trans cf)
  have hcoming : fX1_comingRule (sb_ s 9) = some (nI rr) := by rw [cc, e3r, ← e2r, e1r]
  have hRSw : ∀ {S : st_}, RS S (t2 1) C R → RS S (t 1) C R := fun {S} hS => by
    obtain ⟨hC2, hC, hS0, hw0, hR1, hR6, hS4, hw4, hS2, hS3, hw2, hw3, hkk⟩ := hS
    have e : ∀ i, i ≠ 8 → i ≠ 23 → i ≠ 25 → t2 1 i = t 1 i := hi2
    rw [e 0 (by omega) (by omega) (by omega)] at hw0
    rw [e 4 (by omega) (by omega) (by omega)] at hw4
    rw [e 2 (by omega) (by omega) (by omega)] at hS2 hw2
    rw [e 3 (by omega) (by omega) (by omega)] at hS3 hw3
    exact ⟨hC2, hC, hS0, hw0, hR1, hR6, hS4, hw4, hS2, hS3, hw2, hw3, fun r hr => by
      have := hkk r hr
      rw [e (26 + 5 * r) (by omega) (by omega) (by omega), e (26 + 5 * r + 1) (by omega) (by omega) (by omega)] at this
      exact this⟩
  have hd : ∀ o, o < 33 → o ≠ 0 → sb_ s17 1 o = sb_ s 9 o := fun o ho h0 => by rw [i17 o ho, hd2o o h0, i5 o ho]
  have hp6 : t' 1 (ab_ 6 + 3) = d3 5 5 := by
    have e1 : sb_ (mg_ s 8 75 g') 9 5 5 = t' 1 (ab_ 6 + 3) := hH.1.2.2.1.2.2.2.1
    rw [← e1, put8a (by omega), i29 5 (by omega)]
  have hpr : ∀ r, r < R → t' 1 (ab_ r + 3) = d3 (3 * r + 15) 5 := fun r hr => by
    have e1 : sb_ (mg_ s 8 75 g') 9 (3 * r + 15) 5 = t' 1 (ab_ r + 3) := (hH.1.2.2.2.2.1 r hr).1.2.2.2.1
    rw [← e1, put8a (by omega), i29 _ (by omega)]
  -- the duel with the settings and rows of before
  let d : st_ := fun o => if o = 0 then sb_ s 9 0 else sb_ s17 1 o
  have dd0 : d 0 = sb_ s 9 0 := if_pos rfl
  have ddo : ∀ o, o ≠ 0 → d o = sb_ s17 1 o := fun o ho => if_neg ho
  have hDd : DD d (t 1) C R n := h.1.x33 (fun o ho => by
    by_cases h0 : o = 0
    · rw [h0, dd0]
    · rw [ddo o h0, hd o ho h0])
  have sbe : ∀ o, o ≠ 0 → sb_ d o = sb_ (sb_ s17 1) o := fun o ho => funext fun x => ddo (o + x) (by omega)
  refine ⟨t', rr, d, a5, m2, hrr, hcoming, fun o ho h0 => (ddo o h0).trans (hd o ho h0), hDd, ?_, ?_, fun r hr => ?_⟩
  · rw [sbe 5 (by omega), sbe 1 (by omega)]
    exact v1
  · rw [hp6]
    have := v2 0 (by omega)
    rw [sb_ap] at this
    rw [← this]
  · obtain ⟨S, a0, u1, u2, u3⟩ := v3 r hr
    refine ⟨S, a0, hRSw u1, ?_, ?_⟩
    · rw [sbe _ (by omega)]
      exact u2
    · rw [hpr r hr]
      have := u3 0 (by omega)
      rw [sb_ap] at this
      rw [← this]
end HURT58
