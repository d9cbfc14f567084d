/-! what the law's property rests on, over rounds -/
/-- paid by taking rule r, behind k rounds -/
def tks_ (w : Nat → Int32) (r : Nat) : Nat → Nat
  | 0 => 0
  | k + 1 => tks_ w r k + (if w (548 + k) = nI r then cs_ w 6 k else 0)
/-- the regret behind k rounds -/
def rgk_ (w : Nat → Int32) (R k : Nat) : Int32 := nI (nsm (cs_ w 6) k) - nI (nsm (cs_ w (bst (fun r => nI (nsm (cs_ w r) k)) (R - 1))) k)
/-- the greatest regret -/
def mxr_ (w : Nat → Int32) (R : Nat) : Nat → Int32
  | 0 => 0
  | k + 1 => if k = 0 then rgk_ w R (k + 1) else if mxr_ w R k < rgk_ w R (k + 1) then rgk_ w R (k + 1) else mxr_ w R k
/-- the rounds whose regret is above the bound -/
noncomputable def brc_ (w : Nat → Int32) (R : Nat) : Nat → Nat
  | 0 => 0
  | k + 1 => brc_ w R k + (if bnd_ w (k + 1) < rgk_ w R (k + 1) then 1 else 0)
/-- the row, as the property needs it -/
def WI (w : Nat → Int32) (R T : Nat) : Prop :=
  (∀ r, r < R → w (26 + 5 * r + 3) = nI (cnt (fun k => w (548 + k)) (nI r) T)) ∧
  (∀ r, r < R → w (26 + 5 * r + 4) = nI (tks_ w r T)) ∧
  (∀ k, k < T → rg_ (w (1748 + k)) 0 (R - 1)) ∧
  (∀ r o, r < R → o < R → ∃ x, w (12548 + 6 * r + o) = nI x ∧ x ≤ 9900 * T) ∧
  (∀ r, r < R → w (12548 + 6 * r + r) = w (26 + 5 * r + 4)) ∧
  w 18 = mxr_ w R T ∧ w 17 = nI (brc_ w R T) ∧ ((w 17 = 0 ∧ w 19 = -1) ∨ (¬ w 17 = 0 ∧ 0 ≤ w 19)) ∧ ¬ w 11 = -1
theorem brc_le {w : Nat → Int32} {R : Nat} : ∀ k, brc_ w R k ≤ k
  | 0 => Nat.le_refl _
  | k + 1 => by
    have := brc_le (w := w) (R := R) k
    unfold brc_
    split <;> omega
section RND
variable {d d' d1 d3 t t' s s' : st_} {w w' : Nat → Int32} {C R n n' T K r9 m : Nat}
/-- the rule taken is the rule foretold -/
theorem take_c (h : RB d (t 1) R) (e : fX1_takeRules d = some d') : ∃ r, fX1_comingRule d = some (nI r) ∧ d' 0 12 = nI r := by
  obtain ⟨⟨h1, h6, hd, hw⟩, ⟨k1, k2, k3⟩, ⟨s1, s2⟩, hwt, hp⟩ := h
  obtain ⟨x, _, hx, hxe⟩ := s2.ex
  have j68 : ∀ {y z : st_}, fX1_takeRules_j68 y = some z → z 0 12 = y 0 12 := fun {y z} ez => by
    unfold fX1_takeRules_j68 at ez
    obtain ⟨r9, e9, f⟩ := bn_x ez
    split at f
    · cases f
      rfl
    · obtain ⟨r13, e13, f⟩ := bn_x f
      obtain ⟨s17, es, f⟩ := bd_x f
      cases f
      subst es
      exact pt_r (by decide)
  have j21 : ∀ {y z : st_} {r1 : Int32}, fX1_ruleBy y (y 1 7) (y 1 8) (y 0 7) = some r1 → fX1_takeRules_j21 y = some z → z 0 12 = r1 := fun {y z r1} er ez => by
    unfold fX1_takeRules_j21 at ez
    rw [bn_e er] at ez
    obtain ⟨s5, es, f⟩ := bd_x ez
    split at f
    · obtain ⟨r21, e21, f⟩ := bn_x f
      obtain ⟨s25, es2, f⟩ := bd_x f
      rw [j68 f, es2, pt_r (by decide), es]
      exact pt_a
    · rw [j68 f, es]
      exact pt_a
  unfold fX1_takeRules at e
  by_cases hk : t 1 5 = 0
  · rw [if_pos (k1.trans hk), s1, hxe, bn_e (seedBehind_e hx)] at e
    obtain ⟨s33, es, e⟩ := bd_x e
    obtain ⟨r, hr, e1, e2⟩ := ruleBy_p (kind := t 1 5) (kc := d 1 8) (km := t 1 6) (s := nI ((1103 * x + 12345) % 32768)) hd hw h1 h6 hwt hp k2 k3 (rg_n (Nat.zero_le _) (by omega) (by omega))
    have so : ∀ o, o ≠ 0 → s33 o = d o := fun o ho => by rw [es]; exact pt_o ho
    have s07 : s33 0 7 = nI ((1103 * x + 12345) % 32768) := by rw [es]; exact pt_a
    obtain ⟨r', hr', f1, f2⟩ := ruleBy_p (d := s33) (t := t) (kind := t 1 5) (kc := d 1 8) (km := t 1 6) (s := nI ((1103 * x + 12345) % 32768)) (by rw [so 1 (by decide)]; exact hd) hw h1 h6 (fun r hr => by rw [so 12 (by decide)]; exact hwt r hr) (fun r hr => by rw [so _ (by omega)]; exact hp r hr) k2 k3 (rg_n (Nat.zero_le _) (by omega) (by omega))
    have er : nI r' = nI r := Option.some.inj (f2.symm.trans e2)
    refine ⟨r, ?_, ?_⟩
    · unfold fX1_comingRule
      rw [s1, hxe, bn_e (seedBehind_e hx), k1, bn_e e1]
    · rw [← er]
      refine j21 ?_ e
      rw [so 1 (by decide), s07, k1]
      exact f1
  · rw [if_neg (fun z => hk (k1.symm.trans z))] at e
    obtain ⟨r, hr, e1, e2⟩ := ruleBy_p (kind := t 1 5) (kc := d 1 8) (km := t 1 6) (s := nI ((1103 * x + 12345) % 32768)) hd hw h1 h6 hwt hp k2 k3 (rg_n (Nat.zero_le _) (by omega) (by omega))
    refine ⟨r, ?_, ?_⟩
    · unfold fX1_comingRule
      rw [s1, hxe, bn_e (seedBehind_e hx), k1, bn_e e1]
    · refine j21 ?_ e
      rw [k1]
      unfold fX1_ruleBy at e1 ⊢
      rw [if_neg hk] at e1 ⊢
      exact e1
theorem serveAll_1 (e : fX1_serveAll d = some d3) (hD : DD d (t 1) C R n) (h9 : r9 < R) (hd9 : d 0 12 = nI r9) : d3 1 = d 1 := by
  unfold fX1_serveAll at e
  obtain ⟨a5, e5, f1⟩ := bn_x e
  obtain ⟨s5, es5, f2⟩ := bd_x f1
  obtain ⟨s', e', f3⟩ := bn_x f2
  subst es5
  obtain ⟨s'', e'', ho, hF⟩ := ownc_w (s5 := mg_ d 5 3 a5) hD (fun o ho => mg_o (by omega))
  have es : s' = s'' := Option.some.inj (e'.symm.trans e'')
  rw [← es] at ho
  unfold fX1_serveAll_k21 fX1_serveAll_x21_56 at f3
  obtain ⟨r7, e7, f4⟩ := bn_x f3
  have s1 : s' 1 = d 1 := by rw [ho 1 (by omega), mg_o (by omega)]
  have fin : ∀ x : st_, x 1 = s' 1 → fX1_serveAll_j85 x = some d3 → d3 1 = d 1 := fun x hx ex => by
    unfold fX1_serveAll_j85 at ex
    obtain ⟨r11, e11, ex⟩ := bn_x ex
    obtain ⟨s15, es, ex⟩ := bd_x ex
    cases ex
    subst es
    rw [pt_o (by decide), lose_fr e11 1 (by decide), hx, s1]
  split at f4
  · exact fin s' rfl f4
  · obtain ⟨r19, e19, f5⟩ := bn_x f4
    obtain ⟨s23, es, f6⟩ := bd_x f5
    subst es
    exact fin _ (mg_o (by omega)) f6
/-- the duel of a round: arms, costs, the rule that is taken -/
theorem round_y (h : HH s t C R n T) (hT : T < 1000) (hA : DT (sb_ s 9) R n T K) : ∃ g' t' n' K' r9 d2 d3, fX2_makeRound (sb_ s 8) = some g' ∧ fX8_round t = some t' ∧ mo_ t t' ∧ HH (mg_ s 8 75 g') t' C R n' (T + 1) ∧ DT (sb_ (mg_ s 8 75 g') 9) R n' (T + 1) K' ∧ r9 < R ∧ fX1_comingRule (sb_ s 9) = some (nI r9) ∧ RE d2 d3 (t 1) (t' 1) R T r9 ∧ DA d3 (t' 1) C R n' ∧ d3 1 4 = nI R ∧ d3 1 17 = t' 1 11 ∧ d3 1 18 = t' 1 12 ∧ d3 0 9 = nI (T + 1) ∧ t' 1 11 = t 1 11 ∧ t' 1 12 = t 1 12 ∧ t' 1 21 = t 1 21 ∧ (∀ o, o < R → rg_ (cby d2 o) 0 9900) ∧ d3 5 9 = cby d2 r9 := by
  have hB := h.1.rb
  have h1 := hB.1.1
  have h6 := hB.1.2.1
  have h16 := h.2.2.1.1.2.2.1
  have h9 : sb_ s 9 0 9 = nI T := h.1.mk.trans h16
  obtain ⟨g', t', n', m1, m2, hm, hH, -⟩ := makeRound_q h hT
  have m1' := m1
  unfold fX2_makeRound at m1'
  obtain ⟨d1, e1, f1⟩ := bn_x m1'
  obtain ⟨s5, es5, f2⟩ := bd_x f1
  obtain ⟨d2, e2, f3⟩ := bn_x f2
  obtain ⟨s11, es11, f4⟩ := bd_x f3
  obtain ⟨r13, e13, f5⟩ := bn_x f4
  obtain ⟨s17, es17, f6⟩ := bd_x f5
  obtain ⟨d3, e3, f7⟩ := bn_x f6
  obtain ⟨s23, es23, f8⟩ := bd_x f7
  obtain ⟨r25, e25, f9⟩ := bn_x f8
  obtain ⟨s29, es29, f10⟩ := bd_x f9
  have eg : s29 = g' := Option.some.inj f10
  rw [sb81] at e1
  have i5 : ∀ o, o < 33 → sb_ s5 1 o = d1 o := fun o ho => by rw [es5, sb_ap, mg_i (by omega) (by omega), Nat.add_sub_cancel_left]
  have i17 : ∀ o, o < 33 → sb_ s17 1 o = d2 o := fun o ho => by rw [es17, sb_ap, mg_o (by omega), es11, mg_i (by omega) (by omega), Nat.add_sub_cancel_left]
  have i29 : ∀ o, o < 33 → sb_ g' 1 o = d3 o := fun o ho => by rw [← eg, es29, sb_ap, mg_o (by omega), es23, mg_i (by omega) (by omega), Nat.add_sub_cancel_left]
  -- the model's steps
  obtain ⟨d1', t1, n1, c1, -, -, hD1, hi1, -⟩ := foe_q h.1
  have ed1 : d1' = d1 := Option.some.inj (c1.symm.trans e1)
  rw [ed1] at hD1
  have hD5 : DD (sb_ s5 1) (t1 1) C R n1 := hD1.x33 i5
  obtain ⟨d2', t2, rr, rv, c2, hrr, hd9, hd2o, -, -, hi2, hD2, -⟩ := take_p hD5
  have ed2 : d2' = d2 := Option.some.inj (c2.symm.trans e2)
  rw [ed2] at hd9 hd2o hD2
  have hD17 : DD (sb_ s17 1) (t2 1) C R n1 := hD2.x33 i17
  have f16 : fI_ 16 := by unfold fI_; omega
  have t216 : t2 1 16 = nI T := by rw [hi2 16 (by omega) (by omega) (by omega), hi1 16 f16, h16]
  -- the round, as the reference has it
  obtain ⟨d1x, y1, y2⟩ := round_g h.1 h16 (by omega)
  have ex1 : d1x = d1 := Option.some.inj (y1.symm.trans e1)
  subst ex1
  obtain ⟨d2x, y3, y4⟩ := y2 (sb_ s5 1) i5
  have ex2 : d2x = d2 := Option.some.inj (y3.symm.trans e2)
  subst ex2
  obtain ⟨d3x, t'', n'', r9, y5, y6, y7, hD3, hr9, q1, q2, q3, q4, q5, hk, hE⟩ := y4 (sb_ s17 1) i17
  have ex3 : d3x = d3 := Option.some.inj (y5.symm.trans e3)
  have ext : t'' = t' := Option.some.inj (y6.symm.trans m2)
  subst ex3 ext
  have s12 : sb_ s17 1 0 12 = nI rr := by rw [i17 0 (by omega)]; exact hd9
  have err : rr = r9 := (nI_eq (by omega) (by omega)).mp (s12.symm.trans q1)
  subst err
  obtain ⟨⟨a5, v1, v2⟩, v3⟩ := serveAll_x e3 hD17 hrr s12
  rw [t216] at v1 v3
  -- arms
  obtain ⟨nA, hnA1, hA1⟩ := moveFoe_x e1 h.1 hA h9
  have h20 : n1 ≤ 20 := hD1.2.2.2.1.2.2.2.2.1
  have hn20 : n ≤ 20 := h.1.2.2.2.1.2.2.2.2.1
  have hnA : nA = n1 := by
    have a1 : d1x 5 2 = nI nA := hA1.1.1
    have a2 : d1x 5 2 = nI n1 := hD1.2.2.1.2.2.1.trans hD1.2.2.2.1.2.2.2.1
    exact (nI_eq (by omega) (by omega)).mp (a1.symm.trans a2)
  subst hnA
  have hA17 : DT (sb_ s17 1) R nA T K := hA1.ext h6 (fun o ho => by rw [i17 o (by omega), hd2o o (by omega), i5 o (by omega)])
  have hA3 : DT d3x R (nA - 1) T (if nA = 0 then K else K + 1) := ⟨(AT.serve (w := t2 1) (m := 6) (by omega) v1 hA17.1 hD17.2.2.1 hD17.2.2.2.1 hD17.1.1 hrr).ext v2, fun r hr => by
    obtain ⟨S, a0, u1, u2, u3⟩ := v3 r hr
    exact (AT.serve (w := t2 1) (m := r) (by omega) u2 (hA17.2 r hr) (hD17.2.2.2.2.1 r hr).1 (hD17.2.2.2.2.1 r hr).2 u1 hr).ext u3⟩
  have hn'' : nA - 1 = n'' := hA3.num hD3.2.2 (by omega)
  have hn' : n'' = n' := by
    have a1 := hD3.2.2.2.1.2.2.2.1
    have a2 := hH.1.2.2.2.1.2.2.2.1
    have b1 := hD3.2.2.2.1.2.2.2.2.1
    have b2 := hH.1.2.2.2.1.2.2.2.2.1
    exact (nI_eq (by omega) (by omega)).mp (a1.symm.trans a2)
  have hcost : d3x 5 9 = cby (sb_ s17 1) rr := by
    have a1 : d3x 5 9 = a5 0 9 := by
      have := v2 0 (by omega)
      rw [sb_ap] at this
      rw [← this]
    rw [a1]
    exact serve_cost (w := t2 1) (m := 6) v1 (hE.1 (sb_ s17 1) (fun _ _ => rfl) rr hrr) hD17.2.2.1 hD17.2.2.2.1 hD17.1.1 hrr
  have hrb : RB d1x (t 1) R := hD1.rb.of (fun i hi => (hi1 i (by unfold fI_; omega)).symm)
  have hrb5 : RB (sb_ s5 1) (t 1) R := by
    obtain ⟨⟨a1, a2, a3, a4⟩, ⟨b1, b2, b3⟩, ⟨c1, c2⟩, c3, c4⟩ := hrb
    exact ⟨⟨a1, a2, by rw [i5 1 (by omega)]; exact a3, a4⟩, ⟨by rw [i5 1 (by omega)]; exact b1, b2, fun z => by rw [i5 1 (by omega)]; exact b3 z⟩, ⟨by rw [i5 0 (by omega)]; exact c1, c2⟩, fun r hr => by rw [i5 12 (by omega)]; exact c3 r hr, fun r hr => by rw [i5 _ (by omega)]; exact c4 r hr⟩
  obtain ⟨ra, ca, cb⟩ := take_c hrb5 e2
  obtain ⟨rb, hrbR, cc, cd⟩ := comingRule_p (t := t) hB
  obtain ⟨rc, hrcR, ce, cf⟩ := comingRule_p (t := t) hrb5
  have e1r : nI ra = nI rr := cb.symm.trans hd9
  have e2r : nI ra = nI rc := Option.some.inj (ca.symm.trans ce)
  have e3r : nI rb = nI rc := Option.some.inj (cd.symm.trans cf)
  have hcoming : fX1_comingRule (sb_ s 9) = some (nI rr) := by rw [cc, e3r, ← e2r, e1r]
  -- settings
  have k1 : d3x 1 = d1x 1 := by rw [serveAll_1 e3 hD17 hrr s12, i17 1 (by omega), hd2o 1 (by decide), i5 1 (by omega)]
  have b3 : d3x 1 17 = t'' 1 11 := hD3.1.2.2.2.2.2.2.2.2.2.2.2.2.2.2.1
  have b4 : d3x 1 18 = t'' 1 12 := hD3.1.2.2.2.2.2.2.2.2.2.2.2.2.2.2.2.1
  have b5 : d1x 1 17 = t1 1 11 := hD1.1.2.2.2.2.2.2.2.2.2.2.2.2.2.2.1
  have b6 : d1x 1 18 = t1 1 12 := hD1.1.2.2.2.2.2.2.2.2.2.2.2.2.2.2.2.1
  have w11 : t'' 1 11 = t 1 11 := by rw [← b3, k1, b5, hi1 11 (by unfold fI_; omega)]
  have w12 : t'' 1 12 = t 1 12 := by rw [← b4, k1, b6, hi1 12 (by unfold fI_; omega)]
  have w21 : t'' 1 21 = t 1 21 := by rw [← hD3.rv, q5]
  have hmk : d3x 0 9 = nI (T + 1) := hD3.mk.trans hH.2.2.1.1.2.2.1
  refine ⟨g', t'', n', (if nA = 0 then K else K + 1), rr, sb_ s17 1, d3x, m1, m2, hm, hH, ?_, hrr, hcoming, hE, by rw [← hn']; exact hD3.2.2, q4, b3, b4, hmk, w11, w12, w21, fun o ho => cost_rg (w := t2 1) (m := 6) (hE.1 (sb_ s17 1) (fun _ _ => rfl) o ho) hD17.2.2.1 hD17.2.2.2.1 hD17.1.1 ho, hcost⟩
  rw [← hn', ← hn'']
  exact DT.ext ⟨hA3.1.up, fun r hr => (hA3.2 r hr).up⟩ h6 (fun o ho => by rw [put8a (by omega), i29 o (by omega)])
/-- is it a breach -/
theorem breach_x (hA : DA d (t 1) C R n) (hd : d 1 4 = nI R) (hR : t 1 4 = nI R) (h1 : 1 ≤ R) (h6 : R ≤ 6) (hb : d 1 17 = t 1 11) (hr : d 1 18 = t 1 12) (hm : d 0 9 = nI T) (hT : T ≤ 1200) (hn : ¬ t 1 11 = -1) : fX1_isBreach d = some (if bnd_ (t 1) T < rg0_ (t 1) R then 1 else 0) := by
  unfold fX1_isBreach
  rw [if_neg (by rw [hb]; exact hn), bn_e (hA.rg hd hR h1 h6), hm, bn_e (bound_x (S := sb_ d 1) hb hr hT hn)]
  by_cases hc : bnd_ (t 1) T < rg0_ (t 1) R
  · rw [if_neg (Int32.not_le.mpr hc), if_pos hc]
  · rw [if_pos (Int32.not_lt.mp hc), if_neg hc]
    rfl
theorem rg_k (h : HH s t C R n T) : rg0_ (t 1) R = rgk_ (t 1) R T := by
  obtain ⟨e1, e2⟩ := wr_T h
  have h1 := h.1.rb.1.1
  have e3 : bst (fun r => nI (nsm (cs_ (t 1) r) T)) (R - 1) = bs_ (t 1) R := e2
  unfold rgk_ rg0_
  rw [e3]
  have a1 : t 1 (ab_ 6 + 3) = nI (nsm (cs_ (t 1) 6) T) := (h.2.2.1.2.2.1 6 (Or.inr rfl)).2.2
  have a2 : t 1 (ab_ (bs_ (t 1) R) + 3) = nI (nsm (cs_ (t 1) (bs_ (t 1) R)) T) := (h.2.2.1.2.2.1 _ (Or.inl (bs_lt h1))).2.2
  rw [a1, a2]
/-- one round keeps what the property needs -/
theorem WI.round (hI : WI (t 1) R T) (h : HH s t C R n T) (h' : HH s' t' C R n' (T + 1)) (hT : T < 1000) {d2 : st_} (hr9 : r9 < R) (hE : RE d2 d3 (t 1) (t' 1) R T r9) (hA : DA d3 (t' 1) C R n') (q4 : d3 1 4 = nI R) (b3 : d3 1 17 = t' 1 11) (b4 : d3 1 18 = t' 1 12) (hmk : d3 0 9 = nI (T + 1)) (w11 : t' 1 11 = t 1 11) (w12 : t' 1 12 = t 1 12) (hc : ∀ o, o < R → rg_ (cby d2 o) 0 9900) (h5 : d3 5 9 = cby d2 r9) : WI (t' 1) R (T + 1) := by
  have hB := h'.1.rb
  have h1 := hB.1.1
  have h6 := hB.1.2.1
  obtain ⟨i1, i2, i3, i4, i5, i6, i7, i8, i9⟩ := hI
  obtain ⟨x1, x2, x3, x4, x5, x6, x7, x8, x9, ⟨reg, br, c1, c2, c3, c4⟩, x11⟩ := hE
  have old : ∀ i, 548 ≤ i → i < 12548 → (i - 548) % 1200 < T → t' 1 i = t 1 i := fun i a b c => x11 i a b (by omega)
  have k548 : ∀ k, k < T → t' 1 (548 + k) = t 1 (548 + k) := fun k hk => old _ (by omega) (by omega) (by rw [Nat.add_sub_cancel_left, Nat.mod_eq_of_lt (by omega)]; exact hk)
  have kcs : ∀ m k, m ≤ 6 → k < T → cs_ (t' 1) m k = cs_ (t 1) m k := fun m k hm hk => by
    unfold cs_
    rw [old _ (by omega) (by omega) (by omega)]
  have kns : ∀ m k, m ≤ 6 → k ≤ T → nsm (cs_ (t' 1) m) k = nsm (cs_ (t 1) m) k := fun m k hm hk => nsm_congr k (fun j hj => kcs m j hm (by omega))
  have krg : ∀ k, k ≤ T → rgk_ (t' 1) R k = rgk_ (t 1) R k := fun k hk => by
    have eb : bst (fun r => nI (nsm (cs_ (t' 1) r) k)) (R - 1) = bst (fun r => nI (nsm (cs_ (t 1) r) k)) (R - 1) := bst_congr (R - 1) (fun r hr => by rw [kns r k (by omega) hk])
    have hb := bst_le (f := fun r => nI (nsm (cs_ (t 1) r) k)) (R - 1)
    unfold rgk_
    rw [eb, kns 6 k (by omega) hk, kns _ k (by omega) hk]
  have kbd : ∀ k, bnd_ (t' 1) k = bnd_ (t 1) k := fun k => by
    unfold bnd_
    rw [w11, w12]
  have kmx : ∀ k, k ≤ T → mxr_ (t' 1) R k = mxr_ (t 1) R k := fun k => by
    induction k with
    | zero => intro _; rfl
    | succ k ih =>
      intro hk
      unfold mxr_
      rw [ih (by omega), krg (k + 1) hk]
  have kbr : ∀ k, k ≤ T → brc_ (t' 1) R k = brc_ (t 1) R k := fun k => by
    induction k with
    | zero => intro _; rfl
    | succ k ih =>
      intro hk
      unfold brc_
      rw [ih (by omega), krg (k + 1) hk, kbd]
  have ktk : ∀ r k, k ≤ T → tks_ (t' 1) r k = tks_ (t 1) r k := fun r k => by
    induction k with
    | zero => intro _; rfl
    | succ k ih =>
      intro hk
      unfold tks_
      rw [ih (by omega), k548 k (by omega), kcs 6 k (by omega) (by omega)]
  have hreg : reg = rgk_ (t' 1) R (T + 1) := by
    have := hA.rg (t := t') q4 hB.1.2.2.2 h1 h6
    rw [← rg_k h']
    exact Option.some.inj (c1.symm.trans this)
  have hn : ¬ t' 1 11 = -1 := by rw [w11]; exact i9
  have hbr := breach_x (T := T + 1) hA q4 hB.1.2.2.2 h1 h6 b3 b4 hmk (by omega) hn
  rw [rg_k h', kbd] at hbr
  have ebr := Option.some.inj (c2.symm.trans hbr)
  have hcost6 : cs_ (t' 1) 6 T = ix_ (d3 5 9) := by
    unfold cs_
    rw [show 2948 + 1200 * 6 + T = 10148 + T by omega, x5.1]
  obtain ⟨c, _, hc9, ec⟩ := (hc r9 hr9).ex
  have eix : ix_ (d3 5 9) = c := by rw [h5, ec]; exact ix_n (by omega)
  have htb : ∀ r, tks_ (t 1) r T ≤ 9900 * T := fun r => by
    have hP := (h.2.2.1.2.2.1 6 (Or.inr rfl)).2.1
    have : ∀ k, k ≤ T → tks_ (t 1) r k ≤ 9900 * k := fun k => by
      induction k with
      | zero => intro _; exact Nat.le_refl _
      | succ k ih =>
        intro hk
        have a := ih (by omega)
        have b : cs_ (t 1) 6 k ≤ 9900 := (hP k (by omega)).2.2
        unfold tks_
        split <;> omega
    exact this T (Nat.le_refl _)
  refine ⟨fun r hr => ?_, fun r hr => ?_, fun k hk => ?_, fun r o hr ho => ?_, fun r hr => ?_, ?_, ?_, ?_, hn⟩
  · rw [(x4 r hr).1, i1 r hr]
    have e1 : cnt (fun k => t' 1 (548 + k)) (nI r) T = cnt (fun k => t 1 (548 + k)) (nI r) T := cnt_congr T (fun k hk => k548 k hk)
    show _ = nI (cnt (fun k => t' 1 (548 + k)) (nI r) T + (if t' 1 (548 + T) = nI r then 1 else 0))
    rw [e1, x3]
    by_cases hc : r = r9
    · rw [if_pos hc, if_pos (by rw [hc]), nI_1]
    · rw [if_neg hc, if_neg (fun z => hc ((nI_eq (by omega) (by omega)).mp z).symm), Int32.add_zero, Nat.add_zero]
  · rw [(x4 r hr).2, i2 r hr]
    show _ = nI (tks_ (t' 1) r T + (if t' 1 (548 + T) = nI r then cs_ (t' 1) 6 T else 0))
    rw [ktk r T (Nat.le_refl _), x3]
    by_cases hcr : r = r9
    · rw [if_pos hcr, if_pos (by rw [hcr]), hcost6, eix, h5, ec, nI_add]
    · rw [if_neg hcr, if_neg (fun z => hcr ((nI_eq (by omega) (by omega)).mp z).symm), Int32.add_zero, Nat.add_zero]
  · rcases Nat.lt_or_ge k T with hkT | hkT
    · rw [old _ (by omega) (by omega) (by omega)]
      exact i3 k hkT
    · have : k = T := by omega
      subst this
      rw [x9.1]
      have := bst_le (f := fun r => d3 (3 * r + 15) 5) (R - 1)
      exact rg_n (Nat.zero_le _) (by omega) (by omega)
  · obtain ⟨x, ex, hx⟩ := i4 r o hr ho
    obtain ⟨y, _, hy, ey⟩ := (hc o ho).ex
    rw [x2 _ (by omega)]
    split
    · rename_i hin
      have er : r = r9 := by omega
      subst er
      rw [show 12548 + 6 * r + o - (12548 + 6 * r) = o by omega, ex, ey, nI_add]
      exact ⟨_, rfl, by omega⟩
    · exact ⟨x, ex, by omega⟩
  · rw [x2 _ (by omega), (x4 r hr).2, i5 r hr]
    by_cases hcr : r = r9
    · subst hcr
      rw [if_pos (by omega), if_pos rfl, show 12548 + 6 * r + r - (12548 + 6 * r) = r by omega, h5]
    · rw [if_neg (by omega), if_neg hcr, Int32.add_zero]
  · rw [c3, hreg, i6]
    show _ = (if T = 0 then rgk_ (t' 1) R (T + 1) else if mxr_ (t' 1) R T < rgk_ (t' 1) R (T + 1) then rgk_ (t' 1) R (T + 1) else mxr_ (t' 1) R T)
    rw [kmx T (Nat.le_refl _)]
  · show _ = nI (brc_ (t' 1) R T + (if bnd_ (t' 1) (T + 1) < rgk_ (t' 1) R (T + 1) then 1 else 0))
    rw [kbr T (Nat.le_refl _), kbd]
    rcases c4 with ⟨z1, z2, z3⟩ | ⟨z1, z2, z3⟩
    · rw [z1] at ebr
      rw [z2, i7]
      by_cases hcb : bnd_ (t 1) (T + 1) < rgk_ (t' 1) R (T + 1)
      · rw [if_pos hcb] at ebr
        exact absurd ebr (by decide)
      · rw [if_neg hcb, Nat.add_zero]
    · rw [z1] at ebr
      rw [z2, i7]
      by_cases hcb : bnd_ (t 1) (T + 1) < rgk_ (t' 1) R (T + 1)
      · rw [if_pos hcb, nI_1]
      · rw [if_neg hcb] at ebr
        exact absurd ebr (by decide)
  · have hb := brc_le (w := t 1) (R := R) T
    rcases c4 with ⟨z1, z2, z3⟩ | ⟨z1, z2, z3⟩
    · rw [z2, z3]
      exact i8
    · refine Or.inr ⟨?_, ?_⟩
      · rw [z2, i7, nI_1]
        exact fun z => absurd ((nI_eq (b := 0) (by omega) (by omega)).mp z) (by omega)
      · rw [z3]
        rcases i8 with ⟨u1, u2⟩ | ⟨u1, u2⟩
        · rw [if_pos u1]
          exact nI_pos' (by omega)
        · rw [if_neg u1]
          exact u2
end RND
