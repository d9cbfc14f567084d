/-! the reference foresees -/
/-- what the rules' choice rests on -/
def RB (d : st_) (w : Nat → Int32) (R : Nat) : Prop := (1 ≤ R ∧ R ≤ 6 ∧ d 1 4 = nI R ∧ w 4 = nI R) ∧ (d 1 7 = w 5 ∧ rg_ (w 5) 0 2 ∧ (w 5 = 2 → d 1 8 = w 6 ∧ rg_ (w 6) 0 (R - 1))) ∧ (d 0 7 = w 8 ∧ rg_ (w 8) 0 32767) ∧ (∀ r, r < R → d 12 r = w (26 + 5 * r + 2) ∧ rg_ (w (26 + 5 * r + 2)) 1 1000000) ∧ ∀ r, r < R → d (3 * r + 15) 5 = w (ab_ r + 3)
/-- the same but for the places behind those that wait -/
def EQn (w w' : Nat → Int32) (n : Nat) : Prop := ∀ i, (i < 72 ∨ 448 ≤ i ∨ ((i - 72) % 47 ≠ 7 + 2 * n ∧ (i - 72) % 47 ≠ 7 + 2 * n + 1)) → w' i = w i
section MHURT
variable {d t t1 a S : st_} {w w' w'' : Nat → Int32} {m C R n r q : Nat}
theorem EQn.tr (h : EQn w w' n) (h2 : EQn w' w'' n) : EQn w w'' n := fun i hi => (h2 i hi).trans (h i hi)
theorem RB.of (h : RB d w R) (he : ∀ i, (i = 4 ∨ i = 5 ∨ i = 6 ∨ i = 8 ∨ (26 ≤ i ∧ i < 56) ∨ (72 ≤ i ∧ (i - 72) % 47 = 3)) → w' i = w i) : RB d w' R := by
  obtain ⟨⟨h1, h6, hd, hw⟩, ⟨k1, k2, k3⟩, ⟨s1, s2⟩, hwt, hp⟩ := h
  refine ⟨⟨h1, h6, hd, by rw [he 4 (by omega)]; exact hw⟩, ⟨by rw [he 5 (by omega)]; exact k1, by rw [he 5 (by omega)]; exact k2, fun h => ?_⟩, ⟨by rw [he 8 (by omega)]; exact s1, by rw [he 8 (by omega)]; exact s2⟩, fun r hr => ?_, fun r hr => ?_⟩
  · rw [he 5 (by omega)] at h
    rw [he 6 (by omega)]
    exact k3 h
  · rw [he _ (by omega)]
    exact hwt r hr
  · rw [he _ (by unfold ab_; omega)]
    exact hp r hr
theorem comingRule_p (h : RB d (t 1) R) : ∃ r, r < R ∧ fX1_comingRule d = some (nI r) ∧ fX8_ruleNext t = some (nI r) := by
  obtain ⟨⟨h1, h6, hd, hw⟩, ⟨k1, k2, k3⟩, ⟨s1, s2⟩, hwt, hp⟩ := h
  obtain ⟨x, _, hx, hxe⟩ := s2.ex
  obtain ⟨r, hr, e1, e2⟩ := ruleBy_p (kind := t 1 5) (kc := d 1 8) (km := t 1 6) (s := nI ((1103 * x + 12345) % 32768)) hd hw h1 h6 hwt hp k2 k3 (rg_n (Nat.zero_le _) (by omega) (by omega))
  refine ⟨r, hr, ?_, ?_⟩
  · unfold fX1_comingRule
    rw [s1, hxe, bn_e (seedBehind_e hx), k1, bn_e e1]
  · unfold fX8_ruleNext
    rw [gd_t b5_, gd_t b6_, gd_t b8_, i8_, i5_, i6_, hxe, bn_e (drawn_e hx), bn_e e2]
theorem wc_fc (hA : AR a w m n) (hI : AI w m n C) (hB : CB w (t1 1) m n (nI q)) (hS : RS S w C R) (hs : ∀ i, sI_ i → t1 1 i = w i) (hq : q < C) (h20 : n < 20) (hr : r < R) : ∃ tu, fX8_wouldCost t1 (nI m) (nI r) = some (pt_ t1 0 15 tu, fcx a S (ix_ (S 1 r)) (S 2 r) (ix_ (a 0 0)) n q) := by
  have hI1 := (recv_p (mk := w 16) hA hI hB h20 (rg_n (Nat.zero_le _) (by omega) (by have := hS.2.1; omega)) rfl).2
  obtain ⟨hC2, hC, hS0, hw0, hR1, hR6, hS4, hw4, hS2, hS3, hw2, hw3, hk⟩ := hS
  obtain ⟨hkd, hwd, hkr⟩ := hk r hr
  obtain ⟨kind, _, hk4, hke⟩ := hkr.ex
  have hm := hI.1
  obtain ⟨b1, b2, b3, b4⟩ := hB
  have f2 : t1 1 2 = w 2 := hs 2 (by unfold sI_; omega)
  have f3 : t1 1 3 = w 3 := hs 3 (by unfold sI_; omega)
  have fk : t1 1 (26 + 5 * r) = w (26 + 5 * r) := hs _ (by unfold sI_; omega)
  have fw : t1 1 (26 + 5 * r + 1) = w (26 + 5 * r + 1) := hs _ (by unfold sI_; omega)
  have fu : t1 1 (ab_ m + 1) = w (ab_ m + 1) := b4 _ (by omega) (by omega) (by omega) (by omega) (by omega)
  have fc : t1 1 (ab_ m) = w (ab_ m) := b4 _ (by omega) (by omega) (by omega) (by omega) (by omega)
  have fq : ∀ j, j < n → t1 1 (ab_ m + 7 + 2 * j) = w (ab_ m + 7 + 2 * j) := fun j hj => b4 _ (by omega) (by omega) (by omega) (by omega) (by omega)
  obtain ⟨z, ez, ⟨tu, e1⟩, hz⟩ := wouldCost_w (t := t1) (r := r) (kind := kind) (wd := t1 1 (26 + 5 * r + 1)) (u := t1 1 (ab_ m + 1)) (hI1.aw hC hC2) (by omega) (by rw [fk]; exact hke) hk4 rfl rfl hI1.2.2.1
  obtain ⟨a0, a1, a2, a3, a4, a5, a6, aj⟩ := id hA
  refine ⟨tu, ?_⟩
  rw [ez]
  congr 1
  refine Prod.ext e1 ?_
  rcases hz with ⟨h0, _⟩ | ⟨k', hf, hx⟩
  · omega
  have ek : ix_ (S 1 r) = kind := by rw [hkd, hke]; exact ix_n (by omega)
  have ec : ix_ (a 0 0) = ix_ (w (ab_ m)) := by rw [a0]
  have eqn : ix_ (nI q) = q := ix_n (by omega)
  dsimp only
  rw [hx, ek, ec, f2, f3, fc]
  -- the ranks, told of the class's arm
  have hκ : ∀ j, j < n → rk_ kind (t1 1 (26 + 5 * r + 1)) (t1 1 (ab_ m + 1)) (ix_ (t1 1 (ab_ m))) (ix_ (t1 1 (ab_ m + 7 + 2 * j))) = ka_ a kind (S 2 r) (ix_ (w (ab_ m))) j := fun j hj => by
    unfold ka_
    rw [fw, fu, fc, fq j hj, hwd, a1, (aj j hj).1]
  have hκn : rk_ kind (t1 1 (26 + 5 * r + 1)) (t1 1 (ab_ m + 1)) (ix_ (t1 1 (ab_ m))) (ix_ (t1 1 (ab_ m + 7 + 2 * n))) = rk_ kind (S 2 r) (a 0 1) (ix_ (w (ab_ m))) q := by
    rw [fw, fu, fc, b2, hwd, a1, eqn]
  unfold fcx
  rw [← hS2, ← hS3]
  by_cases h0 : n = 0
  · subst h0
    have e0 : k' = 0 := by have := hf.1; omega
    subst e0
    rw [if_pos rfl, b2, eqn]
  · rw [if_neg h0]
    have hk0 := am_fm (κ := ka_ a kind (S 2 r) (ix_ (w (ab_ m)))) n (by omega)
    generalize am_ (ka_ a kind (S 2 r) (ix_ (w (ab_ m)))) n = k0 at hk0
    have hk1 : fm_ (fun j => rk_ kind (t1 1 (26 + 5 * r + 1)) (t1 1 (ab_ m + 1)) (ix_ (t1 1 (ab_ m))) (ix_ (t1 1 (ab_ m + 7 + 2 * j)))) n k0 := fm_e2 hk0 hκ
    have hkk := hκ k0 hk0.1
    by_cases hlt : rk_ kind (S 2 r) (a 0 1) (ix_ (w (ab_ m))) q < ka_ a kind (S 2 r) (ix_ (w (ab_ m))) k0
    · rw [if_pos hlt]
      have hk2 := fm_take hk1 (by rw [hκn, hkk]; exact hlt)
      have e := fm_u hf hk2
      subst e
      rw [b2, eqn]
    · rw [if_neg hlt]
      have hk2 := fm_keep hk1 (by rw [hκn, hkk]; omega)
      have e := fm_u hf hk2
      subst e
      rw [fq k' hk0.1, (aj k' hk0.1).1]
/-- the regret behind this round, with one request more -/
theorem regretThen_w (hD : DA d w C R n) (hS : RS (sb_ d 1) w C R) (hB : RB d w R) (hrv : d 1 14 = w 21) (h20 : n < 20) (hq : q < C) (hw1 : t1 1 = cw_ w R n (nI q) 8) : ∃ r0 z, r0 < R ∧ fX1_comingRule d = some (nI r0) ∧ fX8_regretThen t1 = some z ∧ mo_ t1 z.1 ∧ z.1 1 = t1 1 ∧ z.2 = hurt_f d n R r0 q := by
  have hR6 := hB.1.2.1
  have hs : ∀ t2 : st_, t2 1 = t1 1 → ∀ i, sI_ i → t2 1 i = w i := fun t2 h2 i hi => by
    rw [h2, hw1, cw_out (by unfold sI_ at hi; omega)]
  have hB1 : RB d (t1 1) R := hB.of (fun i hi => by
    rw [hw1]
    unfold cw_
    by_cases hc : 72 ≤ i ∧ i < 448 ∧ (i - 72) / 47 < 8 ∧ th_ w R ((i - 72) / 47) = true
    · rw [if_pos hc, if_neg (by omega), if_neg (by omega), if_neg (by omega)]
    · rw [if_neg hc])
  obtain ⟨r0, hr0, ec, er⟩ := comingRule_p hB1
  have eR : ∀ r, r < R → th_ w R r = true := fun r hr => by unfold th_; simp [hr]
  have e6 : th_ w R 6 = true := by unfold th_; simp
  have cb : ∀ t2 : st_, t2 1 = t1 1 → ∀ m, m < 8 → th_ w R m = true → CB w (t2 1) m n (nI q) := fun t2 h2 m hm hth => by
    rw [h2, hw1]
    exact cw_cb hm hth h20
  suffices h : wp_ (fX8_regretThen t1) (fun z => mo_ t1 z.1 ∧ z.1 1 = t1 1 ∧ z.2 = hurt_f d n R r0 q) by
    obtain ⟨z, ez, h1, h2, h3⟩ := h
    exact ⟨r0, z, hr0, ec, ez, h1, h2, h3⟩
  have hp6 : t1 1 (ab_ 6 + 3) = d 5 5 := by
    have h := (cb t1 rfl 6 (by omega) e6).2.2.2 (ab_ 6 + 3) (by omega) (by omega) (by omega) (by omega) (by omega)
    rw [h, ← hD.1.2.2.2.1]
    rfl
  unfold fX8_regretThen
  refine wp_bne (armOf_3 (m := 6) (by omega)) (wp_bne er ?_)
  obtain ⟨tu, ew⟩ := wc_fc hD.1 hD.2.1 (cb t1 rfl 6 (by omega) e6) hS (hs t1 rfl) hq h20 hr0
  refine wp_bne (show fX8_wouldCost t1 (6 : Int32) (nI r0) = _ from ew) ?_
  rw [hp6]
  dsimp only
  unfold fX8_regretThen_l25
  refine wp_bn (Q := fun x => x.1 = mnr (fun x => own_f d n x q) (R - 1) ∧ mo_ t1 x.2 ∧ x.2 1 = t1 1) ?_ (fun x hx => ?_)
  · refine wp_up (fun k v => v.2.1 = nI k ∧ (k = 0 → v.1 = 2147483647) ∧ (0 < k → v.1 = mnr (fun x => own_f d n x q) (k - 1)) ∧ mo_ t1 v.2.2 ∧ v.2.2 1 = t1 1) 0 R (Nat.zero_le _) (by omega) ⟨rfl, fun _ => rfl, fun h => absurd h (Nat.lt_irrefl _), mo_p15, (pt_o (by decide) : pt_ t1 0 15 tu 1 = t1 1)⟩ (fun k v hk _ hv => ?_) (fun v hv => ?_)
    · obtain ⟨v2, v3, s⟩ := v
      obtain ⟨e, h0, h1, hmo, hw⟩ := hv
      dsimp only at e h0 h1 hmo hw
      subst e
      have hth := eR k hk
      have hpk : s 1 (ab_ k + 3) = d (3 * k + 15) 5 := by
        have h := (cb s hw k (by omega) hth).2.2.2 (ab_ k + 3) (by omega) (by omega) (by omega) (by omega) (by omega)
        rw [h, ← (hD.2.2.1 k hk).1.2.2.2.1]
        rfl
      obtain ⟨tu, ew⟩ := wc_fc (hD.2.2.1 k hk).1 (hD.2.2.1 k hk).2 (cb s hw k (by omega) hth) hS (hs s hw) hq h20 hk
      have e4 : s 1 4 = nI R := by rw [hw]; exact hB1.1.2.2.2
      unfold fX8_regretThen_b25
      simp only [i4_]
      refine wp_gd b4_ (wp_if' (by rw [e4]; exact nI_ge hk (by omega)) (wp_bne (armOf_3 (by omega)) (wp_bne ew (wp_l ⟨nI_1 k, fun h => absurd h (by omega), fun _ => ?_, hmo.tr mo_p15, ?_⟩))))
      · dsimp only
        rw [hpk]
        have eo : d (3 * k + 15) 5 + fcx (sb_ d (3 * k + 15)) (sb_ d 1) (ix_ (sb_ d 1 1 k)) (sb_ d 1 2 k) (ix_ (sb_ d (3 * k + 15) 0 0)) n q = own_f d n k q := rfl
        rw [eo, Nat.add_sub_cancel]
        by_cases hk0 : k = 0
        · subst hk0
          rw [h0 rfl]
          show (if own_f d n 0 q < 2147483647 then own_f d n 0 q else 2147483647) = own_f d n 0 q
          by_cases hlt : own_f d n 0 q < 2147483647
          · rw [if_pos hlt]
          · rw [if_neg hlt]
            have h3 := Int32.not_lt.mp hlt
            have h4 := Int32.le_iff_toInt_le.mp h3
            have h5 : (2147483647 : Int32).toInt = 2147483647 := by decide
            have h6 := Int32.toInt_lt (own_f d n 0 q)
            apply Int32.toInt_inj.mp
            omega
        · rw [h1 (by omega)]
          obtain ⟨y, rfl⟩ : ∃ y, k = y + 1 := ⟨k - 1, by omega⟩
          rfl
      · dsimp only
        rw [pt_o (by decide), hw]
    · obtain ⟨v2, v3, s⟩ := v
      obtain ⟨e, h0, h1, hmo, hw⟩ := hv
      dsimp only at e h0 h1 hmo hw
      subst e
      have e4 : s 1 4 = nI R := by rw [hw]; exact hB1.1.2.2.2
      unfold fX8_regretThen_b25
      simp only [i4_]
      exact wp_gd b4_ (wp_it (by rw [e4]; exact Int32.le_refl _) (wp_r ⟨h1 (by omega), hmo, hw⟩))
  · obtain ⟨h1, hmo, hw⟩ := hx
    unfold fX8_regretThen_k25 fX8_regretThen_x25_59
    refine wp_s ⟨hmo, hw, ?_⟩
    dsimp only
    rw [h1]
    rfl
end MHURT
