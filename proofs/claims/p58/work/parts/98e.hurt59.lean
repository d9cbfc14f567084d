/-! the hurt foretold is the regret that comes, in the law's calls -/
section HURT59
variable {s s' t t' d d' : st_} {C R n n' T K k c m r r0 : Nat}
theorem YY.hurt (h : YY s t C R n T K) (hn : n < 20) (hc : c < C) (hT : T < 1000) (hr0 : r0 < R) (er : fX1_comingRule (sb_ s 9) = some (nI r0)) : ∃ x1 s2 x2 s3 t3 n3 K3, gX7_setFoe s (0 : Int32) = some (pt_ s 10 11 (nI 0), x1) ∧ gX7_request (pt_ s 10 11 (nI 0)) (nI c) = some (s2, x2) ∧ gX7_run s2 (1 : Int32) = some (s3, nI (T + 1)) ∧ YY s3 t3 C R n3 (T + 1) K3 ∧ rg0_ (t3 1) R = hurt_f (sb_ s 9) n R r0 c := by
  have hB := h.1.1.rb
  have h1 := hB.1.1
  have h6 := hB.1.2.1
  have hC2 := h.1.1.1.1.1
  have hC := h.1.1.1.1.2.1
  obtain ⟨t1, f1, y1⟩ := h.setFoe (v := 0) (by omega)
  obtain ⟨d', t2, n2, x2, f2, f3, y2⟩ := y1.request hc hn
  have hA1 := y1.1.1.2.2
  have hrv1 := y1.1.1.rv
  obtain ⟨z, ez, z1, z2, z3, -⟩ := addForAll_w (q := nI c) (d := sb_ (pt_ s 10 11 (nI 0)) 9) (n := n) y1.1.1.rb.1.2.2.1 h6 y1.1.n5 (fun r hr => (y1.2.2.2 r hr).1) (fun z => by
    have z' : ¬ t1 1 21 = -1 := fun y => z (hrv1.trans y)
    exact (hA1.2.2.2 z').1.2.2.1.trans (hA1.2.2.2 z').2.2.2.2.1) hn
  cases f2.symm.trans ez
  generalize hs1 : pt_ s 10 11 (nI 0) = s1 at *
  have q1 : ∀ o, o ≠ 1 → sb_ s1 9 o = sb_ s 9 o := fun o ho => by rw [sb_ap, sb_ap, ← hs1]; exact pt_o (by omega)
  have q1j : ∀ j, j ≠ 11 → sb_ s1 9 1 j = sb_ s 9 1 j := fun j hj => by rw [← hs1]; exact pt_r hj
  have q1f : sb_ s1 9 1 11 = 0 := by rw [← hs1]; exact pt_a
  have sbA : ∀ o, 1 < o → sb_ (sb_ s1 9) o = sb_ (sb_ s 9) o := fun o ho => funext fun x => q1 (o + x) (by omega)
  have s2d : ∀ o, o < 33 → sb_ (mg_ s1 9 33 d') 9 o = d' o := fun o ho => put9 ho
  have en : n2 = n + 1 := by
    have e1 : sb_ (mg_ s1 9 33 d') 9 5 2 = nI n2 := y2.1.n5
    rw [s2d 5 (by omega)] at e1
    have e2 := congrFun (z2 0 (by omega)) 2
    have e3 : sb_ d' 5 0 2 = d' 5 2 := rfl
    have e4 : rcv n (nI c) (sb_ s1 9 0 9) (sb_ (sb_ s1 9) 5) 0 2 = nI (n + 1) := pt_a
    have h20 := y2.1.n20
    exact (nI_eq (by omega) (by omega)).mp (e1.symm.trans (e3.symm.trans (e2.trans e4)))
  subst en
  obtain ⟨t3, r9, d, a5, m2, hr9, hcr, hdo, hDd, g1, g2, g3⟩ := round_h y2.1 (by
    have : mg_ s1 9 33 d' 10 = d' 1 := s2d 1 (by omega)
    rw [this, z1 1 (by omega)]
    exact q1f) hT
  -- the rule that comes is the same
  have hRB2 : RB (sb_ (mg_ s1 9 33 d') 9) (t 1) R := by
    obtain ⟨⟨a1, a2, a3, a4⟩, ⟨b1, b2, b3⟩, ⟨c1, c2⟩, c3, c4⟩ := hB
    have e0 : sb_ (mg_ s1 9 33 d') 9 0 = sb_ s 9 0 := by rw [s2d 0 (by omega), z1 0 (by omega), q1 0 (by omega)]
    have e1 : ∀ j, j ≠ 11 → sb_ (mg_ s1 9 33 d') 9 1 j = sb_ s 9 1 j := fun j hj => by rw [s2d 1 (by omega), z1 1 (by omega), q1j j hj]
    have e12 : sb_ (mg_ s1 9 33 d') 9 12 = sb_ s 9 12 := by rw [s2d 12 (by omega), z1 12 (by omega), q1 12 (by omega)]
    refine ⟨⟨a1, a2, by rw [e1 4 (by omega)]; exact a3, a4⟩, ⟨by rw [e1 7 (by omega)]; exact b1, b2, fun z => by rw [e1 8 (by omega)]; exact b3 z⟩, ⟨by rw [e0]; exact c1, c2⟩, fun r hr => by rw [e12]; exact c3 r hr, fun r hr => ?_⟩
    rw [s2d _ (by omega)]
    have e2 := congrFun (z3 r hr 0 (by omega)) 5
    have e3 : sb_ d' (3 * r + 15) 0 5 = d' (3 * r + 15) 5 := rfl
    have e4 : rcv n (nI c) (sb_ s1 9 0 9) (sb_ (sb_ s1 9) (3 * r + 15)) 0 5 = sb_ (sb_ s1 9) (3 * r + 15) 0 5 := by
      unfold rcv
      rw [pt_r (by decide), pt_oo (by decide), pt_oo (by decide)]
    have e5 : sb_ (sb_ s1 9) (3 * r + 15) 0 5 = sb_ s 9 (3 * r + 15) 5 := by
      rw [sbA _ (by omega)]
      rfl
    rw [← e3, e2, e4, e5]
    exact c4 r hr
  obtain ⟨ra, hra, ca, cb⟩ := comingRule_p hB
  obtain ⟨rb, hrb, cc, cd⟩ := comingRule_p hRB2
  have er1 : nI ra = nI r0 := Option.some.inj (ca.symm.trans er)
  have er2 : nI rb = nI r9 := Option.some.inj (cc.symm.trans hcr)
  have er3 : nI ra = nI rb := Option.some.inj (cb.symm.trans cd)
  have err : r9 = r0 := (nI_eq (by omega) (by omega)).mp (er2.symm.trans (er3.symm.trans er1))
  subst err
  obtain ⟨s3, t3', n3, K3, f4, f5, -, y3, -⟩ := y2.run (k := 1) (by omega) (by omega) (by omega)
  cases f5.symm.trans (rounds_1 m2)
  refine ⟨_, _, _, s3, t3, n3, K3, f1, f3, f4, y3, ?_⟩
  -- cells
  have dd : ∀ o, o < 33 → o ≠ 0 → d o = d' o := fun o ho h0 => by rw [hdo o ho h0, s2d o ho]
  have d1 : ∀ j, j ≠ 11 → d 1 j = sb_ s 9 1 j := fun j hj => by rw [dd 1 (by omega) (by omega), z1 1 (by omega), q1j j hj]
  have d2 : d 2 = sb_ s 9 2 := by rw [dd 2 (by omega) (by omega), z1 2 (by omega), q1 2 (by omega)]
  have d3 : d 3 = sb_ s 9 3 := by rw [dd 3 (by omega) (by omega), z1 3 (by omega), q1 3 (by omega)]
  obtain ⟨u1, u2, u3, u4, u5, u6, u7, u8, u9, u10, u11, u12, u13⟩ := hDd.1.1
  have kd : ∀ {S : st_}, RS S (t2 1) C R → S 0 4 = nI R ∧ S 0 2 = sb_ (sb_ s 9) 1 0 2 ∧ S 0 3 = sb_ (sb_ s 9) 1 0 3 ∧ ∀ r, r < R → S 1 r = nI (ix_ (sb_ s 9 2 r)) ∧ ix_ (sb_ s 9 2 r) ≤ 4 ∧ S 2 r = sb_ s 9 3 r := fun {S} hS => by
    obtain ⟨v1, v2, v3, v4, v5, v6, v7, v8, v9, v10, v11, v12, v13⟩ := hS
    refine ⟨v7, ?_, ?_, fun r hr => ?_⟩
    · rw [v9, ← u9]
      exact d1 2 (by omega)
    · rw [v10, ← u10]
      exact d1 3 (by omega)
    · obtain ⟨w1, w2, w3⟩ := v13 r hr
      obtain ⟨x1, x2, x3⟩ := u13 r hr
      have x1 : d 2 r = t2 1 (26 + 5 * r) := x1
      have x2 : d 3 r = t2 1 (26 + 5 * r + 1) := x2
      rw [d2] at x1
      rw [d3] at x2
      rw [w1, w2, ← x1, ← x2]
      rw [← x1] at w3
      exact ⟨w3.1, w3.2.2, rfl⟩
  have arm : ∀ o m, (o = 5 ∨ ∃ r, r < R ∧ o = 3 * r + 15) → AR (sb_ d o) (t2 1) m (n + 1) → AI (t2 1) m (n + 1) C → (∀ x, x < 3 → sb_ d o x = rcv n (nI c) (sb_ s1 9 0 9) (sb_ (sb_ s 9) o) x) → AC (sb_ d o) (ix_ (sb_ s 9 o 0)) (n + 1) := fun o m ho hAR hAI hx => by
    have hAC := hAR.ac hAI hC hC2
    have e1 : sb_ d o 0 0 = t2 1 (ab_ m) := hAR.1
    have e2 := congrFun (hx 0 (by omega)) 0
    have e4 : rcv n (nI c) (sb_ s1 9 0 9) (sb_ (sb_ s 9) o) 0 0 = sb_ s 9 o 0 := by
      unfold rcv
      rw [pt_r (by decide), pt_oo (by decide), pt_oo (by decide)]
      rfl
    rw [← e4, ← e2, e1]
    exact hAC
  have hx5 : ∀ x, x < 3 → sb_ d 5 x = rcv n (nI c) (sb_ s1 9 0 9) (sb_ (sb_ s 9) 5) x := fun x hx => by
    rw [sb_ap, dd _ (by omega) (by omega), ← sbA 5 (by omega)]
    exact z2 x hx
  have hxr : ∀ r, r < R → ∀ x, x < 3 → sb_ d (3 * r + 15) x = rcv n (nI c) (sb_ s1 9 0 9) (sb_ (sb_ s 9) (3 * r + 15)) x := fun r hr x hx => by
    rw [sb_ap, dd _ (by omega) (by omega), ← sbA _ (by omega)]
    exact z3 r hr x hx
  obtain ⟨k1, k2, k3, k4⟩ := kd (S := sb_ d 1) hDd.1.1
  obtain ⟨l1, l2, l3⟩ := k4 r9 hr9
  have e6 : t3 1 (ab_ 6 + 3) = its_f (sb_ s 9) n r9 c := by
    rw [g2]
    exact serve_rcv (arm 5 6 (Or.inl rfl) hDd.2.2.1 hDd.2.2.2.1 hx5) g1 k1 hr9 h6 l1 l2 l3 hx5 (by omega) k2 k3
  have eo : ∀ r, r < R → t3 1 (ab_ r + 3) = own_f (sb_ s 9) n r c := fun r hr => by
    obtain ⟨S, a0, w1, w2, w3⟩ := g3 r hr
    obtain ⟨j1, j2, j3, j4⟩ := kd w1
    obtain ⟨i1, i2, i3⟩ := j4 r hr
    rw [w3]
    exact serve_rcv (arm _ r (Or.inr ⟨r, hr, rfl⟩) (hDd.2.2.2.2.1 r hr).1 (hDd.2.2.2.2.1 r hr).2 (hxr r hr)) w2 j1 hr h6 i1 i2 i3 (hxr r hr) (by omega) j2 j3
  unfold rg0_ hurt_f
  have hb := bs_lt (w := t3 1) h1
  rw [e6, eo _ hb, mnr_bst]
  have eb : bst (fun x => own_f (sb_ s 9) n x c) (R - 1) = bs_ (t3 1) R := bst_congr (R - 1) (fun r hr => (eo r (by omega)).symm)
  rw [eb]
end HURT59
