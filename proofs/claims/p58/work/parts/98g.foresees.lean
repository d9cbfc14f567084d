/-! the law's foresees, behind the snapshot -/
section FORB
variable {s s' t t' t1 tk t2 tk2 t5 tk5 g : st_} {C R n n' T K k c r9 : Nat} {x14 x11 x13 y10 : Int32}
theorem YY.reg0 (h : YY s t C R n T K) : gX7_regret s (0 : Int32) = some (rg0_ (t 1) R) := v_regret h.1 h.2.1.2.2.2.2.2.2.2.2 (k := 0) (by omega)
theorem YY.reg1 (h : YY s t C R n T K) : gX7_regret s (1 : Int32) = some (bnd_ (t 1) T) := v_regret h.1 h.2.1.2.2.2.2.2.2.2.2 (k := 1) (by omega)
theorem YY.arm0 (h : YY s t C R n T K) : gX7_arm s (0 : Int32) (3 : Int32) = some (t 1 (ab_ 0 + 3)) := v_arm h.1 (m := 0) (k := 3) (Or.inl (by have := h.1.1.rb.1.1; omega)) (by omega)
theorem YY.arm6 (h : YY s t C R n T K) {k : Nat} (hk : k ≤ 6) : gX7_arm s (-1 : Int32) (nI k) = some (t 1 (ab_ 6 + k)) := v_arm h.1 (m := 6) (Or.inr rfl) hk
theorem lg_self (x : Int64) : lg_cmp x x = 0 := by
  have h1 : ¬ lg_cmp x x < (0 : Int32) := fun z => absurd (lgc_lt.mp z) (Int64.lt_irrefl)
  have h2 : ¬ (0 : Int32) < lg_cmp x x := fun z => absurd (lgc_gt.mp z) (Int64.lt_irrefl)
  exact Int32.le_antisymm (Int32.not_lt.mp h2) (Int32.not_lt.mp h1)
theorem YY.forB (h : YY s t C R n T K) (hg : SG g t C R n T K) (hT : T ≤ 900) (hk1 : 1 ≤ k) (hk : k ≤ 12) (hc : c < C)
    (m1 : fX8_round t = some t1) (m1k : t1 1 (548 + T) = nI r9)
    (mk : fX8_rounds t (nI k) = some tk)
    (m2 : ∃ y, fX8_setMaster t (nI 2) (nI (R - 1)) = some (t2, y)) (m2k : fX8_rounds t2 (nI k) = some tk2)
    (m5 : ∃ y, fX8_setFoe t (nI 2) = some (t5, y)) (m5k : fX8_rounds t5 (nI k) = some tk5)
    (h10 : y10 = 1 ↔ bnd_ (t1 1) (T + 1) < rg0_ (t1 1) R)
    (h14 : x14 = -2000000000 ∨ x14 = tk 1 (ab_ 6 + 3) - rv2_ (tk 1))
    (h13 : (¬ n < 20 ∧ x13 < 0) ∨ (n < 20 ∧ ¬ x13 < 0 ∧ ∃ s0, HH s0 t C R n T ∧ r9 < R ∧ fX1_comingRule (sb_ s0 9) = some (nI r9) ∧ x11 = hurt_f (sb_ s0 9) n R r9 c)) :
    ∃ s', fL_foresees s g (nI R) (nI k) (nI c) (whl_ (t 1) R T) (rg0_ (tk 1) R) (tk 1 (ab_ 0 + 3) - t 1 (ab_ 0 + 3)) (rg0_ (tk2 1) R) (rg0_ (tk5 1) R) y10 (nI r9) x11 x13 x14 = some (s', 1) ∧ YY s' t C R n T K := by
  have hB := h.1.1.rb
  have hR1 := hB.1.1
  have h6 := hB.1.2.1
  have hI := h.2.1
  suffices hw : wp_ (fL_foresees s g (nI R) (nI k) (nI c) (whl_ (t 1) R T) (rg0_ (tk 1) R) (tk 1 (ab_ 0 + 3) - t 1 (ab_ 0 + 3)) (rg0_ (tk2 1) R) (rg0_ (tk5 1) R) y10 (nI r9) x11 x13 x14) (fun y => y.2 = 1 ∧ YY y.1 t C R n T K) by
    obtain ⟨⟨s', y⟩, e1, e2, e3⟩ := hw
    dsimp only at e2
    subst e2
    exact ⟨s', e1, e3⟩
  -- the first run
  obtain ⟨s1, t1', n1, K1, f1, f2, -, y1, -⟩ := h.run (k := 1) (by omega) (by omega) (by omega)
  cases f2.symm.trans (rounds_1 m1)
  have ek : nI (T + 1) - (1 : Int32) = nI T := by rw [show nI (T + 1) - (1 : Int32) = nI (T + 1 - 1) from pk_sub (b := 1) (by omega), Nat.add_sub_cancel]
  -- the end
  have f392 : ∀ z : st_, YY z t C R n T K → wp_ (fL_foresees_j392 (nI R) (whl_ (t 1) R T) z) (fun y => y.2 = 1 ∧ YY y.1 t C R n T K) := fun z hz => by
    unfold fL_foresees_j392
    exact wp_bne (hz.1.whole hz.2.1.2.2.2.2.2.2.2.2) (wp_it (lg_self _) (wp_s ⟨rfl, hz⟩))
  -- with other settings
  have f282 : ∀ r31 : st_ × Int32, wp_ (fL_foresees_j282 g (nI R) (nI k) (nI c) (whl_ (t 1) R T) (rg0_ (tk2 1) R) (rg0_ (tk5 1) R) x11 x13 r31) (fun y => y.2 = 1 ∧ YY y.1 t C R n T K) := fun r31 => by
    unfold fL_foresees_j282
    obtain ⟨b1, c1, z1⟩ := hg.back hI r31.1
    obtain ⟨t2', yy2, e2, g2, z2⟩ := z1.setMasterB (v := 2) (r := R - 1) (by omega) (by omega)
    obtain ⟨yy2', m2'⟩ := m2
    have et2 : t2' = t2 := by
      have := Option.some.inj (e2.symm.trans m2')
      exact congrArg Prod.fst this
    subst et2
    obtain ⟨s3, tk2', n3, K3, g3, e3, -, z3, -⟩ := z2.run (k := k) hk1 (by omega) (by omega)
    cases e3.symm.trans m2k
    obtain ⟨b4, c4, z4⟩ := hg.back hI s3
    obtain ⟨t5', yy5, e5, g5, z5⟩ := z4.setFoeB (v := 2) (by omega)
    obtain ⟨yy5', m5'⟩ := m5
    have et5 : t5' = t5 := by
      have := Option.some.inj (e5.symm.trans m5')
      exact congrArg Prod.fst this
    subst et5
    obtain ⟨s6, tk5', n6, K6, g6, e6, -, z6, -⟩ := z5.run (k := k) hk1 (by omega) (by omega)
    cases e6.symm.trans m5k
    obtain ⟨b7, c7, z7⟩ := hg.back hI s6
    rw [show nI R - (1 : Int32) = nI (R - 1) from pk_sub (b := 1) (by omega)]
    refine wp_bne c1 (wp_bd (wp_bne (show gX7_setMaster _ (2 : Int32) (nI (R - 1)) = _ from g2) (wp_bne g3 (wp_bne z3.reg0 (wp_it rfl (wp_bne c4 (wp_bd (wp_bne (show gX7_setFoe _ (2 : Int32) = _ from g5) (wp_bne g6 (wp_bne z6.reg0 (wp_it rfl (wp_bne c7 (wp_bd ?_)))))))))))))
    rcases h13 with ⟨h20, hx⟩ | ⟨h20, hx, s0, hs0, hr9, hcr, ex⟩
    · exact wp_it hx (f392 _ z7)
    · have hcr7 : fX1_comingRule (sb_ (mg_ s6 8 75 b7) 9) = some (nI r9) := by
        obtain ⟨ra, hra, ca, cb⟩ := comingRule_p hs0.1.rb
        obtain ⟨rb, hrb, cc, cd⟩ := comingRule_p z7.1.1.rb
        have er1 : nI ra = nI r9 := Option.some.inj (ca.symm.trans hcr)
        have er3 : nI ra = nI rb := Option.some.inj (cb.symm.trans cd)
        rw [cc, ← er3, er1]
      obtain ⟨x8, s9, x9, s10, t10, n10, K10, p1, p2, p3, z10, p4⟩ := z7.hurt h20 hc (by omega) hr9 hcr7
      obtain ⟨b11, c11, z11⟩ := hg.back hI s10
      refine wp_if' hx (wp_bne p1 (wp_bne p2 (wp_bne p3 (wp_bne z10.reg0 (wp_it ?_ (wp_bne c11 (wp_bd (f392 _ z11))))))))
      rw [p4, ex]
      exact hurt_dd hs0.1 z7.1.1 hr9
  -- the run of k rounds
  have f207 : ∀ z : Int32, wp_ (fL_foresees_j207 g (nI R) (nI k) (nI c) (whl_ (t 1) R T) (rg0_ (tk 1) R) (tk 1 (ab_ 0 + 3) - t 1 (ab_ 0 + 3)) (rg0_ (tk2 1) R) (rg0_ (tk5 1) R) x11 x13 x14 (s1, nI (T + 1)) z z) (fun y => y.2 = 1 ∧ YY y.1 t C R n T K) := fun z => by
    unfold fL_foresees_j207
    obtain ⟨b1, c1, z1⟩ := hg.back hI s1
    obtain ⟨s3, tk', n3, K3, g3, e3, -, z3, -⟩ := z1.run (k := k) hk1 (by omega) (by omega)
    cases e3.symm.trans mk
    refine wp_it rfl (wp_bne c1 (wp_bd (wp_bne z1.arm0 (wp_bne g3 (wp_bne z3.reg0 (wp_it rfl (wp_bne z3.arm0 (wp_it rfl ?_))))))))
    rcases h14 with e | e
    · exact wp_it e (f282 _)
    · refine wp_if (fun _ => f282 _) (fun _ => wp_bne (z3.arm6 (k := 3) (by omega)) (wp_bne (v_rival2 z3.1) (wp_it e (f282 _))))
  have f189 : ∀ z : Int32, z = (if bnd_ (t1 1) (T + 1) < rg0_ (t1 1) R then 1 else 0) → wp_ (fL_foresees_j189 g (nI R) (nI k) (nI c) (whl_ (t 1) R T) (rg0_ (tk 1) R) (tk 1 (ab_ 0 + 3) - t 1 (ab_ 0 + 3)) (rg0_ (tk2 1) R) (rg0_ (tk5 1) R) x11 x13 x14 (s1, nI (T + 1)) z) (fun y => y.2 = 1 ∧ YY y.1 t C R n T K) := fun z hz => by
    unfold fL_foresees_j189
    refine wp_bne y1.reg0 (wp_bne y1.reg1 (wp_if (fun hc => ?_) (fun hc => ?_)))
    · rw [hz, if_neg (Int32.not_lt.mpr hc)]
      exact f207 0
    · rw [hz, if_pos (Int32.not_le.mp hc)]
      exact f207 1
  unfold fL_foresees
  refine wp_bne (show gX7_run s (1 : Int32) = _ from f1) (wp_bne (v_rounds y1.1) ?_)
  rw [ek]
  refine wp_bne (v_taken y1.1 (k := T) (by omega)) (wp_it m1k (wp_if (fun hc => f189 1 ?_) (fun hc => f189 0 ?_)))
  · rw [if_pos (h10.mp hc)]
  · rw [if_neg (fun z => hc (h10.mpr z))]
end FORB
