/-! the next breach is predicted -/
theorem first_x (P : Nat → Prop) : ∀ N, (∃ J, J < N ∧ ¬ P J ∧ ∀ i, i < J → P i) ∨ ∀ i, i < N → P i
  | 0 => Or.inr (fun i hi => absurd hi (by omega))
  | N + 1 => by
    rcases first_x P N with ⟨J, h1, h2, h3⟩ | h
    · exact Or.inl ⟨J, by omega, h2, h3⟩
    · by_cases hp : P N
      · refine Or.inr (fun i hi => ?_)
        by_cases e : i = N
        · rw [e]; exact hp
        · exact h i (by omega)
      · exact Or.inl ⟨N, by omega, hp, h⟩
theorem letPass1 {d d3 : st_} (h : stp d = some d3) : fX1_letPass d (1 : Int32) = some d3 := by
  have e : dn d 1 = d3 := by
    show (stp d).getD d = d3
    rw [h]; rfl
  have := letPass_e (d := d) (k := 1) (fun i hi => by
    have e0 : i = 0 := by omega
    subst e0
    rw [e]
    exact h) (by omega)
  rw [e] at this
  exact this
section PREDICT
variable {s t d d' : st_} {w w' : Nat → Int32} {C R n T k H : Nat} {x : Int32}
/-- breaches so far, behind rounds without one -/
theorem nobreach (P : Nat → Prop) {a : Int32} {J : Nat} (h0 : t 1 17 = a) (hP : ∀ i, P i → tn t (i + 1) 1 17 = tn t i 1 17) (hj : ∀ i, i < J → P i) : ∀ i, i ≤ J → tn t i 1 17 = a
  | 0, _ => h0
  | i + 1, hi => (hP i (hj i (by omega))).trans (nobreach P h0 hP hj i (by omega))
theorem breachIn_p (h : PP s t C R n T) : QS s t (fX7_breachIn s) (fX8_breachIn t) := by
  obtain ⟨hD, hU, hT, hT2, hH⟩ := h
  obtain ⟨H, _, hH2, eH⟩ := hH.ex
  have hbase : s 10 17 = t 1 11 := hD.gt.to.2.2.2.2.1.1
  unfold fX7_breachIn fX8_breachIn
  rw [bd_e, gd_t b11_, i11_]
  have q11 : pt_ t 0 6 0 1 11 = t 1 11 := pt_oo (by decide)
  by_cases hb : t 1 11 = -1
  · rw [if_pos (hbase.trans hb), if_pos (q11.trans hb)]
    exact ⟨s, -1, _, rfl, rfl, CI.r, MI.t6⟩
  · rw [if_neg (fun z => hb (hbase.symm.trans z)), if_neg (fun z => hb (q11.symm.trans z))]
    obtain ⟨r7, e7, hr7⟩ := trial_w hD hU
    obtain ⟨t2, e2, et2, e06, -, hmi⟩ := ask_w (t := t)
    rw [bn_e e7, bd_e, bn_e e2, gd_t b17_]
    generalize hs5 : mg_ s 83 33 r7 = s5
    have c5 : ∀ o, o < 83 → s5 o = s o := fun o a => by rw [← hs5, mg_o (by omega)]
    have hD1 : DD (sb_ s5 83) (t2 1) C R n := by rw [et2, ← hs5]; exact hr7 _ (fun o a b => mg_i (by omega) (by omega))
    have hT1 : t2 1 16 = nI T := by rw [et2]; exact hT
    have seq := seq_p hD1 hT1
    have h17 : t2 1 17 = nI H := by rw [et2]; exact eH
    obtain ⟨_, _, hm200, hi200⟩ := seq 200 (by omega)
    have back : ∀ j, j ≤ 200 → ∃ t', fX8_comesBack (tn t2 j) = some t' ∧ MI t t' := fun j hj => by
      obtain ⟨_, _, hm, _⟩ := seq j (by omega)
      obtain ⟨t', eb, b1, b2⟩ := back_w (t := tn t2 j)
      exact ⟨t', eb, (hmi t' (fun o a => by rw [b1 o (by omega), hm.1 o (by omega) (by omega)]) (fun j a => by rw [b1 0 (by decide), hm.2 j a]) (fun j a => by rw [b2 j a, hm.1 2 (by decide) (by decide)])).1⟩
    -- the class's step
    have cstep : ∀ i z, i < 200 → (∀ o, o < 83 → z o = s o) → (∃ n', DD (sb_ z 83) (tn t2 i 1) C R n') → ∃ r br, fX1_letPass (sb_ z 83) (1 : Int32) = some r ∧ fX1_isBreach (sb_ (mg_ z 83 33 r) 83) = some br ∧ ((br = 0 ∧ tn t2 (i + 1) 1 17 = tn t2 i 1 17) ∨ (br = 1 ∧ tn t2 (i + 1) 1 17 = tn t2 i 1 17 + 1)) ∧ (∀ o, o < 83 → mg_ z 83 33 r o = s o) ∧ ∃ n', DD (sb_ (mg_ z 83 33 r) 83) (tn t2 (i + 1) 1) C R n' := by
      rintro i z hi hz ⟨n', hDz⟩
      obtain ⟨_, ⟨h16, _⟩, _, _⟩ := seq i (by omega)
      obtain ⟨d3, t', n2, f1, f2, _, f4, _, _, br, f7, f8⟩ := step_p hDz h16 (by omega)
      obtain ⟨_, g2, _⟩ := hi200 i hi
      have et : t' = tn t2 (i + 1) := Option.some.inj (f2.symm.trans g2)
      rw [et] at f4 f7 f8
      have hx : DD (sb_ (mg_ z 83 33 d3) 83) (tn t2 (i + 1) 1) C R n2 := f4.x33 (fun o ho => by rw [sb_ap, mg_i (by omega) (by omega), Nat.add_sub_cancel_left])
      exact ⟨d3, br, letPass1 f1, f7 _ _ hx, f8, fun o a => by rw [mg_o (by omega)]; exact hz o a, n2, hx⟩
    have mstep : ∀ i, i < 200 → fX8_round (tn t2 i) = some (tn t2 (i + 1)) := fun i hi => (hi200 i hi).2.1
    rcases first_x (fun i => tn t2 (i + 1) 1 17 = tn t2 i 1 17) 200 with ⟨J, hJ, hJ1, hJ2⟩ | hall
    · have hno := nobreach (t := t2) (J := J) (fun i => tn t2 (i + 1) 1 17 = tn t2 i 1 17) h17 (fun i h => h) hJ2
      have hcl : wp_ (fX7_breachIn_l35 FU_ ((1 : Int32), s5)) (fun x => ∃ z, x = .inl (nI (J + 1), z) ∧ ∀ o, o < 83 → z o = s o) := by
        unfold fX7_breachIn_l35
        refine wp_up (fun i v => v.1 = nI (i + 1) ∧ (∀ o, o < 83 → v.2 o = s o) ∧ ∃ n', DD (sb_ v.2 83) (tn t2 i 1) C R n') 0 J (Nat.zero_le _) (by omega) ⟨rfl, c5, n, hD1⟩ (fun i v hi _ hv => ?_) (fun v hv => ?_)
        · obtain ⟨v1, z⟩ := v
          obtain ⟨ev, hz, hDz⟩ := hv
          dsimp only at ev hz hDz
          subst ev
          obtain ⟨r, br, f1, f2, f3, f4, f5⟩ := cstep i z (by omega) hz hDz
          have hbr : br = 0 := by
            rcases f3 with ⟨a, _⟩ | ⟨_, b⟩
            · exact a
            · have b2 := hJ2 i hi
              rw [b2] at b
              rw [hno i (by omega), nI_1] at b
              exact absurd ((nI_eq (by omega) (by omega)).mp b) (by omega)
          unfold fX7_breachIn_b35
          refine wp_if' (nI_nlt (b := i + 1) (a := 200) (by omega) (by omega)) (wp_bne f1 (wp_bd (wp_bne f2 (wp_it hbr (wp_l ⟨?_, f4, f5⟩)))))
          exact nI_1 _
        · obtain ⟨v1, z⟩ := v
          obtain ⟨ev, hz, hDz⟩ := hv
          dsimp only at ev hz hDz
          subst ev
          obtain ⟨r, br, f1, f2, f3, f4, f5⟩ := cstep J z hJ hz hDz
          have hbr : ¬ br = 0 := by
            rcases f3 with ⟨_, b⟩ | ⟨a, _⟩
            · exact absurd b hJ1
            · rw [a]; decide
          unfold fX7_breachIn_b35
          exact wp_if' (nI_nlt (b := J + 1) (a := 200) (by omega) (by omega)) (wp_bne f1 (wp_bd (wp_bne f2 (wp_if' hbr (wp_r ⟨_, rfl, f4⟩)))))
      have h18 : tn t2 (J + 1) 1 17 = nI (H + 1) := by
        obtain ⟨_, _, br, _, f8⟩ := hi200 J hJ
        rcases f8 with ⟨_, b⟩ | ⟨_, b⟩
        · exact absurd b hJ1
        · rw [b, hno J (Nat.le_refl _), nI_1]
      have hmo : wp_ (fX8_breachIn_l32 t2 FU_ ((0 : Int32), t2)) (fun x => x = (nI (J + 1), tn t2 (J + 1))) := by
        unfold fX8_breachIn_l32
        refine wp_up (fun i v => v = (nI i, tn t2 i)) 0 (J + 1) (Nat.zero_le _) (by omega) rfl (fun i v hi _ hv => ?_) (fun v hv => ?_)
        · subst hv
          unfold fX8_breachIn_b32
          dsimp only
          rw [i17_, h17]
          refine wp_gd b17_ (wp_it (hno i (by omega)) (wp_if' (nI_ge (b := 200) (by omega) (by omega)) (wp_bne (mstep i (by omega)) (wp_l ?_))))
          rw [nI_1]
        · subst hv
          unfold fX8_breachIn_b32
          dsimp only
          rw [i17_, h17]
          exact wp_gd b17_ (wp_if' (fun z => by rw [h18] at z; have := (nI_eq (by omega) (by omega)).mp z; omega) (wp_r rfl))
      obtain ⟨_, ex, z, rfl, hz⟩ := hcl
      obtain ⟨_, ey, rfl⟩ := hmo
      obtain ⟨t', eb, hM⟩ := back (J + 1) (by omega)
      rw [bn_e ex, bn_e ey]
      refine ⟨z, nI (J + 1), t', rfl, ?_, fun o a _ _ => hz o a, hM⟩
      unfold fX8_breachIn_k32 fX8_breachIn_x32_60 fX8_breachIn_j76
      dsimp only
      rw [gd_t b17_, i17_, h17, if_neg (fun z => by rw [h18] at z; exact nI_ge (by omega) (by omega) z), bn_e eb, if_neg (show ¬ (1 : Int32) = 0 by decide)]
    · obtain ⟨N, hN⟩ : ∃ N : Nat, N = 200 := ⟨200, rfl⟩
      have hN2 : (200 : Int32) ≤ nI N := by rw [hN]; exact Int32.le_refl _
      have hno := nobreach (t := t2) (J := N) (fun i => tn t2 (i + 1) 1 17 = tn t2 i 1 17) h17 (fun i h => h) (fun i hi => hall i (by omega))
      have hcl : wp_ (fX7_breachIn_l35 FU_ ((1 : Int32), s5)) (fun x => ∃ z, x = .inr z ∧ ∀ o, o < 83 → z o = s o) := by
        unfold fX7_breachIn_l35
        refine wp_up (fun i v => v.1 = nI (i + 1) ∧ (∀ o, o < 83 → v.2 o = s o) ∧ ∃ n', DD (sb_ v.2 83) (tn t2 i 1) C R n') 0 N (Nat.zero_le _) (by omega) ⟨rfl, c5, n, hD1⟩ (fun i v hi _ hv => ?_) (fun v hv => ?_)
        · obtain ⟨v1, z⟩ := v
          obtain ⟨ev, hz, hDz⟩ := hv
          dsimp only at ev hz hDz
          subst ev
          obtain ⟨r, br, f1, f2, f3, f4, f5⟩ := cstep i z (by omega) hz hDz
          have hbr : br = 0 := by
            rcases f3 with ⟨a, _⟩ | ⟨_, b⟩
            · exact a
            · have b2 := hall i (by omega)
              rw [b2] at b
              rw [hno i (by omega), nI_1] at b
              exact absurd ((nI_eq (by omega) (by omega)).mp b) (by omega)
          unfold fX7_breachIn_b35
          refine wp_if' (nI_nlt (b := i + 1) (a := 200) (by omega) (by omega)) (wp_bne f1 (wp_bd (wp_bne f2 (wp_it hbr (wp_l ⟨?_, f4, f5⟩)))))
          exact nI_1 _
        · obtain ⟨v1, z⟩ := v
          obtain ⟨ev, hz, hDz⟩ := hv
          dsimp only at ev hz hDz
          subst ev
          unfold fX7_breachIn_b35
          exact wp_it (nI_lt (a := 200) (by omega) (by omega)) (wp_r ⟨z, rfl, hz⟩)
      have hmo : wp_ (fX8_breachIn_l32 t2 FU_ ((0 : Int32), t2)) (fun x => x = (nI N, tn t2 N)) := by
        unfold fX8_breachIn_l32
        refine wp_up (fun i v => v = (nI i, tn t2 i)) 0 N (Nat.zero_le _) (by omega) rfl (fun i v hi _ hv => ?_) (fun v hv => ?_)
        · subst hv
          unfold fX8_breachIn_b32
          dsimp only
          rw [i17_, h17]
          refine wp_gd b17_ (wp_it (hno i (by omega)) (wp_if' (nI_ge (b := 200) (by omega) (by omega)) (wp_bne (mstep i (by omega)) (wp_l ?_))))
          rw [nI_1]
        · subst hv
          unfold fX8_breachIn_b32
          dsimp only
          rw [i17_, h17]
          exact wp_gd b17_ (wp_it (hno N (by omega)) (wp_it hN2 (wp_r rfl)))
      obtain ⟨_, ex, z, rfl, hz⟩ := hcl
      obtain ⟨_, ey, rfl⟩ := hmo
      obtain ⟨t', eb, hM⟩ := back N (by omega)
      rw [bn_e ex, bn_e ey]
      refine ⟨z, -1, t', rfl, ?_, fun o a _ _ => hz o a, hM⟩
      unfold fX8_breachIn_k32 fX8_breachIn_x32_60 fX8_breachIn_j76
      dsimp only
      rw [gd_t b17_, i17_, h17, if_pos (by rw [hno N (by omega)]; exact Int32.le_refl _), bn_e eb, if_pos rfl]
end PREDICT
