/-! the law's foresees -/
section FORA
variable {s s' t : st_} {C R n T K k c : Nat}
theorem YY.foresees (h : YY s t C R n T K) (hT : T ≤ 900) (hk1 : 1 ≤ k) (hk : k ≤ 12) (hc : c < C) : ∃ s', fL_foreseesA s (nI R) (nI k) (nI c) = some (s', 1) ∧ YY s' t C R n T K := by
  have hB := h.1.1.rb
  have hR1 := hB.1.1
  have h6 := hB.1.2.1
  have hI := h.2.1
  have hn11 := hI.2.2.2.2.2.2.2.2
  have hC2 := h.1.1.1.1.1
  have hC := h.1.1.1.1.2.1
  have h20 := h.1.n20
  suffices hw : wp_ (fL_foreseesA s (nI R) (nI k) (nI c)) (fun y => y.2 = 1 ∧ YY y.1 t C R n T K) by
    obtain ⟨⟨s', y⟩, e1, e2, e3⟩ := hw
    dsimp only at e2
    subst e2
    exact ⟨s', e1, e3⟩
  obtain ⟨t1, r9, m1, hr9, hcr, m1k, m1b⟩ := h.first (by omega)
  obtain ⟨-, tk, -, -, -, mk, -⟩ := h.run (k := k) hk1 (by omega) (by omega)
  -- predictions
  obtain ⟨s5, p5, o5⟩ := p_regretIn h.1 hk1 (by omega) mk
  have y5 : YY s5 t C R n T K := h.ci (fun o _ b _ _ => o5 o b)
  obtain ⟨s9, p9, o9⟩ := p_costIn y5.1 hk1 (by omega) mk
  have y9 : YY s9 t C R n T K := y5.ci (fun o _ b _ _ => o9 o b)
  obtain ⟨t2, yy2, m2, -, z2⟩ := y9.setMasterB (v := 2) (r := R - 1) (by omega) (by omega)
  obtain ⟨-, tk2, -, -, -, m2k, -⟩ := z2.run (k := k) hk1 (by omega) (by omega)
  obtain ⟨s13, p13, o13⟩ := p_keeping y9.1 z2.1 (by omega) hk1 (by omega) m2k
  have y13 : YY s13 t C R n T K := y9.ci (fun o _ b _ _ => o13 o b)
  obtain ⟨t5, yy5, m5, -, z5⟩ := y13.setFoeB (v := 2) (by omega)
  obtain ⟨-, tk5, -, -, -, m5k, -⟩ := z5.run (k := k) hk1 (by omega) (by omega)
  obtain ⟨s17, p17, o17⟩ := p_against y13.1 z5.1 (by omega) hk1 (by omega) m5k
  have y17 : YY s17 t C R n T K := y13.ci (fun o _ b _ _ => o17 o b)
  obtain ⟨s21, x21, p21, h21, o21⟩ := p_breachIn y17.1 (by omega) hn11 m1 m1b
  have y21 : YY s21 t C R n T K := y17.ci (fun o _ b _ _ => o21 o b)
  have p25 : gX7_nextRule s21 = some (nI r9) := by
    unfold gX7_nextRule
    rw [bn_e (hcr s21 y21.1)]
  have ek1 : nI R - (1 : Int32) = nI (R - 1) := pk_sub (b := 1) (by omega)
  -- the rest, behind hurtOf and worst
  have rest : ∀ (s29 s33 : st_) (x29 x33 : Int32), YY s33 t C R n T K → ((¬ n < 20 ∧ x33 < 0) ∨ (n < 20 ∧ x29 = hurt_f (sb_ s21 9) n R r9 c ∧ x33 = nI (wst (hurt_f (sb_ s29 9) n R r9) (C - 1)) ∧ YY s29 t C R n T K)) → wp_ (bn_ (gX7_rivalIn s33 (nI k)) fun r37 => bn_ (gX7_arm r37.1 (-1 : Int32) (2 : Int32)) fun r41 => bn_ (gX7_optimum r37.1 (if r41 < (4 : Int32) then r41 else (4 : Int32))) fun r45 => bn_ (fL_whole r45.1 (nI R)) fun r49 => if (lg_cmp r49 (whl_ (t 1) R T)) = (0 : Int32) then (if r45.2 < (0 : Int32) then (some (r45.1, (0 : Int32))) else (if x33 < (0 : Int32) then (fL_foreseesA_j120 (nI R) (nI k) (nI c) (whl_ (t 1) R T) (s5, rg0_ (tk 1) R) (s9, tk 1 (ab_ 0 + 3) - t 1 (ab_ 0 + 3)) (s13, rg0_ (tk2 1) R) (s17, rg0_ (tk5 1) R) (s21, x21) (nI r9) (s29, x29) (s33, x33) r37 r45.1) else (bn_ (gX7_hurtOf r45.1 x33) fun r58 => if r58.2 < x29 then (some (r58.1, (0 : Int32))) else (fL_foreseesA_j120 (nI R) (nI k) (nI c) (whl_ (t 1) R T) (s5, rg0_ (tk 1) R) (s9, tk 1 (ab_ 0 + 3) - t 1 (ab_ 0 + 3)) (s13, rg0_ (tk2 1) R) (s17, rg0_ (tk5 1) R) (s21, x21) (nI r9) (s29, x29) (s33, x33) r37 r58.1)))) else (some (r45.1, (0 : Int32)))) (fun y => y.2 = 1 ∧ YY y.1 t C R n T K) := fun s29 s33 x29 x33 y33 hx => by
    obtain ⟨s37, x37, p37, h37, o37⟩ := p_rivalIn y33.1 hk1 (by omega) mk
    have y37 : YY s37 t C R n T K := y33.ci (fun o _ b _ _ => o37 o b)
    have e2 : t 1 (ab_ 6 + 2) = nI n := y37.1.1.2.2.2.1.2.2.2.1
    have p41 : gX7_arm s37 (-1 : Int32) (2 : Int32) = some (nI n) := by
      rw [show gX7_arm s37 (-1 : Int32) (2 : Int32) = _ from y37.arm6 (k := 2) (by omega), e2]
    obtain ⟨m, hm, hmn, em⟩ : ∃ m : Nat, m ≤ 8 ∧ m ≤ n ∧ (if nI n < (4 : Int32) then nI n else (4 : Int32)) = nI m := by
      by_cases hlt : n < 4
      · exact ⟨n, by omega, Nat.le_refl _, if_pos (show nI n < (4 : Int32) from nI_lt (b := 4) hlt (by omega))⟩
      · exact ⟨4, by omega, by omega, if_neg (show ¬ nI n < (4 : Int32) from nI_nlt (b := 4) (by omega) (by omega))⟩
    obtain ⟨s45, x45, p45, h45, o45⟩ := p_optimum y37.1 hm hmn
    have y45 : YY s45 t C R n T K := y37.ci (fun o _ b _ _ => o45 o b)
    refine wp_bne p37 (wp_bne p41 ?_)
    rw [em]
    refine wp_bne p45 (wp_bne (y45.1.whole hn11) (wp_it (lg_self _) (wp_if' (nI_nlt (b := 0) (Nat.zero_le _) h45) ?_)))
    -- behind the comparison
    have f120 : ∀ sj, YY sj t C R n T K → wp_ (fL_foreseesA_j120 (nI R) (nI k) (nI c) (whl_ (t 1) R T) (s5, rg0_ (tk 1) R) (s9, tk 1 (ab_ 0 + 3) - t 1 (ab_ 0 + 3)) (s13, rg0_ (tk2 1) R) (s17, rg0_ (tk5 1) R) (s21, x21) (nI r9) (s29, x29) (s33, x33) (s37, x37) sj) (fun y => y.2 = 1 ∧ YY y.1 t C R n T K) := fun sj yj => by
      have e53 : gX7_arm sj (-1 : Int32) (2 : Int32) = some (nI n) := by
        rw [show gX7_arm sj (-1 : Int32) (2 : Int32) = _ from yj.arm6 (k := 2) (by omega), e2]
      have f146 : ∀ z, wp_ (fL_foreseesA_j146 (nI R) (nI k) (nI c) (whl_ (t 1) R T) (s5, rg0_ (tk 1) R) (s9, tk 1 (ab_ 0 + 3) - t 1 (ab_ 0 + 3)) (s13, rg0_ (tk2 1) R) (s17, rg0_ (tk5 1) R) (s21, x21) (nI r9) (s29, x29) (s33, x33) (s37, x37) sj z z) (fun y => y.2 = 1 ∧ YY y.1 t C R n T K) := fun z => by
        unfold fL_foreseesA_j146
        obtain ⟨g, eg, hg⟩ := yj.sg.copy (x := zs_)
        obtain ⟨s', e, hs'⟩ := yj.forB (x13 := x33) (x11 := x29) hg hT hk1 hk hc m1 m1k mk ⟨yy2, m2⟩ m2k ⟨yy5, m5⟩ m5k h21 h37 (by
          rcases hx with ⟨a, b⟩ | ⟨a, b, e, -⟩
          · exact Or.inl ⟨a, b⟩
          · exact Or.inr ⟨a, by rw [e]; exact nI_nlt (b := 0) (Nat.zero_le _) (by have := wst_le (f := hurt_f (sb_ s29 9) n R r9) (C - 1); omega), s21, y21.1, hr9, hcr s21 y21.1, b⟩)
        exact wp_it rfl (wp_bne eg ⟨_, e, rfl, hs'⟩)
      unfold fL_foreseesA_j120 fL_foreseesA_j130
      rcases hx with ⟨a, b⟩ | ⟨a, b, e, -⟩
      · have hn : n = 20 := by omega
        have hx0 : ¬ (0 : Int32) ≤ x33 := Int32.not_le.mpr b
        refine wp_if' hx0 (wp_bne e53 (wp_it (by rw [hn]; rfl) (f146 1)))
      · have hx0 : (0 : Int32) ≤ x33 := by
          rw [e]
          exact nI_pos' (by have := wst_le (f := hurt_f (sb_ s29 9) n R r9) (C - 1); omega)
        refine wp_it hx0 (wp_bne e53 (wp_if' (fun z => ?_) (f146 0)))
        have := (nI_eq (b := 20) (by omega) (by omega)).mp z
        omega
    rcases hx with ⟨a, b⟩ | ⟨a, b, e, y29⟩
    · exact wp_it b (f120 _ y45)
    · have hl := wst_le (f := hurt_f (sb_ s29 9) n R r9) (C - 1)
      refine wp_if' (by rw [e]; exact nI_nlt (b := 0) (Nat.zero_le _) (by omega)) ?_
      obtain ⟨s58, p58, o58⟩ := p_hurtOf y45.1 (c := wst (hurt_f (sb_ s29 9) n R r9) (C - 1)) (by omega) a hr9 (hcr s45 y45.1)
      have y58 : YY s58 t C R n T K := y45.ci (fun o _ _ x y => o58 o x y)
      rw [e]
      refine wp_bne p58 (wp_if' ?_ ?_)
      · have e1 : ∀ q, hurt_f (sb_ s45 9) n R r9 q = hurt_f (sb_ s29 9) n R r9 q := fun q => hurt_dd y29.1.1 y45.1.1 hr9
        have e3 : hurt_f (sb_ s21 9) n R r9 c = hurt_f (sb_ s29 9) n R r9 c := hurt_dd y29.1.1 y21.1.1 hr9
        dsimp only
        rw [b, e1, e3]
        exact Int32.not_lt.mpr (wst_max (C - 1) c (by omega))
      · rw [← e]
        exact f120 _ y58
  unfold fL_foreseesA
  refine wp_bne (h.1.whole hn11) (wp_bne p5 (wp_bne p9 ?_))
  rw [ek1]
  refine wp_bne p13 (wp_bne (show gX7_regretAgainst s13 (2 : Int32) (nI k) = _ from p17) (wp_bne p21 (wp_bne p25 ?_)))
  by_cases hn : n < 20
  · obtain ⟨s29, p29, o29⟩ := p_hurtOf y21.1 hc hn hr9 (hcr s21 y21.1)
    have y29 : YY s29 t C R n T K := y21.ci (fun o _ _ x y => o29 o x y)
    obtain ⟨s33, p33, o33⟩ := p_worst y29.1 hn hr9 (hcr s29 y29.1)
    have y33 : YY s33 t C R n T K := y29.ci (fun o _ _ x y => o33 o x y)
    exact wp_bne p29 (wp_bne p33 (rest s29 s33 _ _ y33 (Or.inr ⟨hn, rfl, rfl, y29⟩)))
  · exact wp_bne (p_hurtOfN y21.1 hc hn) (wp_bne (p_worstN y21.1 hn) (rest s21 s21 _ _ y21 (Or.inl ⟨hn, (show (-1 : Int32) < 0 by decide)⟩)))
end FORA
