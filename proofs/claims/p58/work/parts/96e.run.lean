/-! what the property rests on, over runs and over changes of the settings -/
def YY (s t : st_) (C R n T K : Nat) : Prop := HH s t C R n T ∧ WI (t 1) R T ∧ DT (sb_ s 9) R n T K
section RUNY
variable {s s' t t' g : st_} {C R n n' T K k C' R' T' : Nat}
theorem YY.step (h : YY s t C R n T K) (hT : T < 1000) : ∃ g' t' n' K', fX2_makeRound (sb_ s 8) = some g' ∧ fX8_round t = some t' ∧ mo_ t t' ∧ YY (mg_ s 8 75 g') t' C R n' (T + 1) K' := by
  obtain ⟨hH, hI, hA⟩ := h
  obtain ⟨g', t', n', K', r9, d2, d3, e1, e2, hm, hH', hA', hr9, -, hE, hDA, q4, b3, b4, hmk, w11, w12, -, hc, h5⟩ := round_y hH hT hA
  exact ⟨g', t', n', K', e1, e2, hm, hH', hI.round hH hH' hT hr9 hE hDA q4 b3 b4 hmk w11 w12 hc h5, hA'⟩
theorem YY.loop (h : YY s t C R n T K) (hk : T + k ≤ 1000) : ∃ s' t' n' K', gX7_run_l27 (nI k) FU_ ((0 : Int32), s) = some s' ∧ fX8_rounds t (nI k) = some t' ∧ mo_ t t' ∧ YY s' t' C R n' (T + k) K' ∧ ∀ o, (o < 8 ∨ 83 ≤ o) → s' o = s o := by
  obtain ⟨b, d, e1, e2, n', K', hH, hm, hc⟩ := up_pair (f := fun v => gX7_run_b27 (nI k) v.1 v.2) (g := fun v => fX8_rounds_b2 (nI k) v.1 v.2) (fun j v u => v.1 = nI j ∧ u.1 = nI j ∧ ∃ n' K', YY v.2 u.2 C R n' (T + j) K' ∧ mo_ t u.2 ∧ ∀ o, (o < 8 ∨ 83 ≤ o) → v.2 o = s o) (fun b d => ∃ n' K', YY b d C R n' (T + k) K' ∧ mo_ t d ∧ ∀ o, (o < 8 ∨ 83 ≤ o) → b o = s o) 0 k (Nat.zero_le _) (by omega) (v := ((0 : Int32), s)) (u := ((0 : Int32), t)) ⟨rfl, rfl, n, K, h, mo_r, fun _ _ => rfl⟩ (fun j v u hj _ hJ => by
    obtain ⟨v1, z⟩ := v
    obtain ⟨u1, y⟩ := u
    obtain ⟨a1, a2, n', K', hH, hm, hc⟩ := hJ
    dsimp only at a1 a2 hH hc hm
    subst a1 a2
    obtain ⟨g', y', n2, K2, e1, e2, hm2, hH2⟩ := hH.step (by omega)
    refine ⟨(nI (j + 1), mg_ z 8 75 g'), (nI (j + 1), y'), ?_, ?_, rfl, rfl, n2, K2, hH2, hm.tr hm2, fun o ho => (mg_o (by omega)).trans (hc o ho)⟩
    · unfold gX7_run_b27
      dsimp only
      rw [if_neg (nI_ge hj (by omega)), bn_e e1, bd_e, nI_1]
    · unfold fX8_rounds_b2
      dsimp only
      rw [if_neg (nI_ge hj (by omega)), bn_e e2, nI_1]) (fun v u hJ => by
    obtain ⟨v1, z⟩ := v
    obtain ⟨u1, y⟩ := u
    obtain ⟨a1, a2, n', K', hH, hm, hc⟩ := hJ
    dsimp only at a1 a2 hH hc hm
    subst a1 a2
    refine ⟨z, y, ?_, ?_, n', K', hH, hm, hc⟩
    · unfold gX7_run_b27
      dsimp only
      rw [if_pos (Int32.le_refl _)]
    · unfold fX8_rounds_b2
      dsimp only
      rw [if_pos (Int32.le_refl _)])
  refine ⟨b, d, n', K', e1, ?_, hm, hH, hc⟩
  unfold fX8_rounds fX8_rounds_l2
  rw [bn_e e2]
  rfl
theorem YY.run (h : YY s t C R n T K) (h1 : 1 ≤ k) (hk : k ≤ 200) (hk2 : T + k ≤ 1000) : ∃ s' t' n' K', gX7_run s (nI k) = some (s', nI (T + k)) ∧ fX8_rounds t (nI k) = some t' ∧ mo_ t t' ∧ YY s' t' C R n' (T + k) K' ∧ ∀ o, (o < 8 ∨ 83 ≤ o) → s' o = s o := by
  obtain ⟨s', t', n', K', e1, e2, hm, hY, hc⟩ := h.loop hk2
  refine ⟨s', t', n', K', ?_, e2, hm, hY, hc⟩
  have e9 : s 9 9 = nI T := h.1.1.mk.trans h.1.2.2.1.1.2.2.1
  have e9' : s' 9 9 = nI (T + k) := hY.1.1.mk.trans hY.1.2.2.1.1.2.2.1
  unfold gX7_run
  rw [e9, show (1000 : Int32) - nI T = nI (1000 - T) from pk_sub (a := 1000) (by omega)]
  rw [bn_e (gWithin (lo := 1) (show (1 : Int32) ≤ nI k from nI_le (a := 1) h1 (by omega)) (by
    split
    · exact nI_le (by omega) (by omega)
    · exact nI_le (b := 200) hk (by omega))), bn_e e1]
  unfold gX7_run_k27 gX7_run_x27_45
  rw [e9']
/-- the numbers of a state are its own -/
theorem HH.nums (h : HH s t C R n T) (h' : HH s' t' C' R' n' T') (h0 : s' 10 0 = s 10 0) (h4 : s' 10 4 = s 10 4) (h9 : s' 9 9 = s 9 9) : C' = C ∧ R' = R ∧ T' = T := by
  have a1 : s 10 0 = nI C := h.1.1.1.2.2.1
  have a2 : s' 10 0 = nI C' := h'.1.1.1.2.2.1
  have b1 : s 10 4 = nI R := h.1.rb.1.2.2.1
  have b2 : s' 10 4 = nI R' := h'.1.rb.1.2.2.1
  have c1 : s 9 9 = nI T := h.1.mk.trans h.2.2.1.1.2.2.1
  have c2 : s' 9 9 = nI T' := h'.1.mk.trans h'.2.2.1.1.2.2.1
  have l1 := h.1.1.1.2.1
  have l2 := h'.1.1.1.2.1
  have m1 := h.1.rb.1.2.1
  have m2 := h'.1.rb.1.2.1
  have n1 := h.2.2.1.1.2.2.2
  have n2 := h'.2.2.1.1.2.2.2
  refine ⟨(nI_eq (by omega) (by omega)).mp (a2.symm.trans (h0.trans a1)), (nI_eq (by omega) (by omega)).mp (b2.symm.trans (h4.trans b1)), (nI_eq (by omega) (by omega)).mp (c2.symm.trans (h9.trans c1))⟩
end RUNY
