/-! roots, bounds, regret; a round is judged -/
theorem root_x : ∀ V : Nat, ∃ k, k * k ≤ V ∧ V < (k + 1) * (k + 1)
  | 0 => ⟨0, by omega, by omega⟩
  | V + 1 => by
    obtain ⟨k, h1, h2⟩ := root_x V
    by_cases h : V + 1 < (k + 1) * (k + 1)
    · exact ⟨k, by omega, h⟩
    · have e : (k + 1 + 1) * (k + 1 + 1) = (k + 1) * (k + 1) + 2 * (k + 1) + 1 := by
        rw [Nat.add_mul (k + 1) 1, Nat.mul_add (k + 1) (k + 1) 1]
        omega
      exact ⟨k + 1, by omega, by omega⟩
theorem root_b {V k : Nat} (h1 : k * k ≤ V) (hV : V ≤ 1200) : k ≤ 34 := by
  rcases Nat.lt_or_ge 34 k with h | h
  · have := Nat.mul_le_mul h h
    omega
  · exact h
theorem sq_m {j k : Nat} (h : j < k) : (j + 1) * (j + 1) ≤ k * k := Nat.mul_le_mul h h
theorem rootOf_e {V k : Nat} (h1 : k * k ≤ V) (h2 : V < (k + 1) * (k + 1)) (hV : V ≤ 1200) : fX8_rootOf (nI V) = some (nI k) := by
  have hk := root_b h1 hV
  suffices h : wp_ (fX8_rootOf (nI V)) (fun x => x = nI k) by
    obtain ⟨x, e, rfl⟩ := h
    exact e
  unfold fX8_rootOf fX8_rootOf_l2
  refine wp_bn (Q := fun x => x = nI k) ?_ (fun x hx => wp_s hx)
  refine wp_up (fun j v => v = nI j) 0 k (Nat.zero_le _) (by omega) rfl (fun j v hj _ hv => ?_) (fun v hv => ?_)
  · subst hv
    have := sq_m hj
    unfold fX8_rootOf_b2
    rw [nI_1, pk_mul]
    exact wp_if' (nI_nlt (by omega) (by omega)) (wp_l rfl)
  · subst hv
    have h3 : (k + 1) * (k + 1) ≤ 35 * 35 := Nat.mul_le_mul (by omega) (by omega)
    unfold fX8_rootOf_b2
    rw [nI_1, pk_mul]
    exact wp_it (nI_lt h2 (by omega)) (wp_r rfl)
theorem rootS_e {V k : Nat} (h1 : k * k ≤ V) (h2 : V < (k + 1) * (k + 1)) (hV : V ≤ 1200) : fX5_boundBehind_l13 (nI V) FU_ (0 : Int32) = some (nI k) := by
  have hk := root_b h1 hV
  suffices h : wp_ (fX5_boundBehind_l13 (nI V) FU_ (0 : Int32)) (fun x => x = nI k) by
    obtain ⟨x, e, rfl⟩ := h
    exact e
  unfold fX5_boundBehind_l13
  refine wp_up (fun j v => v = nI j) 0 k (Nat.zero_le _) (by omega) rfl (fun j v hj _ hv => ?_) (fun v hv => ?_)
  · subst hv
    have := sq_m hj
    unfold fX5_boundBehind_b13
    rw [nI_1, pk_mul]
    exact wp_if' (nI_ge (b := 1000) (by omega) (by omega)) (wp_if' (nI_nlt (by omega) (by omega)) (wp_l rfl))
  · subst hv
    have h3 : (k + 1) * (k + 1) ≤ 35 * 35 := Nat.mul_le_mul (by omega) (by omega)
    unfold fX5_boundBehind_b13
    rw [nI_1, pk_mul]
    exact wp_if' (nI_ge (b := 1000) (by omega) (by omega)) (wp_it (nI_lt h2 (by omega)) (wp_r rfl))
section JUDGES
variable {d t S : st_} {C R n r9 T V : Nat}
theorem bound_p (hb : S 0 17 = t 1 11) (hr : S 0 18 = t 1 12) (hV : V ≤ 1200) : ∃ x, fX8_boundOf t (nI V) = some x ∧ (¬ t 1 11 = -1 → fX5_boundBehind S (nI V) = some x) := by
  obtain ⟨k, h1, h2⟩ := root_x V
  refine ⟨t 1 11 + t 1 12 * nI k, ?_, fun h => ?_⟩
  · unfold fX8_boundOf
    rw [gd_t b11_, gd_t b12_, bn_e (rootOf_e h1 h2 hV), i11_, i12_]
  · unfold fX5_boundBehind
    rw [hb, if_neg h, bn_e (rootS_e h1 h2 hV)]
    unfold fX5_boundBehind_k13 fX5_boundBehind_x13_37
    rw [hb, hr]
theorem best_p (h : DA d (t 1) C R n) (hR : t 1 4 = nI R) (h1 : 1 ≤ R) (h6 : R ≤ 6) : fX8_bestRule t = some (nI (bst (fun r => d (3 * r + 15) 5) (R - 1))) := by
  rw [bestRule_e hR h1 h6, bst_congr (R - 1) (fun r hr => (show t 1 (ab_ r + 3) = d (3 * r + 15) 5 from (h.2.2.1 r (by omega)).1.2.2.2.1.symm))]
theorem regretNow_p (h : DA d (t 1) C R n) (hd : d 1 4 = nI R) (hR : t 1 4 = nI R) (h1 : 1 ≤ R) (h6 : R ≤ 6) : fX1_regretNow d = some (d 5 5 - d (3 * bst (fun r => d (3 * r + 15) 5) (R - 1) + 15) 5) ∧ fX8_regretNow t = some (d 5 5 - d (3 * bst (fun r => d (3 * r + 15) 5) (R - 1) + 15) 5) := by
  have hb := bst_le (f := fun r => d (3 * r + 15) 5) (R - 1)
  constructor
  · unfold fX1_regretNow
    rw [bn_e (cheapest_e hd h1 h6), gd_t (ib_n (by omega) (by omega)), ix_n (by omega)]
  · unfold fX8_regretNow
    have e6 : t 1 (ab_ 6 + 3) = d 5 5 := h.1.2.2.2.1.symm
    have er : t 1 (ab_ (bst (fun r => d (3 * r + 15) 5) (R - 1)) + 3) = d (3 * bst (fun r => d (3 * r + 15) 5) (R - 1) + 15) 5 := (h.2.2.1 _ (by omega)).1.2.2.2.1.symm
    rw [bn_e (show fX8_armOf t (6 : Int32) (3 : Int32) = some (t 1 (ab_ 6 + 3)) from armOf_3 (m := 6) (by omega)), bn_e (best_p h hR h1 h6), bn_e (armOf_3 (by omega)), e6, er]
theorem judges_p (h : DA d (t 1) C R n) (hd : d 1 4 = nI R) (hR : t 1 4 = nI R) (h1 : 1 ≤ R) (h6 : R ≤ 6) (hb : d 1 17 = t 1 11) (hr : d 1 18 = t 1 12) (hmk : d 0 9 = t 1 16) (hT : t 1 16 = nI (T + 1)) (hT2 : T < 1200) : ∃ t' reg br, fX8_judges t = some t' ∧ fX1_regretNow d = some reg ∧ fX1_isBreach d = some br ∧ mo_ t t' ∧ t' 1 18 = (if T = 0 then reg else if t 1 18 < reg then reg else t 1 18) ∧ ((br = 0 ∧ t' 1 17 = t 1 17 ∧ t' 1 19 = t 1 19) ∨ (br = 1 ∧ t' 1 17 = t 1 17 + 1 ∧ t' 1 19 = if t 1 17 = 0 then nI T else t 1 19)) ∧ ∀ i, i ≠ 17 → i ≠ 18 → i ≠ 19 → t' 1 i = t 1 i := by
  obtain ⟨e1, e2⟩ := regretNow_p h hd hR h1 h6
  generalize d 5 5 - d (3 * bst (fun r => d (3 * r + 15) 5) (R - 1) + 15) 5 = reg at e1 e2
  have key : ∀ z : Int32, ∃ t' br, fX8_judges_j37 t reg z = some t' ∧ fX1_isBreach d = some br ∧ mo_ t t' ∧ t' 1 18 = z ∧ ((br = 0 ∧ t' 1 17 = t 1 17 ∧ t' 1 19 = t 1 19) ∨ (br = 1 ∧ t' 1 17 = t 1 17 + 1 ∧ t' 1 19 = if t 1 17 = 0 then nI T else t 1 19)) ∧ ∀ i, i ≠ 17 → i ≠ 18 → i ≠ 19 → t' 1 i = t 1 i := by
    intro z
    generalize hs7 : pt_ t 1 18 z = s7
    have m7 : mo_ t s7 := by rw [← hs7]; exact mo_p1
    have q18 : s7 1 18 = z := by rw [← hs7, pt_a]
    have q : ∀ i, i ≠ 18 → s7 1 i = t 1 i := fun i hi => by rw [← hs7, pt_r hi]
    obtain ⟨x, x1, x2⟩ := bound_p (S := sb_ d 1) (t := s7) (V := T + 1) (by rw [q 11 (by decide)]; exact hb) (by rw [q 12 (by decide)]; exact hr) (by omega)
    unfold fX8_judges_j37 fX1_isBreach
    rw [hb, gd_t b18_, bd_e, i18_, hs7, gd_t b11_, i11_, q 11 (by decide)]
    by_cases hB : t 1 11 = -1
    · rw [if_pos hB, if_pos hB]
      exact ⟨s7, 0, rfl, rfl, m7, q18, Or.inl ⟨rfl, q 17 (by decide), q 19 (by decide)⟩, fun i _ a _ => q i a⟩
    · rw [if_neg hB, if_neg hB, gd_t b16_, i16_, q 16 (by decide), hT, bn_e x1, bn_e e1, hmk, hT, bn_e (x2 (by rw [q 11 (by decide)]; exact hB))]
      by_cases hlt : x < reg
      · rw [if_pos hlt, if_neg (Int32.not_le.mpr hlt), gd_t b17_, i17_, q 17 (by decide)]
        have ej : ∀ s : st_, fX8_judges_j91 s = some (pt_ s 1 17 (s 1 17 + 1)) := fun s => by
          unfold fX8_judges_j91
          rw [gd_t b17_, gd_t b17_, bd_e, i17_]
        by_cases h0 : t 1 17 = 0
        · have em : nI (T + 1) - 1 = nI T := nI_pred T
          rw [if_pos h0, gd_t b19_, bd_e, i19_, em, ej, gd_t b16_]
          refine ⟨_, 1, rfl, rfl, (m7.tr mo_p1).tr mo_p1, ?_, Or.inr ⟨rfl, ?_, ?_⟩, fun i a b c => ?_⟩
          · rw [pt_r (by decide), pt_r (by decide), q18]
          · rw [pt_a, pt_r (by decide), q 17 (by decide)]
          · rw [pt_r (by decide), pt_a, if_pos h0]
          · rw [pt_r a, pt_r c, q i b]
        · rw [if_neg h0, ej]
          refine ⟨_, 1, rfl, rfl, m7.tr mo_p1, ?_, Or.inr ⟨rfl, ?_, ?_⟩, fun i a b c => ?_⟩
          · rw [pt_r (by decide), q18]
          · rw [pt_a, q 17 (by decide)]
          · rw [pt_r (by decide), q 19 (by decide), if_neg h0]
          · rw [pt_r a, q i b]
      · rw [if_neg hlt, if_pos (Int32.not_lt.mp hlt)]
        exact ⟨s7, 0, rfl, rfl, m7, q18, Or.inl ⟨rfl, q 17 (by decide), q 19 (by decide)⟩, fun i _ a _ => q i a⟩
  unfold fX8_judges
  rw [bn_e e2, gd_t b16_, i16_, hT, gd_t b18_, i18_]
  by_cases h0 : T = 0
  · subst h0
    rw [if_pos (show nI (0 + 1) = 1 from rfl)]
    obtain ⟨t', br, k1, k2, k3, k4, k5⟩ := key reg
    exact ⟨t', reg, br, k1, e1, k2, k3, by rw [if_pos rfl]; exact k4, k5⟩
  · rw [if_neg (fun z => h0 (by have := (nI_eq (a := T + 1) (b := 1) (by omega) (by omega)).mp z; omega))]
    obtain ⟨t', br, k1, k2, k3, k4, k5⟩ := key (if t 1 18 < reg then reg else t 1 18)
    exact ⟨t', reg, br, k1, e1, k2, k3, by rw [if_neg h0]; exact k4, k5⟩
end JUDGES
