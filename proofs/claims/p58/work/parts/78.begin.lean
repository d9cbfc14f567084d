/-! a drive begins, of both -/
/-- the row as it is at first -/
def bgv (i : Nat) : Int32 := if i = 3 then 1 else if i = 5 then 2 else if i = 7 then 100 else if i = 8 then 1 else if i = 11 ∨ i = 12 ∨ i = 13 ∨ i = 19 ∨ i = 21 ∨ i = 25 then -1 else 0
/-- all is told, and nothing has been yet -/
def FC (S : st_) (w : Nat → Int32) (C R K : Nat) : Prop := ((∀ i, PI i → S 0 (pj i) = w i ∧ okw C R K i (w i)) ∧ (∀ r, r < R → S 1 r = w (26 + 5 * r) ∧ S 2 r = w (26 + 5 * r + 1) ∧ rg_ (w (26 + 5 * r)) 0 4) ∧ ((w 5 = 2 → S 0 8 = w 6 ∧ rg_ (w 6) 0 (R - 1)) ∧ (¬ w 5 = 2 → S 0 8 = -1)) ∧ (w 21 = 2 → S 0 15 = w 22 ∧ rg_ (w 22) 0 (R - 1)) ∧ (∀ k, k < K → S 3 k = w (56 + k) ∧ rg_ (w (56 + k)) 0 (C - 1))) ∧ 1 ≤ R ∧ (w 14 = 0 ∧ w 15 = 0 ∧ w 16 = 0 ∧ w 17 = 0 ∧ w 18 = 0 ∧ w 19 = -1 ∧ w 20 = 0 ∧ w 24 = 0 ∧ w 25 = -1 ∧ w 23 = w 8) ∧ (∀ r, r < R → w (26 + 5 * r + 2) = nI 1000000 ∧ w (26 + 5 * r + 3) = 0 ∧ w (26 + 5 * r + 4) = 0) ∧ (∀ m, m < 8 → w (ab_ m) = w 1 ∧ w (ab_ m + 1) = 1 ∧ ∀ j, 2 ≤ j → j < 47 → w (ab_ m + j) = 0) ∧ ∀ i, 448 ≤ i → i < 12584 → w i = 0
section BEGIN
variable {s s' t t' u u' S S' d e g : st_} {w w' : Nat → Int32} {C R K T n : Nat} {x : Int32}
theorem begins_w : wp_ (fX8_begins u) (fun u' => ∀ i, i < 12584 → u' 0 i = bgv i) := by
  unfold fX8_begins fX8_begins_l2
  refine wp_bn (Q := fun u' => ∀ i, i < 12584 → u' 0 i = 0) ?_ (fun z hz => ?_)
  · refine wp_up (fun k v => v.1 = nI k ∧ ∀ i, i < k → v.2 0 i = 0) 0 12584 (Nat.zero_le _) (by omega) ⟨rfl, fun i hi => absurd hi (by omega)⟩ (fun k v hk _ hv => ?_) (fun v hv => ?_)
    · obtain ⟨v1, z⟩ := v
      obtain ⟨a, hz⟩ := hv
      dsimp only at a hz
      subst a
      unfold fX8_begins_b2
      have ei : ix_ (nI k) = k := ix_n (by omega)
      simp only [ei]
      refine wp_if' (nI_ge (b := 12584) hk (by omega)) (wp_gd (ib_n (by omega) (by omega)) (wp_bd (wp_l ⟨nI_1 k, fun i hi => ?_⟩)))
      dsimp only
      by_cases hik : i = k
      · subst hik
        rw [pt_a]
      · rw [pt_r hik]
        exact hz i (by omega)
    · obtain ⟨v1, z⟩ := v
      obtain ⟨a, hz⟩ := hv
      dsimp only at a hz
      subst a
      unfold fX8_begins_b2
      exact wp_it (show (12584 : Int32) ≤ nI 12584 from Int32.le_refl _) (wp_r hz)
  · unfold fX8_begins_k2 fX8_begins_x2_19
    simp only [i3_, i5_, i7_, i8_, i11_, i12_, i19_, i13_, i21_, i25_, gd_t b3_, gd_t b5_, gd_t b7_, gd_t b8_, gd_t b11_, gd_t b12_, gd_t b19_, gd_t b13_, gd_t b21_, gd_t b25_, bd_e]
    refine wp_s (fun i hi => ?_)
    unfold bgv
    rw [pt_ap, pt_ap, pt_ap, pt_ap, pt_ap, pt_ap, pt_ap, pt_ap, pt_ap, pt_ap]
    simp only [if_true]
    have hz0 := hz i hi
    by_cases h25 : i = 25
    · subst h25; rfl
    by_cases h21 : i = 21
    · subst h21; rfl
    by_cases h13 : i = 13
    · subst h13; rfl
    by_cases h19 : i = 19
    · subst h19; rfl
    by_cases h12 : i = 12
    · subst h12; rfl
    by_cases h11 : i = 11
    · subst h11; rfl
    by_cases h8 : i = 8
    · subst h8; rfl
    by_cases h7 : i = 7
    · subst h7; rfl
    by_cases h5 : i = 5
    · subst h5; rfl
    by_cases h3 : i = 3
    · subst h3; rfl
    rw [if_neg h25, if_neg h21, if_neg h13, if_neg h19, if_neg h12, if_neg h11, if_neg h8, if_neg h7, if_neg h5, if_neg h3, if_neg h3, if_neg h5, if_neg h7, if_neg h8, if_neg (by omega)]
    exact hz0
/-- the draft as it is at first, held against the row -/
theorem default_p (hw : ∀ i, i < 12584 → w i = bgv i) : ∃ S', fX5_becomeDefault S = some S' ∧ (∀ C, FD 2 S' w C 0 0) ∧ S' 0 0 = 10 ∧ S' 0 1 = 0 := by
  unfold fX5_becomeDefault
  simp only [bd_e]
  refine ⟨_, rfl, fun C => ⟨fun i hi2 hi => ?_, fun r hr => absurd hr (by omega), ⟨fun z => ?_, fun z => ?_⟩, fun z => ?_, fun k hk => absurd hk (by omega), fun i hi hi2 => ?_, ?_, ?_⟩, ?_, ?_⟩
  · have hb := hi.b
    have e := hw i (by omega)
    unfold PI at hi
    rcases (show i = 2 ∨ i = 3 ∨ i = 4 ∨ i = 5 ∨ i = 7 ∨ i = 8 ∨ i = 9 ∨ i = 10 ∨ i = 11 ∨ i = 12 ∨ i = 13 ∨ i = 21 by omega) with rfl | rfl | rfl | rfl | rfl | rfl | rfl | rfl | rfl | rfl | rfl | rfl
    · rw [e]
      refine ⟨?_, show rg_ (nI 0) 0 99 from rg_n (by omega) (by omega) (by omega)⟩
      show _ = (0 : Int32)
      simp (disch := omega) only [pj, pt_a, pt_rr]
    · rw [e]
      refine ⟨?_, show rg_ (nI 1) 1 99 from rg_n (by omega) (by omega) (by omega)⟩
      show _ = (1 : Int32)
      simp (disch := omega) only [pj, pt_a, pt_rr]
    · rw [e]
      refine ⟨?_, show nI 0 = nI 0 ∧ 0 ≤ 6 from ⟨rfl, by omega⟩⟩
      show _ = (0 : Int32)
      simp (disch := omega) only [pj, pt_a, pt_rr]
    · rw [e]
      refine ⟨?_, show rg_ (nI 2) 0 2 from rg_n (by omega) (by omega) (by omega)⟩
      show _ = (2 : Int32)
      simp (disch := omega) only [pj, pt_a, pt_rr]
    · rw [e]
      refine ⟨?_, show rg_ (nI 100) 1 500 from rg_n (by omega) (by omega) (by omega)⟩
      show _ = (100 : Int32)
      simp (disch := omega) only [pj, pt_a, pt_rr]
    · rw [e]
      refine ⟨?_, show rg_ (nI 1) 0 32767 from rg_n (by omega) (by omega) (by omega)⟩
      show _ = (1 : Int32)
      simp (disch := omega) only [pj, pt_a, pt_rr]
    · rw [e]
      refine ⟨?_, show rg_ (nI 0) 0 5 from rg_n (by omega) (by omega) (by omega)⟩
      show _ = (0 : Int32)
      simp (disch := omega) only [pj, pt_a, pt_rr]
    · rw [e]
      refine ⟨?_, show nI 0 = nI 0 ∧ 0 ≤ 16 from ⟨rfl, by omega⟩⟩
      show _ = (0 : Int32)
      simp (disch := omega) only [pj, pt_a, pt_rr]
    · rw [e]
      refine ⟨?_, trivial⟩
      show _ = (-1 : Int32)
      simp (disch := omega) only [pj, pt_a, pt_rr]
    · rw [e]
      refine ⟨?_, trivial⟩
      show _ = (-1 : Int32)
      simp (disch := omega) only [pj, pt_a, pt_rr]
    · rw [e]
      refine ⟨?_, trivial⟩
      show _ = (-1 : Int32)
      simp (disch := omega) only [pj, pt_a, pt_rr]
    · rw [e]
      refine ⟨?_, show (-1 : Int32) = -1 ∨ rg_ (-1) 0 2 from Or.inl rfl⟩
      show _ = (-1 : Int32)
      simp (disch := omega) only [pj, pt_a, pt_rr]
  · have e6 : w 6 = 0 := hw 6 (by omega)
    rw [e6]
    refine ⟨?_, show rg_ (nI 0) 0 0 from rg_n (by omega) (by omega) (by omega)⟩
    simp (disch := omega) only [pt_a, pt_rr]
  · have e5 : w 5 = 2 := hw 5 (by omega)
    exact absurd e5 z
  · have e21 : w 21 = -1 := hw 21 (by omega)
    rw [e21] at z
    exact absurd z (by decide)
  · rw [hw i hi]
    unfold bgv
    rw [if_neg (by omega), if_neg (by omega), if_neg (by omega), if_neg (by omega), if_neg (by omega)]
  · exact hw 19 (by omega)
  · exact hw 25 (by omega)
  · simp (disch := omega) only [pt_a, pt_rr]
  · simp (disch := omega) only [pt_a, pt_rr]
/-- weights and arms of the row -/
theorem comp15_w (h4 : u 0 4 = nI R) (hR : R ≤ 6) : wp_ (fX8_completes_j15 u) (fun u' => (∀ r, r < R → u' 0 (26 + 5 * r + 2) = nI 1000000) ∧ u' 0 23 = u 0 8 ∧ (∀ m, m < 8 → u' 0 (ab_ m) = u 0 1 ∧ u' 0 (ab_ m + 1) = 1) ∧ ∀ i, i ≠ 23 → (26 ≤ i → i < 56 → (i - 26) % 5 ≠ 2) → (72 ≤ i → i < 448 → 2 ≤ (i - 72) % 47) → u' 0 i = u 0 i) := by
  unfold fX8_completes_j15 fX8_completes_l17
  refine wp_bn (Q := fun v => (∀ r, r < R → v 0 (26 + 5 * r + 2) = nI 1000000) ∧ ∀ i, (26 ≤ i → i < 56 → (i - 26) % 5 ≠ 2) → v 0 i = u 0 i) ?_ (fun v hv => ?_)
  · refine wp_up (fun k v => v.1 = nI k ∧ (∀ r, r < k → v.2 0 (26 + 5 * r + 2) = nI 1000000) ∧ ∀ i, (26 ≤ i → i < 56 → (i - 26) % 5 ≠ 2) → v.2 0 i = u 0 i) 0 R (Nat.zero_le _) (by omega) ⟨rfl, fun r hr => absurd hr (by omega), fun _ _ => rfl⟩ (fun k v hk _ hv => ?_) (fun v hv => ?_)
    · obtain ⟨v1, z⟩ := v
      obtain ⟨a, b, c⟩ := hv
      dsimp only at a b c
      subst a
      have ei : (26 : Int32) + (5 : Int32) * nI k + (2 : Int32) = nI (26 + 5 * k + 2) := by
        show nI 26 + nI 5 * nI k + nI 2 = _
        rw [pk_mul, nI_add, nI_add]
      unfold fX8_completes_b17
      simp only [i4_, ei, ix_n (show 26 + 5 * k + 2 < 2147483648 by omega)]
      refine wp_gd b4_ (wp_if' (by rw [c 4 (by omega), h4]; exact nI_ge hk (by omega)) (wp_gd (ib_n (by omega) (by omega)) (wp_bd (wp_l ⟨nI_1 k, fun r hr => ?_, fun i hi => ?_⟩))))
      · dsimp only
        by_cases hrk : r = k
        · subst hrk
          rw [pt_a]
          rfl
        · rw [pt_r (by omega)]
          exact b r (by omega)
      · dsimp only
        rw [pt_r (by omega)]
        exact c i hi
    · obtain ⟨v1, z⟩ := v
      obtain ⟨a, b, c⟩ := hv
      dsimp only at a b c
      subst a
      unfold fX8_completes_b17
      simp only [i4_]
      exact wp_gd b4_ (wp_it (by rw [c 4 (by omega), h4]; exact Int32.le_refl _) (wp_r ⟨b, c⟩))
  · obtain ⟨b, c⟩ := hv
    unfold fX8_completes_k17 fX8_completes_x17_42 fX8_completes_l52
    simp only [i8_, i23_]
    refine wp_gd b8_ (wp_gd b23_ (wp_bd ?_))
    generalize hz : pt_ v 0 23 (v 0 8) = z
    have z23 : z 0 23 = u 0 8 := by rw [← hz, pt_a, c 8 (by omega)]
    have zo : ∀ i, i ≠ 23 → z 0 i = v 0 i := fun i hi => by rw [← hz, pt_r hi]
    refine wp_bn (Q := fun y => (∀ m, m < 8 → y 0 (ab_ m) = z 0 1 ∧ y 0 (ab_ m + 1) = 1) ∧ ∀ i, (72 ≤ i → i < 448 → 2 ≤ (i - 72) % 47) → y 0 i = z 0 i) ?_ (fun y hy => ?_)
    · refine wp_up (fun k v => v.1 = nI k ∧ (∀ m, m < k → v.2 0 (ab_ m) = z 0 1 ∧ v.2 0 (ab_ m + 1) = 1) ∧ ∀ i, (72 ≤ i → i < 448 → 2 ≤ (i - 72) % 47) → v.2 0 i = z 0 i) 0 8 (Nat.zero_le _) (by omega) ⟨rfl, fun m hm => absurd hm (by omega), fun _ _ => rfl⟩ (fun k v hk _ hv => ?_) (fun v hv => ?_)
      · obtain ⟨v1, y⟩ := v
        obtain ⟨a, p, q⟩ := hv
        dsimp only at a p q
        subst a
        have hab : ab_ k = 72 + 47 * k := rfl
        have e0 : (72 : Int32) + (47 : Int32) * nI k + (0 : Int32) = nI (ab_ k) := by
          show nI 72 + nI 47 * nI k + nI 0 = _
          rw [pk_mul, nI_add, nI_add]
          rfl
        have e1 : (72 : Int32) + (47 : Int32) * nI k + (1 : Int32) = nI (ab_ k + 1) := by
          show nI 72 + nI 47 * nI k + nI 1 = _
          rw [pk_mul, nI_add, nI_add]
          rfl
        unfold fX8_completes_b52
        simp only [i1_, e0, e1, ix_n (show ab_ k < 2147483648 by omega), ix_n (show ab_ k + 1 < 2147483648 by omega)]
        refine wp_if' (nI_ge (b := 8) hk (by omega)) (wp_gd b1_ (wp_gd (ib_n (by omega) (by omega)) (wp_bd (wp_gd (ib_n (by omega) (by omega)) (wp_bd (wp_l ⟨nI_1 k, fun m hm => ?_, fun i hi => ?_⟩))))))
        · dsimp only
          have hm2 : ab_ m = 72 + 47 * m := rfl
          by_cases hmk : m = k
          · subst hmk
            rw [pt_r (by omega), pt_a, pt_a, q 1 (by omega)]
            exact ⟨rfl, rfl⟩
          · rw [pt_r (by omega), pt_r (by omega), pt_r (by omega), pt_r (by omega)]
            exact p m (by omega)
        · dsimp only
          rw [pt_r (by omega), pt_r (by omega)]
          exact q i hi
      · obtain ⟨v1, y⟩ := v
        obtain ⟨a, p, q⟩ := hv
        dsimp only at a p q
        subst a
        unfold fX8_completes_b52
        exact wp_it (show (8 : Int32) ≤ nI 8 from Int32.le_refl _) (wp_r ⟨p, q⟩)
    · obtain ⟨p, q⟩ := hy
      unfold fX8_completes_k52 fX8_completes_x52_90
      refine wp_s ⟨fun r hr => ?_, ?_, fun m hm => ?_, fun i h1 h2 h3 => ?_⟩
      · rw [q _ (by omega), zo _ (by omega)]
        exact b r hr
      · rw [q 23 (by omega)]
        exact z23
      · rw [(p m hm).1, (p m hm).2, zo 1 (by omega), c 1 (by omega)]
        exact ⟨rfl, rfl⟩
      · rw [q i h3, zo i h1, c i h2]
theorem okw_1 {i : Nat} (h : okw C 0 K i x) (hp : PI i) (hi : i ≠ 4) : okw C 1 K i x := okw_R h hp hi
/-- without rules there is one -/
theorem complete_p (h : FD 0 S w C R K) (hu : u 0 = w) : ∃ S' u' R', fX5_completeRules S = some S' ∧ fX8_completes u = some u' ∧ FC S' (u' 0) C R' K ∧ S' 0 4 = nI R' := by
  subst hu
  obtain ⟨f1, f2, ⟨f3, f3'⟩, f4, f5, f6, f7, f8⟩ := h
  have h4 := f1 4 (by omega) (by unfold PI; omega)
  have hR : R ≤ 6 := h4.2.2
  have w4 : u 0 4 = nI R := h4.2.1
  have S4 : S 0 4 = nI R := h4.1.trans w4
  have hK : K ≤ 16 := (f1 10 (by omega) (by unfold PI; omega)).2.2
  unfold fX5_completeRules fX8_completes
  rw [gd_t b4_, gd_t b4_, i4_, S4, w4]
  by_cases h0 : R = 0
  · subst h0
    rw [if_pos (show nI 0 = (0 : Int32) from rfl), if_pos (show nI 0 = (0 : Int32) from rfl), bn_e (putRule_e S4 (by omega)), bd_e, gd_t (by decide), bd_e, show ix_ (27 : Int32) = 27 by decide]
    generalize hv : pt_ (pt_ u 0 4 1) 0 27 (-1) = v
    have v4 : v 0 4 = nI 1 := by rw [← hv, pt_r (by decide), pt_a]; rfl
    have v27 : v 0 27 = -1 := by rw [← hv, pt_a]
    have vo : ∀ i, i ≠ 4 → i ≠ 27 → v 0 i = u 0 i := fun i a b => by rw [← hv, pt_r b, pt_r a]
    obtain ⟨u', eu, c1, c2, c3, c4⟩ := comp15_w v4 (by omega)
    have cc : ∀ i, i ≠ 4 → i ≠ 27 → i ≠ 23 → (26 ≤ i → i < 56 → (i - 26) % 5 ≠ 2) → (72 ≤ i → i < 448 → 2 ≤ (i - 72) % 47) → u' 0 i = u 0 i := fun i a b c d e => by rw [c4 i c d e, vo i a b]
    rw [eu]
    refine ⟨_, u', 1, rfl, rfl, ⟨⟨fun i hi => ?_, fun r hr => ?_, ⟨fun z => ?_, fun z => ?_⟩, fun z => ?_, fun k hk => ?_⟩, by omega, ⟨?_, ?_, ?_, ?_, ?_, ?_, ?_, ?_, ?_, ?_⟩, fun r hr => ⟨c1 r hr, ?_, ?_⟩, fun m hm => ⟨?_, (c3 m hm).2, fun j h2 h47 => ?_⟩, fun i a b => ?_⟩, by rw [pt_a]⟩
    · have hb := hi.b
      by_cases hi4 : i = 4
      · subst hi4
        rw [c4 4 (by omega) (by omega) (by omega), v4]
        exact ⟨pt_a, rfl, by omega⟩
      · have e := f1 i (by omega) hi
        have p4 : pj i ≠ 4 := fun z => hi4 (pj_i i hb 4 (by omega) hi (by omega) z)
        rw [pt_r p4, pt_oo (by decide), pt_oo (by decide), cc i hi4 (by omega) (by unfold PI at hi; omega) (by omega) (by omega)]
        exact ⟨e.1, okw_R e.2 hi hi4⟩
    · have e : r = 0 := by omega
      subst e
      have w26 : u' 0 26 = 0 := by rw [cc 26 (by omega) (by omega) (by omega) (by omega) (by omega)]; exact f6 26 (by omega) (by omega)
      have w27 : u' 0 27 = -1 := by rw [c4 27 (by omega) (by omega) (by omega)]; exact v27
      refine ⟨?_, ?_, ?_⟩
      · rw [pt_oo (by decide), pt_oo (by decide), pt_a]
        exact w26.symm
      · rw [pt_oo (by decide), pt_a]
        exact w27.symm
      · show rg_ (u' 0 26) 0 4
        rw [w26]
        exact rg_n (k := 0) (by omega) (by omega) (by omega)
    · rw [cc 5 (by omega) (by omega) (by omega) (by omega) (by omega)] at z
      rw [pt_r (by decide), pt_oo (by decide), pt_oo (by decide), cc 6 (by omega) (by omega) (by omega) (by omega) (by omega)]
      exact f3 z
    · rw [cc 5 (by omega) (by omega) (by omega) (by omega) (by omega)] at z
      rw [pt_r (by decide), pt_oo (by decide), pt_oo (by decide)]
      exact f3' z
    · rw [cc 21 (by omega) (by omega) (by omega) (by omega) (by omega)] at z
      rw [pt_r (by decide), pt_oo (by decide), pt_oo (by decide), cc 22 (by omega) (by omega) (by omega) (by omega) (by omega)]
      exact f4 z
    · rw [pt_oo (by decide), pt_oo (by decide), pt_oo (by decide), cc _ (by omega) (by omega) (by omega) (by omega) (by omega)]
      exact f5 k hk
    · rw [cc _ (by omega) (by omega) (by omega) (by omega) (by omega)]; exact f6 _ (by omega) (by omega)
    · rw [cc _ (by omega) (by omega) (by omega) (by omega) (by omega)]; exact f6 _ (by omega) (by omega)
    · rw [cc _ (by omega) (by omega) (by omega) (by omega) (by omega)]; exact f6 _ (by omega) (by omega)
    · rw [cc _ (by omega) (by omega) (by omega) (by omega) (by omega)]; exact f6 _ (by omega) (by omega)
    · rw [cc _ (by omega) (by omega) (by omega) (by omega) (by omega)]; exact f6 _ (by omega) (by omega)
    · rw [cc _ (by omega) (by omega) (by omega) (by omega) (by omega)]; exact f7
    · rw [cc _ (by omega) (by omega) (by omega) (by omega) (by omega)]; exact f6 _ (by omega) (by omega)
    · rw [cc _ (by omega) (by omega) (by omega) (by omega) (by omega)]; exact f6 _ (by omega) (by omega)
    · rw [cc _ (by omega) (by omega) (by omega) (by omega) (by omega)]; exact f8
    · rw [c2, vo 8 (by omega) (by omega), cc 8 (by omega) (by omega) (by omega) (by omega) (by omega)]
    · rw [cc _ (by omega) (by omega) (by omega) (by omega) (by omega)]; exact f6 _ (by omega) (by omega)
    · rw [cc _ (by omega) (by omega) (by omega) (by omega) (by omega)]; exact f6 _ (by omega) (by omega)
    · rw [(c3 m hm).1, vo 1 (by omega) (by omega), cc 1 (by omega) (by omega) (by omega) (by omega) (by omega)]
    · have hab : ab_ m = 72 + 47 * m := rfl
      rw [cc _ (by omega) (by omega) (by omega) (by omega) (by omega)]; exact f6 _ (by omega) (by omega)
    · rw [cc _ (by omega) (by omega) (by omega) (by omega) (by omega)]; exact f6 _ (by omega) (by omega)
  · rw [if_neg (show ¬ nI R = (0 : Int32) from fun z => h0 ((nI_eq (b := 0) (by omega) (by omega)).mp z)), if_neg (show ¬ nI R = (0 : Int32) from fun z => h0 ((nI_eq (b := 0) (by omega) (by omega)).mp z))]
    obtain ⟨u', eu, c1, c2, c3, cc⟩ := comp15_w w4 hR
    rw [eu]
    refine ⟨_, u', R, rfl, rfl, ⟨⟨fun i hi => ?_, fun r hr => ?_, ⟨fun z => ?_, fun z => ?_⟩, fun z => ?_, fun k hk => ?_⟩, by omega, ⟨?_, ?_, ?_, ?_, ?_, ?_, ?_, ?_, ?_, ?_⟩, fun r hr => ⟨c1 r hr, ?_, ?_⟩, fun m hm => ⟨?_, (c3 m hm).2, fun j h2 h47 => ?_⟩, fun i a b => ?_⟩, S4⟩
    · have hb := hi.b
      rw [cc i (by unfold PI at hi; omega) (by omega) (by omega)]
      exact f1 i (by omega) hi
    · rw [cc _ (by omega) (by omega) (by omega), cc _ (by omega) (by omega) (by omega)]
      exact f2 r hr
    · rw [cc 5 (by omega) (by omega) (by omega)] at z
      rw [cc 6 (by omega) (by omega) (by omega)]
      exact f3 z
    · rw [cc 5 (by omega) (by omega) (by omega)] at z
      exact f3' z
    · rw [cc 21 (by omega) (by omega) (by omega)] at z
      rw [cc 22 (by omega) (by omega) (by omega)]
      exact f4 z
    · rw [cc _ (by omega) (by omega) (by omega)]
      exact f5 k hk
    · rw [cc _ (by omega) (by omega) (by omega)]; exact f6 _ (by omega) (by omega)
    · rw [cc _ (by omega) (by omega) (by omega)]; exact f6 _ (by omega) (by omega)
    · rw [cc _ (by omega) (by omega) (by omega)]; exact f6 _ (by omega) (by omega)
    · rw [cc _ (by omega) (by omega) (by omega)]; exact f6 _ (by omega) (by omega)
    · rw [cc _ (by omega) (by omega) (by omega)]; exact f6 _ (by omega) (by omega)
    · rw [cc _ (by omega) (by omega) (by omega)]; exact f7
    · rw [cc _ (by omega) (by omega) (by omega)]; exact f6 _ (by omega) (by omega)
    · rw [cc _ (by omega) (by omega) (by omega)]; exact f6 _ (by omega) (by omega)
    · rw [cc _ (by omega) (by omega) (by omega)]; exact f8
    · rw [c2, cc 8 (by omega) (by omega) (by omega)]
    · rw [cc _ (by omega) (by omega) (by omega)]; exact f6 _ (by omega) (by omega)
    · rw [cc _ (by omega) (by omega) (by omega)]; exact f6 _ (by omega) (by omega)
    · rw [(c3 m hm).1, cc 1 (by omega) (by omega) (by omega)]
    · have hab : ab_ m = 72 + 47 * m := rfl
      rw [cc _ (by omega) (by omega) (by omega)]; exact f6 _ (by omega) (by omega)
    · rw [cc _ (by omega) (by omega) (by omega)]; exact f6 _ (by omega) (by omega)
end BEGIN
