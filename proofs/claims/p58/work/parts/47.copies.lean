/-! copies, of the class and of the model -/
def CS (s t : st_) : Prop := (∀ j, j < 19 → j ≠ 5 → j ≠ 6 → j ≠ 13 → s 0 j = t 0 j) ∧ (∀ j, j < 6 → s 1 j = t 1 j ∧ s 2 j = t 2 j) ∧ ∀ j, j < 16 → s 3 j = t 3 j
def CA (s t : st_) : Prop := (∀ j, j < 12 → j ≠ 3 → j ≠ 4 → s 0 j = t 0 j) ∧ ∀ j, j < 20 → s 1 j = t 1 j ∧ s 2 j = t 2 j
def CD (s t : st_) : Prop := CS (sb_ s 1) (sb_ t 1) ∧ CA (sb_ s 5) (sb_ t 5) ∧ CA (sb_ s 8) (sb_ t 8) ∧ (∀ r, r < 6 → CA (sb_ s (3 * r + 15)) (sb_ t (3 * r + 15))) ∧ (∀ j, j < 6 → s 12 j = t 12 j) ∧ ∀ j, 7 ≤ j → j < 14 → s 0 j = t 0 j
section COPY
variable {s t d d' a a' : st_} {w : Nat → Int32} {m C R n : Nat}
theorem CA.ext {s' t' : st_} (h : CA s t) (h1 : ∀ q, q < 3 → s' q = s q) (h2 : ∀ q, q < 3 → t' q = t q) : CA s' t' := by
  unfold CA at h ⊢
  rw [h1 0 (by omega), h1 1 (by omega), h1 2 (by omega), h2 0 (by omega), h2 1 (by omega), h2 2 (by omega)]
  exact h
theorem CS.ext {s' t' : st_} (h : CS s t) (h1 : ∀ q, q < 4 → s' q = s q) (h2 : ∀ q, q < 4 → t' q = t q) : CS s' t' := by
  unfold CS at h ⊢
  rw [h1 0 (by omega), h1 1 (by omega), h1 2 (by omega), h1 3 (by omega), h2 0 (by omega), h2 1 (by omega), h2 2 (by omega), h2 3 (by omega)]
  exact h
theorem setCopy_w : wp_ (fX5_copyFrom s t) (fun s' => CS s' t) := by
  unfold fX5_copyFrom
  refine wp_s ⟨fun j hj h5 h6 h13 => ?_, fun j hj => ⟨?_, ?_⟩, fun j hj => ?_⟩
  · have e : j = 0 ∨ j = 1 ∨ j = 2 ∨ j = 3 ∨ j = 4 ∨ j = 7 ∨ j = 8 ∨ j = 9 ∨ j = 10 ∨ j = 11 ∨ j = 12 ∨ j = 14 ∨ j = 15 ∨ j = 16 ∨ j = 17 ∨ j = 18 := by omega
    rcases e with rfl | rfl | rfl | rfl | rfl | rfl | rfl | rfl | rfl | rfl | rfl | rfl | rfl | rfl | rfl | rfl <;> simp (disch := omega) only [pt_a, pt_rr, pt_oo, rw_o]
  · simp (disch := omega) only [pt_a, pt_rr, pt_oo, rw_o, rw_a, cpy_i]
  · simp (disch := omega) only [pt_a, pt_rr, pt_oo, rw_o, rw_a, cpy_i]
  · simp (disch := omega) only [pt_a, pt_rr, pt_oo, rw_o, rw_a, cpy_i]
theorem armCopy_w (hb : t 0 1 = 0 ∨ t 0 1 = 1) : wp_ (fX0_copyFrom s t) (fun s' => CA s' t) := by
  have hz : bz_ (t 0 1) = true := by
    rcases hb with h | h <;> rw [h] <;> decide
  unfold fX0_copyFrom
  refine wp_gd hz (wp_s ⟨fun j hj h3 h4 => ?_, fun j hj => ⟨?_, ?_⟩⟩)
  · have e : j = 0 ∨ j = 1 ∨ j = 2 ∨ j = 5 ∨ j = 6 ∨ j = 7 ∨ j = 8 ∨ j = 9 ∨ j = 10 ∨ j = 11 := by omega
    rcases e with rfl | rfl | rfl | rfl | rfl | rfl | rfl | rfl | rfl | rfl <;> simp (disch := omega) only [pt_a, pt_rr, pt_oo, rw_o]
  · simp (disch := omega) only [pt_a, pt_rr, pt_oo, rw_o, rw_a, cpy_i]
  · simp (disch := omega) only [pt_a, pt_rr, pt_oo, rw_o, rw_a, cpy_i]
/-- all arms look up or down -/
def UPS (d : st_) : Prop := (d 5 1 = 0 ∨ d 5 1 = 1) ∧ (d 8 1 = 0 ∨ d 8 1 = 1) ∧ ∀ r, r < 6 → (d (3 * r + 15) 1 = 0 ∨ d (3 * r + 15) 1 = 1)
theorem duelCopy_w (hu : UPS t) : wp_ (fX1_copyFrom s t) (fun s' => CD s' t) := by
  obtain ⟨hu5, hu8, hur⟩ := hu
  unfold fX1_copyFrom
  refine wp_bn (setCopy_w) (fun r1 h1 => wp_bd ?_)
  refine wp_bn (armCopy_w (t := sb_ t 5) hu5) (fun r7 h7 => wp_bd ?_)
  refine wp_bn (armCopy_w (t := sb_ t 8) hu8) (fun r13 h13 => wp_bd ?_)
  generalize hs : mg_ (mg_ (mg_ s 1 4 r1) 5 3 r7) 8 3 r13 = s17
  unfold fX1_copyFrom_l35
  refine wp_bn (own_lo (R := 6) (d := s17) (fun r a => CA a (sb_ t (3 * r + 15))) (by omega) (fun k z hk hz => ?_) (fun z hz => ?_) (fun r a a' he h => h.ext he (fun _ _ => rfl))) (fun z hz => ?_)
  · show wp_ (fX1_copyFrom_b35 t (nI k) z) _
    unfold fX1_copyFrom_b35
    have ei : ix_ (nI k) = k := ix_n (by omega)
    simp only [ei]
    refine wp_if' (nI_ge (b := 6) hk (by omega)) (wp_gd (ib_n (by omega) (by omega)) (wp_gd (ib_n (by omega) (by omega)) ?_))
    refine wp_bn (armCopy_w (t := sb_ t (3 * k + 15)) (hur k hk)) (fun r53 h53 => wp_bd (wp_l ⟨nI_1 k, _, rfl, h53⟩))
  · show wp_ (fX1_copyFrom_b35 t (nI 6) z) _
    unfold fX1_copyFrom_b35
    exact wp_it (show (6 : Int32) ≤ nI 6 from Int32.le_refl _) (wp_r rfl)
  · obtain ⟨zo, zF⟩ := hz
    have k1 : ∀ o, o < 15 → z o = s17 o := fun o ho => zo o (by omega)
    unfold fX1_copyFrom_k35 fX1_copyFrom_x35_65
    simp only [bd_e]
    refine wp_s ⟨h1.ext (fun q hq => ?_) (fun _ _ => rfl), h7.ext (fun q hq => ?_) (fun _ _ => rfl), h13.ext (fun q hq => ?_) (fun _ _ => rfl), fun r hr => (zF r hr).ext (fun q hq => ?_) (fun _ _ => rfl), fun j hj => ?_, fun j h7 h14 => ?_⟩
    · rw [sb_ap]
      simp (disch := omega) only [pt_o, rw_o]
      rw [k1 _ (by omega), ← hs, mg_o (by omega), mg_o (by omega), mg_i (by omega) (by omega)]
      congr 1
      omega
    · rw [sb_ap]
      simp (disch := omega) only [pt_o, rw_o]
      rw [k1 _ (by omega), ← hs, mg_o (by omega), mg_i (by omega) (by omega)]
      congr 1
      omega
    · rw [sb_ap]
      simp (disch := omega) only [pt_o, rw_o]
      rw [k1 _ (by omega), ← hs, mg_i (by omega) (by omega)]
      congr 1
      omega
    · rw [sb_ap]
      simp (disch := omega) only [pt_o, rw_o]
      rfl
    · simp (disch := omega) only [pt_oo, rw_a, cpy_i]
    · have e : j = 7 ∨ j = 8 ∨ j = 9 ∨ j = 10 ∨ j = 11 ∨ j = 12 ∨ j = 13 := by omega
      rcases e with rfl | rfl | rfl | rfl | rfl | rfl | rfl <;> simp (disch := omega) only [pt_a, pt_rr]
theorem AR.ce (h : AR a w m n) (h20 : n ≤ 20) (hc : CA a' a) : AR a' w m n := by
  obtain ⟨c0, c1⟩ := hc
  obtain ⟨a0, a1, a2, a3, a4, a5, a6, aj⟩ := h
  refine ⟨by rw [c0 0 (by omega) (by omega) (by omega)]; exact a0, by rw [c0 1 (by omega) (by omega) (by omega)]; exact a1, by rw [c0 2 (by omega) (by omega) (by omega)]; exact a2, by rw [c0 5 (by omega) (by omega) (by omega)]; exact a3, by rw [c0 6 (by omega) (by omega) (by omega)]; exact a4, by rw [c0 7 (by omega) (by omega) (by omega)]; exact a5, by rw [c0 8 (by omega) (by omega) (by omega)]; exact a6, fun j hj => ?_⟩
  rw [(c1 j (by omega)).1, (c1 j (by omega)).2]
  exact aj j hj
theorem DD.ce (h : DD d w C R n) (hc : CD d' d) : DD d' w C R n := by
  obtain ⟨⟨cs0, cs1, cs3⟩, c5, c8, cr, c12, c0⟩ := hc
  obtain ⟨hS, hV, A1, A2, A3, A4⟩ := h
  obtain ⟨⟨hC2, hC, hS0, hw0, hR1, hR6, hS4, hw4, hS2, hS3, hw2, hw3, hk⟩, a1, a2, k1, k2, k3, k4, eta, etar, foe, foer, ak, akr, asks, base, root, bud, rv, rvr, rvk⟩ := hS
  have e1 : ∀ j, j < 19 → j ≠ 5 → j ≠ 6 → j ≠ 13 → d' 1 j = d 1 j := cs0
  refine ⟨⟨⟨hC2, hC, ?_, hw0, hR1, hR6, ?_, hw4, ?_, ?_, hw2, hw3, fun r hr => ?_⟩, ?_, a2, ?_, k2, fun h => ?_, fun h => ?_, ?_, etar, ?_, foer, ?_, akr, fun k hk => ?_, ?_, ?_, ?_, ?_, rvr, fun h => ?_⟩, ?_, A1.ce A2.2.2.2.2.1 c5, A2, fun r hr => ⟨(A3 r hr).1.ce A2.2.2.2.2.1 (cr r (by omega)), (A3 r hr).2⟩, fun h => ⟨(A4 h).1.ce A2.2.2.2.2.1 c8, (A4 h).2⟩⟩
  · exact (e1 0 (by omega) (by omega) (by omega) (by omega)).trans hS0
  · exact (e1 4 (by omega) (by omega) (by omega) (by omega)).trans hS4
  · exact (e1 2 (by omega) (by omega) (by omega) (by omega)).trans hS2
  · exact (e1 3 (by omega) (by omega) (by omega) (by omega)).trans hS3
  · rw [(cs1 r (by omega)).1, (cs1 r (by omega)).2]
    exact hk r hr
  · exact (e1 1 (by omega) (by omega) (by omega) (by omega)).trans a1
  · exact (e1 7 (by omega) (by omega) (by omega) (by omega)).trans k1
  · rw [e1 8 (by omega) (by omega) (by omega) (by omega)]; exact k3 h
  · rw [e1 8 (by omega) (by omega) (by omega) (by omega)]; exact k4 h
  · exact (e1 9 (by omega) (by omega) (by omega) (by omega)).trans eta
  · exact (e1 11 (by omega) (by omega) (by omega) (by omega)).trans foe
  · exact (e1 12 (by omega) (by omega) (by omega) (by omega)).trans ak
  · have := akr.2.2
    have e : d' 4 k = d 4 k := cs3 k (by omega)
    rw [e]
    exact asks k hk
  · exact (e1 17 (by omega) (by omega) (by omega) (by omega)).trans base
  · exact (e1 18 (by omega) (by omega) (by omega) (by omega)).trans root
  · exact (e1 16 (by omega) (by omega) (by omega) (by omega)).trans bud
  · exact (e1 14 (by omega) (by omega) (by omega) (by omega)).trans rv
  · rw [e1 15 (by omega) (by omega) (by omega) (by omega)]; exact rvk h
  · unfold DV at hV ⊢
    rw [c0 7 (by omega) (by omega), c0 8 (by omega) (by omega), c0 9 (by omega) (by omega), c0 10 (by omega) (by omega), c0 11 (by omega) (by omega), c0 13 (by omega) (by omega)]
    obtain ⟨v1, v2, v3, v4, v5, v6, v7, v8, v9, v10, v11⟩ := hV
    refine ⟨v1, v2, v3, v4, v5, v6, v7, v8, v9, v10, fun r hr => ?_⟩
    rw [c12 r (by omega)]
    exact v11 r hr
/-- the model's rows -/
theorem copies_w : wp_ (fX8_copies s t) (fun t' => ∀ j, j < 12584 → t' 0 j = s 0 j) := by
  unfold fX8_copies fX8_copies_l2
  refine wp_bn (Q := fun t' => ∀ j, j < 12584 → t' 0 j = s 0 j) ?_ (fun x hx => wp_s hx)
  refine wp_up (fun k v => v.1 = nI k ∧ ∀ j, j < k → v.2 0 j = s 0 j) 0 12584 (Nat.zero_le _) (by omega) ⟨rfl, fun j hj => absurd hj (by omega)⟩ (fun k v hk _ hv => ?_) (fun v hv => ?_)
  · obtain ⟨v1, z⟩ := v
    obtain ⟨e, hz⟩ := hv
    dsimp only at e hz
    subst e
    unfold fX8_copies_b2
    have ei : ix_ (nI k) = k := ix_n (by omega)
    simp only [ei]
    refine wp_if' (nI_ge (b := 12584) hk (by omega)) (wp_gd (ib_n (by omega) (by omega)) (wp_gd (ib_n (by omega) (by omega)) (wp_bd (wp_l ⟨nI_1 k, fun j hj => ?_⟩))))
    dsimp only
    by_cases h : j = k
    · rw [h, pt_a]
    · rw [pt_r h]
      exact hz j (by omega)
  · obtain ⟨v1, z⟩ := v
    obtain ⟨e, hz⟩ := hv
    dsimp only at e hz
    subst e
    unfold fX8_copies_b2
    exact wp_it (show (12584 : Int32) ≤ nI 12584 from Int32.le_refl _) (wp_r hz)
end COPY
